/-! SEGMENTS B (printed by wip/whole/gen_dec.py) -/
theorem yf_0_9 : zfld 0 9 = some (0, 0) := rfl
theorem yf_2_9 : zfld 2 9 = some (2, 0) := rfl
theorem yf_2_15 : zfld 2 15 = some (2, 1) := rfl
theorem yf_2_18 : zfld 2 18 = some (2, 2) := rfl
theorem yf_2_24 : zfld 2 24 = some (2, 4) := rfl
theorem yf_2_27 : zfld 2 27 = some (2, 5) := rfl
theorem yf_2_35 : zfld 2 35 = some (2, 6) := rfl
theorem yf_2_51 : zfld 2 51 = some (2, 12) := rfl
theorem yf_2_69 : zfld 2 69 = some (2, 11) := rfl
theorem yf_2_114 : zfld 2 114 = some (3, 1) := rfl
theorem yf_5_9 : zfld 5 9 = some (5, 0) := rfl
theorem yf_6_62 : zfld 6 62 = some (6, 3) := rfl
theorem yf_7_14 : zfld 7 14 = some (7, 0) := rfl
theorem yf_7_63 : zfld 7 63 = some (2, 10) := rfl
theorem yf_8_9 : zfld 8 9 = some (8, 1) := rfl
theorem yf_8_15 : zfld 8 15 = some (8, 2) := rfl
theorem yf_8_18 : zfld 8 18 = some (8, 3) := rfl
theorem yf_8_30 : zfld 8 30 = some (8, 10) := rfl
theorem yf_8_48 : zfld 8 48 = some (8, 22) := rfl
theorem yf_8_79 : zfld 8 79 = some (8, 37) := rfl
theorem yf_8_114 : zfld 8 114 = some (8, 0) := rfl
theorem yf_8_157 : zfld 8 157 = some (8, 9) := rfl
theorem yf_8_160 : zfld 8 160 = some (8, 11) := rfl
theorem yf_8_163 : zfld 8 163 = some (8, 12) := rfl
theorem yf_8_166 : zfld 8 166 = some (8, 13) := rfl
theorem yf_8_185 : zfld 8 185 = some (8, 23) := rfl
theorem yf_8_235 : zfld 8 235 = some (8, 8) := rfl
theorem yf_8_317 : zfld 8 317 = some (8, 36) := rfl
theorem ym_0_19 : zmth 0 19 = some (11, 22) := rfl
theorem ym_0_48 : zmth 0 48 = some (5, 10) := rfl
theorem ym_2_80 : zmth 2 80 = some (0, 20) := rfl
theorem ym_2_93 : zmth 2 93 = some (11, 22) := rfl
theorem ym_2_98 : zmth 2 98 = some (0, 19) := rfl
theorem ym_2_101 : zmth 2 101 = some (0, 21) := rfl
theorem ym_2_105 : zmth 2 105 = some (0, 18) := rfl
theorem ym_2_108 : zmth 2 108 = some (14, 23) := rfl
theorem ym_2_111 : zmth 2 111 = some (0, 17) := rfl
theorem ym_2_126 : zmth 2 126 = some (0, 26) := rfl
theorem ym_5_22 : zmth 5 22 = some (5, 10) := rfl
theorem ym_5_26 : zmth 5 26 = some (0, 123) := rfl
theorem ym_6_39 : zmth 6 39 = some (0, 50) := rfl
theorem ym_6_91 : zmth 6 91 = some (2, 66) := rfl
theorem ym_7_59 : zmth 7 59 = some (2, 10) := rfl
theorem ym_8_117 : zmth 8 117 = some (2, 129) := rfl
theorem ym_8_128 : zmth 8 128 = some (0, 133) := rfl
theorem ym_8_132 : zmth 8 132 = some (0, 134) := rfl
theorem ym_8_169 : zmth 8 169 = some (0, 160) := rfl
theorem ym_8_295 : zmth 8 295 = some (13, 195) := rfl
theorem f15_0 : decode prog_1_method_42_code 0 = .ok (.iload_n 1, 1) := by decide +kernel
theorem f15_1 : decode prog_1_method_42_code 1 = .ok (.aload_n 0, 1) := by decide +kernel
theorem f15_2 : decode prog_1_method_42_code 2 = .ok (.getfield 14, 3) := by decide +kernel
theorem f15_5 : decode prog_1_method_42_code 5 = .ok (.getfield 63, 3) := by decide +kernel
theorem f15_8 : decode prog_1_method_42_code 8 = .ok (.invokestatic 59, 3) := by decide +kernel
theorem f15_11 : decode prog_1_method_42_code 11 = .ok (.ireturn, 1) := by decide +kernel
theorem f16_0 : decode prog_4_method_14_code 0 = .ok (.iconst 0, 1) := by decide +kernel
theorem f16_1 : decode prog_4_method_14_code 1 = .ok (.istore_n 2, 1) := by decide +kernel
theorem f16_2 : decode prog_4_method_14_code 2 = .ok (.iconst 0, 1) := by decide +kernel
theorem f16_3 : decode prog_4_method_14_code 3 = .ok (.istore_n 3, 1) := by decide +kernel
theorem f16_4 : decode prog_4_method_14_code 4 = .ok (.iload_n 3, 1) := by decide +kernel
theorem f16_5 : decode prog_4_method_14_code 5 = .ok (.bipush 6, 2) := by decide +kernel
theorem f16_7 : decode prog_4_method_14_code 7 = .ok (.if_icmp .ge 21, 3) := by decide +kernel
theorem f16_10 : decode prog_4_method_14_code 10 = .ok (.iload_n 2, 1) := by decide +kernel
theorem f16_11 : decode prog_4_method_14_code 11 = .ok (.bipush 10, 2) := by decide +kernel
theorem f16_13 : decode prog_4_method_14_code 13 = .ok (.imul, 1) := by decide +kernel
theorem f16_14 : decode prog_4_method_14_code 14 = .ok (.aload_n 0, 1) := by decide +kernel
theorem f16_15 : decode prog_4_method_14_code 15 = .ok (.iload_n 1, 1) := by decide +kernel
theorem f16_16 : decode prog_4_method_14_code 16 = .ok (.iload_n 3, 1) := by decide +kernel
theorem f16_17 : decode prog_4_method_14_code 17 = .ok (.invokevirtual 111, 3) := by decide +kernel
theorem f16_20 : decode prog_4_method_14_code 20 = .ok (.iadd, 1) := by decide +kernel
theorem f16_21 : decode prog_4_method_14_code 21 = .ok (.istore_n 2, 1) := by decide +kernel
theorem f16_22 : decode prog_4_method_14_code 22 = .ok (.iinc 3 1, 3) := by decide +kernel
theorem f16_25 : decode prog_4_method_14_code 25 = .ok (.goto (-21), 3) := by decide +kernel
theorem f16_28 : decode prog_4_method_14_code 28 = .ok (.iload_n 2, 1) := by decide +kernel
theorem f16_29 : decode prog_4_method_14_code 29 = .ok (.ireturn, 1) := by decide +kernel
theorem f17_0 : decode prog_4_method_13_code 0 = .ok (.aload_n 0, 1) := by decide +kernel
theorem f17_1 : decode prog_4_method_13_code 1 = .ok (.iload_n 1, 1) := by decide +kernel
theorem f17_2 : decode prog_4_method_13_code 2 = .ok (.iload_n 2, 1) := by decide +kernel
theorem f17_3 : decode prog_4_method_13_code 3 = .ok (.invokevirtual 105, 3) := by decide +kernel
theorem f17_6 : decode prog_4_method_13_code 6 = .ok (.bipush 10, 2) := by decide +kernel
theorem f17_8 : decode prog_4_method_13_code 8 = .ok (.invokestatic 108, 3) := by decide +kernel
theorem f17_11 : decode prog_4_method_13_code 11 = .ok (.ireturn, 1) := by decide +kernel
theorem f18_0 : decode prog_4_method_11_code 0 = .ok (.aload_n 0, 1) := by decide +kernel
theorem f18_1 : decode prog_4_method_11_code 1 = .ok (.iload_n 1, 1) := by decide +kernel
theorem f18_2 : decode prog_4_method_11_code 2 = .ok (.iload_n 2, 1) := by decide +kernel
theorem f18_3 : decode prog_4_method_11_code 3 = .ok (.invokevirtual 98, 3) := by decide +kernel
theorem f18_6 : decode prog_4_method_11_code 6 = .ok (.aload_n 0, 1) := by decide +kernel
theorem f18_7 : decode prog_4_method_11_code 7 = .ok (.iload_n 1, 1) := by decide +kernel
theorem f18_8 : decode prog_4_method_11_code 8 = .ok (.iload_n 2, 1) := by decide +kernel
theorem f18_9 : decode prog_4_method_11_code 9 = .ok (.invokevirtual 80, 3) := by decide +kernel
theorem f18_12 : decode prog_4_method_11_code 12 = .ok (.aload_n 0, 1) := by decide +kernel
theorem f18_13 : decode prog_4_method_11_code 13 = .ok (.getfield 51, 3) := by decide +kernel
theorem f18_16 : decode prog_4_method_11_code 16 = .ok (.aload_n 0, 1) := by decide +kernel
theorem f18_17 : decode prog_4_method_11_code 17 = .ok (.getfield 27, 3) := by decide +kernel
theorem f18_20 : decode prog_4_method_11_code 20 = .ok (.invokevirtual 101, 3) := by decide +kernel
theorem f18_23 : decode prog_4_method_11_code 23 = .ok (.iadd, 1) := by decide +kernel
theorem f18_24 : decode prog_4_method_11_code 24 = .ok (.istore_n 3, 1) := by decide +kernel
theorem f18_25 : decode prog_4_method_11_code 25 = .ok (.aload_n 0, 1) := by decide +kernel
theorem f18_26 : decode prog_4_method_11_code 26 = .ok (.getfield 15, 3) := by decide +kernel
theorem f18_29 : decode prog_4_method_11_code 29 = .ok (.iload_n 1, 1) := by decide +kernel
theorem f18_30 : decode prog_4_method_11_code 30 = .ok (.iaload, 1) := by decide +kernel
theorem f18_31 : decode prog_4_method_11_code 31 = .ok (.istore 4, 2) := by decide +kernel
theorem f18_33 : decode prog_4_method_11_code 33 = .ok (.iload_n 2, 1) := by decide +kernel
theorem f18_34 : decode prog_4_method_11_code 34 = .ok (.iload 4, 2) := by decide +kernel
theorem f18_36 : decode prog_4_method_11_code 36 = .ok (.if_icmp .ne 7, 3) := by decide +kernel
theorem f18_39 : decode prog_4_method_11_code 39 = .ok (.iconst 0, 1) := by decide +kernel
theorem f18_40 : decode prog_4_method_11_code 40 = .ok (.goto 4, 3) := by decide +kernel
theorem f18_43 : decode prog_4_method_11_code 43 = .ok (.iload_n 3, 1) := by decide +kernel
theorem f18_44 : decode prog_4_method_11_code 44 = .ok (.istore 5, 2) := by decide +kernel
theorem f18_46 : decode prog_4_method_11_code 46 = .ok (.aload_n 0, 1) := by decide +kernel
theorem f18_47 : decode prog_4_method_11_code 47 = .ok (.getfield 9, 3) := by decide +kernel
theorem f18_50 : decode prog_4_method_11_code 50 = .ok (.iload_n 1, 1) := by decide +kernel
theorem f18_51 : decode prog_4_method_11_code 51 = .ok (.iaload, 1) := by decide +kernel
theorem f18_52 : decode prog_4_method_11_code 52 = .ok (.tableswitch 108 1 6 #[40, 45, 49, 52, 73, 89], 40) := by decide +kernel
theorem f18_92 : decode prog_4_method_11_code 92 = .ok (.iload_n 3, 1) := by decide +kernel
theorem f18_93 : decode prog_4_method_11_code 93 = .ok (.iload 4, 2) := by decide +kernel
theorem f18_95 : decode prog_4_method_11_code 95 = .ok (.iadd, 1) := by decide +kernel
theorem f18_96 : decode prog_4_method_11_code 96 = .ok (.ireturn, 1) := by decide +kernel
theorem f18_97 : decode prog_4_method_11_code 97 = .ok (.iload_n 3, 1) := by decide +kernel
theorem f18_98 : decode prog_4_method_11_code 98 = .ok (.iconst 2, 1) := by decide +kernel
theorem f18_99 : decode prog_4_method_11_code 99 = .ok (.idiv, 1) := by decide +kernel
theorem f18_100 : decode prog_4_method_11_code 100 = .ok (.ireturn, 1) := by decide +kernel
theorem f18_101 : decode prog_4_method_11_code 101 = .ok (.iload 5, 2) := by decide +kernel
theorem f18_103 : decode prog_4_method_11_code 103 = .ok (.ireturn, 1) := by decide +kernel
theorem f18_104 : decode prog_4_method_11_code 104 = .ok (.iload_n 2, 1) := by decide +kernel
theorem f18_105 : decode prog_4_method_11_code 105 = .ok (.iconst 2, 1) := by decide +kernel
theorem f18_106 : decode prog_4_method_11_code 106 = .ok (.irem, 1) := by decide +kernel
theorem f18_107 : decode prog_4_method_11_code 107 = .ok (.iconst 1, 1) := by decide +kernel
theorem f18_108 : decode prog_4_method_11_code 108 = .ok (.if_icmp .ne 12, 3) := by decide +kernel
theorem f18_111 : decode prog_4_method_11_code 111 = .ok (.iconst 2, 1) := by decide +kernel
theorem f18_112 : decode prog_4_method_11_code 112 = .ok (.iload_n 3, 1) := by decide +kernel
theorem f18_113 : decode prog_4_method_11_code 113 = .ok (.iload 4, 2) := by decide +kernel
theorem f18_115 : decode prog_4_method_11_code 115 = .ok (.iadd, 1) := by decide +kernel
theorem f18_116 : decode prog_4_method_11_code 116 = .ok (.imul, 1) := by decide +kernel
theorem f18_117 : decode prog_4_method_11_code 117 = .ok (.goto 7, 3) := by decide +kernel
theorem f18_120 : decode prog_4_method_11_code 120 = .ok (.iload_n 3, 1) := by decide +kernel
theorem f18_121 : decode prog_4_method_11_code 121 = .ok (.iload 4, 2) := by decide +kernel
theorem f18_123 : decode prog_4_method_11_code 123 = .ok (.iadd, 1) := by decide +kernel
theorem f18_124 : decode prog_4_method_11_code 124 = .ok (.ireturn, 1) := by decide +kernel
theorem f18_125 : decode prog_4_method_11_code 125 = .ok (.iload_n 3, 1) := by decide +kernel
theorem f18_126 : decode prog_4_method_11_code 126 = .ok (.iconst 2, 1) := by decide +kernel
theorem f18_127 : decode prog_4_method_11_code 127 = .ok (.idiv, 1) := by decide +kernel
theorem f18_128 : decode prog_4_method_11_code 128 = .ok (.aload_n 0, 1) := by decide +kernel
theorem f18_129 : decode prog_4_method_11_code 129 = .ok (.getfield 18, 3) := by decide +kernel
theorem f18_132 : decode prog_4_method_11_code 132 = .ok (.iload_n 1, 1) := by decide +kernel
theorem f18_133 : decode prog_4_method_11_code 133 = .ok (.iaload, 1) := by decide +kernel
theorem f18_134 : decode prog_4_method_11_code 134 = .ok (.bipush 9, 2) := by decide +kernel
theorem f18_136 : decode prog_4_method_11_code 136 = .ok (.invokestatic 93, 3) := by decide +kernel
theorem f18_139 : decode prog_4_method_11_code 139 = .ok (.iadd, 1) := by decide +kernel
theorem f18_140 : decode prog_4_method_11_code 140 = .ok (.ireturn, 1) := by decide +kernel
theorem f18_141 : decode prog_4_method_11_code 141 = .ok (.iload 5, 2) := by decide +kernel
theorem f18_143 : decode prog_4_method_11_code 143 = .ok (.aload_n 0, 1) := by decide +kernel
theorem f18_144 : decode prog_4_method_11_code 144 = .ok (.getfield 24, 3) := by decide +kernel
theorem f18_147 : decode prog_4_method_11_code 147 = .ok (.iload_n 1, 1) := by decide +kernel
theorem f18_148 : decode prog_4_method_11_code 148 = .ok (.iconst 4, 1) := by decide +kernel
theorem f18_149 : decode prog_4_method_11_code 149 = .ok (.imul, 1) := by decide +kernel
theorem f18_150 : decode prog_4_method_11_code 150 = .ok (.aload_n 0, 1) := by decide +kernel
theorem f18_151 : decode prog_4_method_11_code 151 = .ok (.getfield 69, 3) := by decide +kernel
theorem f18_154 : decode prog_4_method_11_code 154 = .ok (.iconst 4, 1) := by decide +kernel
theorem f18_155 : decode prog_4_method_11_code 155 = .ok (.irem, 1) := by decide +kernel
theorem f18_156 : decode prog_4_method_11_code 156 = .ok (.iadd, 1) := by decide +kernel
theorem f18_157 : decode prog_4_method_11_code 157 = .ok (.iaload, 1) := by decide +kernel
theorem f18_158 : decode prog_4_method_11_code 158 = .ok (.iadd, 1) := by decide +kernel
theorem f18_159 : decode prog_4_method_11_code 159 = .ok (.ireturn, 1) := by decide +kernel
theorem f18_160 : decode prog_4_method_11_code 160 = .ok (.iload_n 3, 1) := by decide +kernel
theorem f18_161 : decode prog_4_method_11_code 161 = .ok (.ireturn, 1) := by decide +kernel
theorem f19_0 : decode prog_4_method_12_code 0 = .ok (.aload_n 0, 1) := by decide +kernel
theorem f19_1 : decode prog_4_method_12_code 1 = .ok (.getfield 27, 3) := by decide +kernel
theorem f19_4 : decode prog_4_method_12_code 4 = .ok (.iconst 0, 1) := by decide +kernel
theorem f19_5 : decode prog_4_method_12_code 5 = .ok (.iload_n 1, 1) := by decide +kernel
theorem f19_6 : decode prog_4_method_12_code 6 = .ok (.iastore, 1) := by decide +kernel
theorem f19_7 : decode prog_4_method_12_code 7 = .ok (.aload_n 0, 1) := by decide +kernel
theorem f19_8 : decode prog_4_method_12_code 8 = .ok (.getfield 27, 3) := by decide +kernel
theorem f19_11 : decode prog_4_method_12_code 11 = .ok (.iconst 1, 1) := by decide +kernel
theorem f19_12 : decode prog_4_method_12_code 12 = .ok (.aload_n 0, 1) := by decide +kernel
theorem f19_13 : decode prog_4_method_12_code 13 = .ok (.getfield 9, 3) := by decide +kernel
theorem f19_16 : decode prog_4_method_12_code 16 = .ok (.iload_n 1, 1) := by decide +kernel
theorem f19_17 : decode prog_4_method_12_code 17 = .ok (.iaload, 1) := by decide +kernel
theorem f19_18 : decode prog_4_method_12_code 18 = .ok (.iastore, 1) := by decide +kernel
theorem f19_19 : decode prog_4_method_12_code 19 = .ok (.aload_n 0, 1) := by decide +kernel
theorem f19_20 : decode prog_4_method_12_code 20 = .ok (.getfield 27, 3) := by decide +kernel
theorem f19_23 : decode prog_4_method_12_code 23 = .ok (.iconst 2, 1) := by decide +kernel
theorem f19_24 : decode prog_4_method_12_code 24 = .ok (.aload_n 0, 1) := by decide +kernel
theorem f19_25 : decode prog_4_method_12_code 25 = .ok (.getfield 15, 3) := by decide +kernel
theorem f19_28 : decode prog_4_method_12_code 28 = .ok (.iload_n 1, 1) := by decide +kernel
theorem f19_29 : decode prog_4_method_12_code 29 = .ok (.iaload, 1) := by decide +kernel
theorem f19_30 : decode prog_4_method_12_code 30 = .ok (.iastore, 1) := by decide +kernel
theorem f19_31 : decode prog_4_method_12_code 31 = .ok (.aload_n 0, 1) := by decide +kernel
theorem f19_32 : decode prog_4_method_12_code 32 = .ok (.getfield 27, 3) := by decide +kernel
theorem f19_35 : decode prog_4_method_12_code 35 = .ok (.iconst 3, 1) := by decide +kernel
theorem f19_36 : decode prog_4_method_12_code 36 = .ok (.iload_n 2, 1) := by decide +kernel
theorem f19_37 : decode prog_4_method_12_code 37 = .ok (.iastore, 1) := by decide +kernel
theorem f19_38 : decode prog_4_method_12_code 38 = .ok (.aload_n 0, 1) := by decide +kernel
theorem f19_39 : decode prog_4_method_12_code 39 = .ok (.getfield 27, 3) := by decide +kernel
theorem f19_42 : decode prog_4_method_12_code 42 = .ok (.iconst 4, 1) := by decide +kernel
theorem f19_43 : decode prog_4_method_12_code 43 = .ok (.aload_n 0, 1) := by decide +kernel
theorem f19_44 : decode prog_4_method_12_code 44 = .ok (.getfield 21, 3) := by decide +kernel
theorem f19_47 : decode prog_4_method_12_code 47 = .ok (.iload_n 1, 1) := by decide +kernel
theorem f19_48 : decode prog_4_method_12_code 48 = .ok (.bipush 6, 2) := by decide +kernel
theorem f19_50 : decode prog_4_method_12_code 50 = .ok (.imul, 1) := by decide +kernel
theorem f19_51 : decode prog_4_method_12_code 51 = .ok (.iload_n 2, 1) := by decide +kernel
theorem f19_52 : decode prog_4_method_12_code 52 = .ok (.iadd, 1) := by decide +kernel
theorem f19_53 : decode prog_4_method_12_code 53 = .ok (.iaload, 1) := by decide +kernel
theorem f19_54 : decode prog_4_method_12_code 54 = .ok (.iastore, 1) := by decide +kernel
theorem f19_55 : decode prog_4_method_12_code 55 = .ok (.aload_n 0, 1) := by decide +kernel
theorem f19_56 : decode prog_4_method_12_code 56 = .ok (.getfield 27, 3) := by decide +kernel
theorem f19_59 : decode prog_4_method_12_code 59 = .ok (.iconst 5, 1) := by decide +kernel
theorem f19_60 : decode prog_4_method_12_code 60 = .ok (.aload_n 0, 1) := by decide +kernel
theorem f19_61 : decode prog_4_method_12_code 61 = .ok (.getfield 69, 3) := by decide +kernel
theorem f19_64 : decode prog_4_method_12_code 64 = .ok (.bipush 10, 2) := by decide +kernel
theorem f19_66 : decode prog_4_method_12_code 66 = .ok (.irem, 1) := by decide +kernel
theorem f19_67 : decode prog_4_method_12_code 67 = .ok (.iastore, 1) := by decide +kernel
theorem f19_68 : decode prog_4_method_12_code 68 = .ok (.return_, 1) := by decide +kernel
theorem f21_0 : decode prog_6_method_4_code 0 = .ok (.iconst 0, 1) := by decide +kernel
theorem f21_1 : decode prog_6_method_4_code 1 = .ok (.istore_n 2, 1) := by decide +kernel
theorem f21_2 : decode prog_6_method_4_code 2 = .ok (.iconst 0, 1) := by decide +kernel
theorem f21_3 : decode prog_6_method_4_code 3 = .ok (.istore_n 3, 1) := by decide +kernel
theorem f21_4 : decode prog_6_method_4_code 4 = .ok (.iconst 0, 1) := by decide +kernel
theorem f21_5 : decode prog_6_method_4_code 5 = .ok (.istore 4, 2) := by decide +kernel
theorem f21_7 : decode prog_6_method_4_code 7 = .ok (.iload 4, 2) := by decide +kernel
theorem f21_9 : decode prog_6_method_4_code 9 = .ok (.aload_n 0, 1) := by decide +kernel
theorem f21_10 : decode prog_6_method_4_code 10 = .ok (.getfield 21, 3) := by decide +kernel
theorem f21_13 : decode prog_6_method_4_code 13 = .ok (.if_icmp .ge 192, 3) := by decide +kernel
theorem f21_16 : decode prog_6_method_4_code 16 = .ok (.aload_n 0, 1) := by decide +kernel
theorem f21_17 : decode prog_6_method_4_code 17 = .ok (.getfield 18, 3) := by decide +kernel
theorem f21_20 : decode prog_6_method_4_code 20 = .ok (.iload 4, 2) := by decide +kernel
theorem f21_22 : decode prog_6_method_4_code 22 = .ok (.iaload, 1) := by decide +kernel
theorem f21_23 : decode prog_6_method_4_code 23 = .ok (.istore 5, 2) := by decide +kernel
theorem f21_25 : decode prog_6_method_4_code 25 = .ok (.aload_n 1, 1) := by decide +kernel
theorem f21_26 : decode prog_6_method_4_code 26 = .ok (.aload_n 0, 1) := by decide +kernel
theorem f21_27 : decode prog_6_method_4_code 27 = .ok (.getfield 15, 3) := by decide +kernel
theorem f21_30 : decode prog_6_method_4_code 30 = .ok (.iload 4, 2) := by decide +kernel
theorem f21_32 : decode prog_6_method_4_code 32 = .ok (.iaload, 1) := by decide +kernel
theorem f21_33 : decode prog_6_method_4_code 33 = .ok (.iaload, 1) := by decide +kernel
theorem f21_34 : decode prog_6_method_4_code 34 = .ok (.istore 6, 2) := by decide +kernel
theorem f21_36 : decode prog_6_method_4_code 36 = .ok (.aload_n 0, 1) := by decide +kernel
theorem f21_37 : decode prog_6_method_4_code 37 = .ok (.getfield 9, 3) := by decide +kernel
theorem f21_40 : decode prog_6_method_4_code 40 = .ok (.iload 4, 2) := by decide +kernel
theorem f21_42 : decode prog_6_method_4_code 42 = .ok (.iaload, 1) := by decide +kernel
theorem f21_43 : decode prog_6_method_4_code 43 = .ok (.tableswitch 138 1 6 #[37, 57, 77, 97, 104, 127], 37) := by decide +kernel
theorem f21_80 : decode prog_6_method_4_code 80 = .ok (.iload_n 3, 1) := by decide +kernel
theorem f21_81 : decode prog_6_method_4_code 81 = .ok (.iconst 1, 1) := by decide +kernel
theorem f21_82 : decode prog_6_method_4_code 82 = .ok (.ishl, 1) := by decide +kernel
theorem f21_83 : decode prog_6_method_4_code 83 = .ok (.iload 6, 2) := by decide +kernel
theorem f21_85 : decode prog_6_method_4_code 85 = .ok (.iload 5, 2) := by decide +kernel
theorem f21_87 : decode prog_6_method_4_code 87 = .ok (.if_icmp .ge 7, 3) := by decide +kernel
theorem f21_90 : decode prog_6_method_4_code 90 = .ok (.iconst 1, 1) := by decide +kernel
theorem f21_91 : decode prog_6_method_4_code 91 = .ok (.goto 4, 3) := by decide +kernel
theorem f21_94 : decode prog_6_method_4_code 94 = .ok (.iconst 0, 1) := by decide +kernel
theorem f21_95 : decode prog_6_method_4_code 95 = .ok (.ior, 1) := by decide +kernel
theorem f21_96 : decode prog_6_method_4_code 96 = .ok (.istore_n 3, 1) := by decide +kernel
theorem f21_97 : decode prog_6_method_4_code 97 = .ok (.goto 102, 3) := by decide +kernel
theorem f21_100 : decode prog_6_method_4_code 100 = .ok (.iload_n 3, 1) := by decide +kernel
theorem f21_101 : decode prog_6_method_4_code 101 = .ok (.iconst 1, 1) := by decide +kernel
theorem f21_102 : decode prog_6_method_4_code 102 = .ok (.ishl, 1) := by decide +kernel
theorem f21_103 : decode prog_6_method_4_code 103 = .ok (.iload 6, 2) := by decide +kernel
theorem f21_105 : decode prog_6_method_4_code 105 = .ok (.iload 5, 2) := by decide +kernel
theorem f21_107 : decode prog_6_method_4_code 107 = .ok (.if_icmp .ne 7, 3) := by decide +kernel
theorem f21_110 : decode prog_6_method_4_code 110 = .ok (.iconst 1, 1) := by decide +kernel
theorem f21_111 : decode prog_6_method_4_code 111 = .ok (.goto 4, 3) := by decide +kernel
theorem f21_114 : decode prog_6_method_4_code 114 = .ok (.iconst 0, 1) := by decide +kernel
theorem f21_115 : decode prog_6_method_4_code 115 = .ok (.ior, 1) := by decide +kernel
theorem f21_116 : decode prog_6_method_4_code 116 = .ok (.istore_n 3, 1) := by decide +kernel
theorem f21_117 : decode prog_6_method_4_code 117 = .ok (.goto 82, 3) := by decide +kernel
theorem f21_120 : decode prog_6_method_4_code 120 = .ok (.iload_n 3, 1) := by decide +kernel
theorem f21_121 : decode prog_6_method_4_code 121 = .ok (.iconst 1, 1) := by decide +kernel
theorem f21_122 : decode prog_6_method_4_code 122 = .ok (.ishl, 1) := by decide +kernel
theorem f21_123 : decode prog_6_method_4_code 123 = .ok (.iload 6, 2) := by decide +kernel
theorem f21_125 : decode prog_6_method_4_code 125 = .ok (.iload 5, 2) := by decide +kernel
theorem f21_127 : decode prog_6_method_4_code 127 = .ok (.if_icmp .le 7, 3) := by decide +kernel
theorem f21_130 : decode prog_6_method_4_code 130 = .ok (.iconst 1, 1) := by decide +kernel
theorem f21_131 : decode prog_6_method_4_code 131 = .ok (.goto 4, 3) := by decide +kernel
theorem f21_134 : decode prog_6_method_4_code 134 = .ok (.iconst 0, 1) := by decide +kernel
theorem f21_135 : decode prog_6_method_4_code 135 = .ok (.ior, 1) := by decide +kernel
theorem f21_136 : decode prog_6_method_4_code 136 = .ok (.istore_n 3, 1) := by decide +kernel
theorem f21_137 : decode prog_6_method_4_code 137 = .ok (.goto 62, 3) := by decide +kernel
theorem f21_140 : decode prog_6_method_4_code 140 = .ok (.iload_n 3, 1) := by decide +kernel
theorem f21_141 : decode prog_6_method_4_code 141 = .ok (.iconst 1, 1) := by decide +kernel
theorem f21_142 : decode prog_6_method_4_code 142 = .ok (.ixor, 1) := by decide +kernel
theorem f21_143 : decode prog_6_method_4_code 143 = .ok (.istore_n 3, 1) := by decide +kernel
theorem f21_144 : decode prog_6_method_4_code 144 = .ok (.goto 55, 3) := by decide +kernel
theorem f21_147 : decode prog_6_method_4_code 147 = .ok (.iload_n 3, 1) := by decide +kernel
theorem f21_148 : decode prog_6_method_4_code 148 = .ok (.iconst 1, 1) := by decide +kernel
theorem f21_149 : decode prog_6_method_4_code 149 = .ok (.iand, 1) := by decide +kernel
theorem f21_150 : decode prog_6_method_4_code 150 = .ok (.iconst 1, 1) := by decide +kernel
theorem f21_151 : decode prog_6_method_4_code 151 = .ok (.if_icmp .ne 9, 3) := by decide +kernel
theorem f21_154 : decode prog_6_method_4_code 154 = .ok (.iload_n 3, 1) := by decide +kernel
theorem f21_155 : decode prog_6_method_4_code 155 = .ok (.iconst 1, 1) := by decide +kernel
theorem f21_156 : decode prog_6_method_4_code 156 = .ok (.ishr, 1) := by decide +kernel
theorem f21_157 : decode prog_6_method_4_code 157 = .ok (.goto 9, 3) := by decide +kernel
theorem f21_160 : decode prog_6_method_4_code 160 = .ok (.iload_n 3, 1) := by decide +kernel
theorem f21_161 : decode prog_6_method_4_code 161 = .ok (.iconst 1, 1) := by decide +kernel
theorem f21_162 : decode prog_6_method_4_code 162 = .ok (.ishr, 1) := by decide +kernel
theorem f21_163 : decode prog_6_method_4_code 163 = .ok (.bipush (-2), 2) := by decide +kernel
theorem f21_165 : decode prog_6_method_4_code 165 = .ok (.iand, 1) := by decide +kernel
theorem f21_166 : decode prog_6_method_4_code 166 = .ok (.istore_n 3, 1) := by decide +kernel
theorem f21_167 : decode prog_6_method_4_code 167 = .ok (.goto 32, 3) := by decide +kernel
theorem f21_170 : decode prog_6_method_4_code 170 = .ok (.iload_n 3, 1) := by decide +kernel
theorem f21_171 : decode prog_6_method_4_code 171 = .ok (.iconst 1, 1) := by decide +kernel
theorem f21_172 : decode prog_6_method_4_code 172 = .ok (.ishr, 1) := by decide +kernel
theorem f21_173 : decode prog_6_method_4_code 173 = .ok (.iload_n 3, 1) := by decide +kernel
theorem f21_174 : decode prog_6_method_4_code 174 = .ok (.iconst 1, 1) := by decide +kernel
theorem f21_175 : decode prog_6_method_4_code 175 = .ok (.iand, 1) := by decide +kernel
theorem f21_176 : decode prog_6_method_4_code 176 = .ok (.ior, 1) := by decide +kernel
theorem f21_177 : decode prog_6_method_4_code 177 = .ok (.istore_n 3, 1) := by decide +kernel
theorem f21_178 : decode prog_6_method_4_code 178 = .ok (.goto 21, 3) := by decide +kernel
theorem f21_181 : decode prog_6_method_4_code 181 = .ok (.iload_n 2, 1) := by decide +kernel
theorem f21_182 : decode prog_6_method_4_code 182 = .ok (.iload_n 3, 1) := by decide +kernel
theorem f21_183 : decode prog_6_method_4_code 183 = .ok (.iconst 1, 1) := by decide +kernel
theorem f21_184 : decode prog_6_method_4_code 184 = .ok (.iand, 1) := by decide +kernel
theorem f21_185 : decode prog_6_method_4_code 185 = .ok (.iconst 1, 1) := by decide +kernel
theorem f21_186 : decode prog_6_method_4_code 186 = .ok (.if_icmp .ne 8, 3) := by decide +kernel
theorem f21_189 : decode prog_6_method_4_code 189 = .ok (.iload 5, 2) := by decide +kernel
theorem f21_191 : decode prog_6_method_4_code 191 = .ok (.goto 4, 3) := by decide +kernel
theorem f21_194 : decode prog_6_method_4_code 194 = .ok (.iconst 0, 1) := by decide +kernel
theorem f21_195 : decode prog_6_method_4_code 195 = .ok (.iadd, 1) := by decide +kernel
theorem f21_196 : decode prog_6_method_4_code 196 = .ok (.istore_n 2, 1) := by decide +kernel
theorem f21_197 : decode prog_6_method_4_code 197 = .ok (.iconst 0, 1) := by decide +kernel
theorem f21_198 : decode prog_6_method_4_code 198 = .ok (.istore_n 3, 1) := by decide +kernel
theorem f21_199 : decode prog_6_method_4_code 199 = .ok (.iinc 4 1, 3) := by decide +kernel
theorem f21_202 : decode prog_6_method_4_code 202 = .ok (.goto (-195), 3) := by decide +kernel
theorem f21_205 : decode prog_6_method_4_code 205 = .ok (.iload_n 2, 1) := by decide +kernel
theorem f21_206 : decode prog_6_method_4_code 206 = .ok (.ireturn, 1) := by decide +kernel
theorem f25_0 : decode prog_4_method_16_code 0 = .ok (.iconst 0, 1) := by decide +kernel
theorem f25_1 : decode prog_4_method_16_code 1 = .ok (.istore_n 1, 1) := by decide +kernel
theorem f25_2 : decode prog_4_method_16_code 2 = .ok (.iconst 0, 1) := by decide +kernel
theorem f25_3 : decode prog_4_method_16_code 3 = .ok (.istore_n 2, 1) := by decide +kernel
theorem f25_4 : decode prog_4_method_16_code 4 = .ok (.iload_n 2, 1) := by decide +kernel
theorem f25_5 : decode prog_4_method_16_code 5 = .ok (.aload_n 0, 1) := by decide +kernel
theorem f25_6 : decode prog_4_method_16_code 6 = .ok (.getfield 35, 3) := by decide +kernel
theorem f25_9 : decode prog_4_method_16_code 9 = .ok (.getfield 114, 3) := by decide +kernel
theorem f25_12 : decode prog_4_method_16_code 12 = .ok (.if_icmp .ge 24, 3) := by decide +kernel
theorem f25_15 : decode prog_4_method_16_code 15 = .ok (.iload_n 1, 1) := by decide +kernel
theorem f25_16 : decode prog_4_method_16_code 16 = .ok (.bipush 10, 2) := by decide +kernel
theorem f25_18 : decode prog_4_method_16_code 18 = .ok (.imul, 1) := by decide +kernel
theorem f25_19 : decode prog_4_method_16_code 19 = .ok (.aload_n 0, 1) := by decide +kernel
theorem f25_20 : decode prog_4_method_16_code 20 = .ok (.getfield 35, 3) := by decide +kernel
theorem f25_23 : decode prog_4_method_16_code 23 = .ok (.iload_n 2, 1) := by decide +kernel
theorem f25_24 : decode prog_4_method_16_code 24 = .ok (.iconst 0, 1) := by decide +kernel
theorem f25_25 : decode prog_4_method_16_code 25 = .ok (.invokevirtual 126, 3) := by decide +kernel
theorem f25_28 : decode prog_4_method_16_code 28 = .ok (.iadd, 1) := by decide +kernel
theorem f25_29 : decode prog_4_method_16_code 29 = .ok (.istore_n 1, 1) := by decide +kernel
theorem f25_30 : decode prog_4_method_16_code 30 = .ok (.iinc 2 1, 3) := by decide +kernel
theorem f25_33 : decode prog_4_method_16_code 33 = .ok (.goto (-29), 3) := by decide +kernel
theorem f25_36 : decode prog_4_method_16_code 36 = .ok (.iload_n 1, 1) := by decide +kernel
theorem f25_37 : decode prog_4_method_16_code 37 = .ok (.ireturn, 1) := by decide +kernel
theorem f31_0 : decode prog_4_method_7_code 0 = .ok (.aload_n 0, 1) := by decide +kernel
theorem f31_1 : decode prog_4_method_7_code 1 = .ok (.iload_n 1, 1) := by decide +kernel
theorem f31_2 : decode prog_4_method_7_code 2 = .ok (.iload_n 2, 1) := by decide +kernel
theorem f31_3 : decode prog_4_method_7_code 3 = .ok (.aload_n 0, 1) := by decide +kernel
theorem f31_4 : decode prog_4_method_7_code 4 = .ok (.iload_n 1, 1) := by decide +kernel
theorem f31_5 : decode prog_4_method_7_code 5 = .ok (.iload_n 2, 1) := by decide +kernel
theorem f31_6 : decode prog_4_method_7_code 6 = .ok (.invokevirtual 80, 3) := by decide +kernel
theorem f31_9 : decode prog_4_method_7_code 9 = .ok (.iconst 1, 1) := by decide +kernel
theorem f31_10 : decode prog_4_method_7_code 10 = .ok (.iadd, 1) := by decide +kernel
theorem f31_11 : decode prog_4_method_7_code 11 = .ok (.bipush 10, 2) := by decide +kernel
theorem f31_13 : decode prog_4_method_7_code 13 = .ok (.irem, 1) := by decide +kernel
theorem f31_14 : decode prog_4_method_7_code 14 = .ok (.invokevirtual 76, 3) := by decide +kernel
theorem f31_17 : decode prog_4_method_7_code 17 = .ok (.return_, 1) := by decide +kernel
theorem f63_0 : decode prog_8_method_17_code 0 = .ok (.aload_n 0, 1) := by decide +kernel
theorem f63_1 : decode prog_8_method_17_code 1 = .ok (.invokevirtual 39, 3) := by decide +kernel
theorem f63_4 : decode prog_8_method_17_code 4 = .ok (.iload_n 1, 1) := by decide +kernel
theorem f63_5 : decode prog_8_method_17_code 5 = .ok (.if_icmp .eq 5, 3) := by decide +kernel
theorem f63_8 : decode prog_8_method_17_code 8 = .ok (.iconst 0, 1) := by decide +kernel
theorem f63_9 : decode prog_8_method_17_code 9 = .ok (.ireturn, 1) := by decide +kernel
theorem f63_10 : decode prog_8_method_17_code 10 = .ok (.aload_n 0, 1) := by decide +kernel
theorem f63_11 : decode prog_8_method_17_code 11 = .ok (.dup, 1) := by decide +kernel
theorem f63_12 : decode prog_8_method_17_code 12 = .ok (.getfield 28, 3) := by decide +kernel
theorem f63_15 : decode prog_8_method_17_code 15 = .ok (.iconst 1, 1) := by decide +kernel
theorem f63_16 : decode prog_8_method_17_code 16 = .ok (.iadd, 1) := by decide +kernel
theorem f63_17 : decode prog_8_method_17_code 17 = .ok (.putfield 28, 3) := by decide +kernel
theorem f63_20 : decode prog_8_method_17_code 20 = .ok (.iconst 1, 1) := by decide +kernel
theorem f63_21 : decode prog_8_method_17_code 21 = .ok (.ireturn, 1) := by decide +kernel
theorem f65_0 : decode prog_8_method_14_code 0 = .ok (.aload_n 0, 1) := by decide +kernel
theorem f65_1 : decode prog_8_method_14_code 1 = .ok (.invokevirtual 39, 3) := by decide +kernel
theorem f65_4 : decode prog_8_method_14_code 4 = .ok (.invokestatic 91, 3) := by decide +kernel
theorem f65_7 : decode prog_8_method_14_code 7 = .ok (.ifCond .ne 5, 3) := by decide +kernel
theorem f65_10 : decode prog_8_method_14_code 10 = .ok (.iconst 0, 1) := by decide +kernel
theorem f65_11 : decode prog_8_method_14_code 11 = .ok (.ireturn, 1) := by decide +kernel
theorem f65_12 : decode prog_8_method_14_code 12 = .ok (.aload_n 0, 1) := by decide +kernel
theorem f65_13 : decode prog_8_method_14_code 13 = .ok (.aload_n 0, 1) := by decide +kernel
theorem f65_14 : decode prog_8_method_14_code 14 = .ok (.invokevirtual 39, 3) := by decide +kernel
theorem f65_17 : decode prog_8_method_14_code 17 = .ok (.bipush 48, 2) := by decide +kernel
theorem f65_19 : decode prog_8_method_14_code 19 = .ok (.isub, 1) := by decide +kernel
theorem f65_20 : decode prog_8_method_14_code 20 = .ok (.putfield 62, 3) := by decide +kernel
theorem f65_23 : decode prog_8_method_14_code 23 = .ok (.aload_n 0, 1) := by decide +kernel
theorem f65_24 : decode prog_8_method_14_code 24 = .ok (.dup, 1) := by decide +kernel
theorem f65_25 : decode prog_8_method_14_code 25 = .ok (.getfield 28, 3) := by decide +kernel
theorem f65_28 : decode prog_8_method_14_code 28 = .ok (.iconst 1, 1) := by decide +kernel
theorem f65_29 : decode prog_8_method_14_code 29 = .ok (.iadd, 1) := by decide +kernel
theorem f65_30 : decode prog_8_method_14_code 30 = .ok (.putfield 28, 3) := by decide +kernel
theorem f65_33 : decode prog_8_method_14_code 33 = .ok (.aload_n 0, 1) := by decide +kernel
theorem f65_34 : decode prog_8_method_14_code 34 = .ok (.invokevirtual 39, 3) := by decide +kernel
theorem f65_37 : decode prog_8_method_14_code 37 = .ok (.invokestatic 91, 3) := by decide +kernel
theorem f65_40 : decode prog_8_method_14_code 40 = .ok (.ifCond .eq 32, 3) := by decide +kernel
theorem f65_43 : decode prog_8_method_14_code 43 = .ok (.aload_n 0, 1) := by decide +kernel
theorem f65_44 : decode prog_8_method_14_code 44 = .ok (.aload_n 0, 1) := by decide +kernel
theorem f65_45 : decode prog_8_method_14_code 45 = .ok (.getfield 62, 3) := by decide +kernel
theorem f65_48 : decode prog_8_method_14_code 48 = .ok (.bipush 10, 2) := by decide +kernel
theorem f65_50 : decode prog_8_method_14_code 50 = .ok (.imul, 1) := by decide +kernel
theorem f65_51 : decode prog_8_method_14_code 51 = .ok (.aload_n 0, 1) := by decide +kernel
theorem f65_52 : decode prog_8_method_14_code 52 = .ok (.invokevirtual 39, 3) := by decide +kernel
theorem f65_55 : decode prog_8_method_14_code 55 = .ok (.iadd, 1) := by decide +kernel
theorem f65_56 : decode prog_8_method_14_code 56 = .ok (.bipush 48, 2) := by decide +kernel
theorem f65_58 : decode prog_8_method_14_code 58 = .ok (.isub, 1) := by decide +kernel
theorem f65_59 : decode prog_8_method_14_code 59 = .ok (.putfield 62, 3) := by decide +kernel
theorem f65_62 : decode prog_8_method_14_code 62 = .ok (.aload_n 0, 1) := by decide +kernel
theorem f65_63 : decode prog_8_method_14_code 63 = .ok (.dup, 1) := by decide +kernel
theorem f65_64 : decode prog_8_method_14_code 64 = .ok (.getfield 28, 3) := by decide +kernel
theorem f65_67 : decode prog_8_method_14_code 67 = .ok (.iconst 1, 1) := by decide +kernel
theorem f65_68 : decode prog_8_method_14_code 68 = .ok (.iadd, 1) := by decide +kernel
theorem f65_69 : decode prog_8_method_14_code 69 = .ok (.putfield 28, 3) := by decide +kernel
theorem f65_72 : decode prog_8_method_14_code 72 = .ok (.iconst 1, 1) := by decide +kernel
theorem f65_73 : decode prog_8_method_14_code 73 = .ok (.ireturn, 1) := by decide +kernel
theorem f104_0 : decode prog_7_method_3_code 0 = .ok (.iload_n 1, 1) := by decide +kernel
theorem f104_1 : decode prog_7_method_3_code 1 = .ok (.aload_n 0, 1) := by decide +kernel
theorem f104_2 : decode prog_7_method_3_code 2 = .ok (.getfield 19, 3) := by decide +kernel
theorem f104_5 : decode prog_7_method_3_code 5 = .ok (.invokestatic 22, 3) := by decide +kernel
theorem f104_8 : decode prog_7_method_3_code 8 = .ok (.ireturn, 1) := by decide +kernel
theorem f111_0 : decode prog_2_method_6_code 0 = .ok (.iload_n 0, 1) := by decide +kernel
theorem f111_1 : decode prog_2_method_6_code 1 = .ok (.istore_n 2, 1) := by decide +kernel
theorem f111_2 : decode prog_2_method_6_code 2 = .ok (.iconst 0, 1) := by decide +kernel
theorem f111_3 : decode prog_2_method_6_code 3 = .ok (.istore_n 3, 1) := by decide +kernel
theorem f111_4 : decode prog_2_method_6_code 4 = .ok (.iload_n 3, 1) := by decide +kernel
theorem f111_5 : decode prog_2_method_6_code 5 = .ok (.bipush 7, 2) := by decide +kernel
theorem f111_7 : decode prog_2_method_6_code 7 = .ok (.if_icmp .ge 43, 3) := by decide +kernel
theorem f111_10 : decode prog_2_method_6_code 10 = .ok (.iload_n 2, 1) := by decide +kernel
theorem f111_11 : decode prog_2_method_6_code 11 = .ok (.bipush 7, 2) := by decide +kernel
theorem f111_13 : decode prog_2_method_6_code 13 = .ok (.invokestatic 48, 3) := by decide +kernel
theorem f111_16 : decode prog_2_method_6_code 16 = .ok (.ifCond .eq 34, 3) := by decide +kernel
theorem f111_19 : decode prog_2_method_6_code 19 = .ok (.getstatic 52, 3) := by decide +kernel
theorem f111_22 : decode prog_2_method_6_code 22 = .ok (.iload_n 2, 1) := by decide +kernel
theorem f111_23 : decode prog_2_method_6_code 23 = .ok (.iconst 3, 1) := by decide +kernel
theorem f111_24 : decode prog_2_method_6_code 24 = .ok (.imul, 1) := by decide +kernel
theorem f111_25 : decode prog_2_method_6_code 25 = .ok (.iload_n 1, 1) := by decide +kernel
theorem f111_26 : decode prog_2_method_6_code 26 = .ok (.iadd, 1) := by decide +kernel
theorem f111_27 : decode prog_2_method_6_code 27 = .ok (.iaload, 1) := by decide +kernel
theorem f111_28 : decode prog_2_method_6_code 28 = .ok (.istore 4, 2) := by decide +kernel
theorem f111_30 : decode prog_2_method_6_code 30 = .ok (.iload 4, 2) := by decide +kernel
theorem f111_32 : decode prog_2_method_6_code 32 = .ok (.ifCond .eq 6, 3) := by decide +kernel
theorem f111_35 : decode prog_2_method_6_code 35 = .ok (.iload 4, 2) := by decide +kernel
theorem f111_37 : decode prog_2_method_6_code 37 = .ok (.ireturn, 1) := by decide +kernel
theorem f111_38 : decode prog_2_method_6_code 38 = .ok (.getstatic 45, 3) := by decide +kernel
theorem f111_41 : decode prog_2_method_6_code 41 = .ok (.iload_n 2, 1) := by decide +kernel
theorem f111_42 : decode prog_2_method_6_code 42 = .ok (.iaload, 1) := by decide +kernel
theorem f111_43 : decode prog_2_method_6_code 43 = .ok (.istore_n 2, 1) := by decide +kernel
theorem f111_44 : decode prog_2_method_6_code 44 = .ok (.iinc 3 1, 3) := by decide +kernel
theorem f111_47 : decode prog_2_method_6_code 47 = .ok (.goto (-43), 3) := by decide +kernel
theorem f111_50 : decode prog_2_method_6_code 50 = .ok (.iconst 0, 1) := by decide +kernel
theorem f111_51 : decode prog_2_method_6_code 51 = .ok (.ireturn, 1) := by decide +kernel
theorem f112_0 : decode prog_2_method_7_code 0 = .ok (.aload_n 0, 1) := by decide +kernel
theorem f112_1 : decode prog_2_method_7_code 1 = .ok (.getfield 15, 3) := by decide +kernel
theorem f112_4 : decode prog_2_method_7_code 4 = .ok (.bipush 20, 2) := by decide +kernel
theorem f112_6 : decode prog_2_method_7_code 6 = .ok (.if_icmp .ge 13, 3) := by decide +kernel
theorem f112_9 : decode prog_2_method_7_code 9 = .ok (.aload_n 0, 1) := by decide +kernel
theorem f112_10 : decode prog_2_method_7_code 10 = .ok (.getfield 9, 3) := by decide +kernel
theorem f112_13 : decode prog_2_method_7_code 13 = .ok (.aload_n 0, 1) := by decide +kernel
theorem f112_14 : decode prog_2_method_7_code 14 = .ok (.getfield 15, 3) := by decide +kernel
theorem f112_17 : decode prog_2_method_7_code 17 = .ok (.iload_n 1, 1) := by decide +kernel
theorem f112_18 : decode prog_2_method_7_code 18 = .ok (.iastore, 1) := by decide +kernel
theorem f112_19 : decode prog_2_method_7_code 19 = .ok (.aload_n 0, 1) := by decide +kernel
theorem f112_20 : decode prog_2_method_7_code 20 = .ok (.dup, 1) := by decide +kernel
theorem f112_21 : decode prog_2_method_7_code 21 = .ok (.getfield 15, 3) := by decide +kernel
theorem f112_24 : decode prog_2_method_7_code 24 = .ok (.iconst 1, 1) := by decide +kernel
theorem f112_25 : decode prog_2_method_7_code 25 = .ok (.iadd, 1) := by decide +kernel
theorem f112_26 : decode prog_2_method_7_code 26 = .ok (.putfield 15, 3) := by decide +kernel
theorem f112_29 : decode prog_2_method_7_code 29 = .ok (.return_, 1) := by decide +kernel
theorem f114_0 : decode prog_2_method_3_code 0 = .ok (.aload_n 0, 1) := by decide +kernel
theorem f114_1 : decode prog_2_method_3_code 1 = .ok (.getfield 15, 3) := by decide +kernel
theorem f114_4 : decode prog_2_method_3_code 4 = .ok (.bipush 20, 2) := by decide +kernel
theorem f114_6 : decode prog_2_method_3_code 6 = .ok (.invokestatic 19, 3) := by decide +kernel
theorem f114_9 : decode prog_2_method_3_code 9 = .ok (.ireturn, 1) := by decide +kernel
theorem f116_0 : decode prog_1_method_44_code 0 = .ok (.iload_n 0, 1) := by decide +kernel
theorem f116_1 : decode prog_1_method_44_code 1 = .ok (.istore_n 2, 1) := by decide +kernel
theorem f116_2 : decode prog_1_method_44_code 2 = .ok (.iconst 0, 1) := by decide +kernel
theorem f116_3 : decode prog_1_method_44_code 3 = .ok (.istore_n 3, 1) := by decide +kernel
theorem f116_4 : decode prog_1_method_44_code 4 = .ok (.iload_n 3, 1) := by decide +kernel
theorem f116_5 : decode prog_1_method_44_code 5 = .ok (.bipush 7, 2) := by decide +kernel
theorem f116_7 : decode prog_1_method_44_code 7 = .ok (.if_icmp .ge 31, 3) := by decide +kernel
theorem f116_10 : decode prog_1_method_44_code 10 = .ok (.iload_n 2, 1) := by decide +kernel
theorem f116_11 : decode prog_1_method_44_code 11 = .ok (.bipush 7, 2) := by decide +kernel
theorem f116_13 : decode prog_1_method_44_code 13 = .ok (.invokestatic 59, 3) := by decide +kernel
theorem f116_16 : decode prog_1_method_44_code 16 = .ok (.ifCond .eq 22, 3) := by decide +kernel
theorem f116_19 : decode prog_1_method_44_code 19 = .ok (.iload_n 2, 1) := by decide +kernel
theorem f116_20 : decode prog_1_method_44_code 20 = .ok (.iload_n 1, 1) := by decide +kernel
theorem f116_21 : decode prog_1_method_44_code 21 = .ok (.if_icmp .ne 5, 3) := by decide +kernel
theorem f116_24 : decode prog_1_method_44_code 24 = .ok (.iconst 1, 1) := by decide +kernel
theorem f116_25 : decode prog_1_method_44_code 25 = .ok (.ireturn, 1) := by decide +kernel
theorem f116_26 : decode prog_1_method_44_code 26 = .ok (.getstatic 290, 3) := by decide +kernel
theorem f116_29 : decode prog_1_method_44_code 29 = .ok (.iload_n 2, 1) := by decide +kernel
theorem f116_30 : decode prog_1_method_44_code 30 = .ok (.iaload, 1) := by decide +kernel
theorem f116_31 : decode prog_1_method_44_code 31 = .ok (.istore_n 2, 1) := by decide +kernel
theorem f116_32 : decode prog_1_method_44_code 32 = .ok (.iinc 3 1, 3) := by decide +kernel
theorem f116_35 : decode prog_1_method_44_code 35 = .ok (.goto (-31), 3) := by decide +kernel
theorem f116_38 : decode prog_1_method_44_code 38 = .ok (.iconst 0, 1) := by decide +kernel
theorem f116_39 : decode prog_1_method_44_code 39 = .ok (.ireturn, 1) := by decide +kernel
theorem f119_0 : decode prog_7_method_5_code 0 = .ok (.aload_n 0, 1) := by decide +kernel
theorem f119_1 : decode prog_7_method_5_code 1 = .ok (.iconst (-1), 1) := by decide +kernel
theorem f119_2 : decode prog_7_method_5_code 2 = .ok (.putfield 15, 3) := by decide +kernel
theorem f119_5 : decode prog_7_method_5_code 5 = .ok (.aload_n 0, 1) := by decide +kernel
theorem f119_6 : decode prog_7_method_5_code 6 = .ok (.iconst 0, 1) := by decide +kernel
theorem f119_7 : decode prog_7_method_5_code 7 = .ok (.putfield 19, 3) := by decide +kernel
theorem f119_10 : decode prog_7_method_5_code 10 = .ok (.iconst 1, 1) := by decide +kernel
theorem f119_11 : decode prog_7_method_5_code 11 = .ok (.ireturn, 1) := by decide +kernel
theorem f120_0 : decode prog_7_method_6_code 0 = .ok (.aload_n 0, 1) := by decide +kernel
theorem f120_1 : decode prog_7_method_6_code 1 = .ok (.iload_n 1, 1) := by decide +kernel
theorem f120_2 : decode prog_7_method_6_code 2 = .ok (.putfield 15, 3) := by decide +kernel
theorem f120_5 : decode prog_7_method_6_code 5 = .ok (.aload_n 0, 1) := by decide +kernel
theorem f120_6 : decode prog_7_method_6_code 6 = .ok (.iload_n 2, 1) := by decide +kernel
theorem f120_7 : decode prog_7_method_6_code 7 = .ok (.putfield 19, 3) := by decide +kernel
theorem f120_10 : decode prog_7_method_6_code 10 = .ok (.iconst 0, 1) := by decide +kernel
theorem f120_11 : decode prog_7_method_6_code 11 = .ok (.istore_n 3, 1) := by decide +kernel
theorem f120_12 : decode prog_7_method_6_code 12 = .ok (.iload_n 3, 1) := by decide +kernel
theorem f120_13 : decode prog_7_method_6_code 13 = .ok (.iload_n 2, 1) := by decide +kernel
theorem f120_14 : decode prog_7_method_6_code 14 = .ok (.if_icmp .ge 16, 3) := by decide +kernel
theorem f120_17 : decode prog_7_method_6_code 17 = .ok (.aload_n 0, 1) := by decide +kernel
theorem f120_18 : decode prog_7_method_6_code 18 = .ok (.getfield 9, 3) := by decide +kernel
theorem f120_21 : decode prog_7_method_6_code 21 = .ok (.iload_n 3, 1) := by decide +kernel
theorem f120_22 : decode prog_7_method_6_code 22 = .ok (.lconst 0, 1) := by decide +kernel
theorem f120_23 : decode prog_7_method_6_code 23 = .ok (.lastore, 1) := by decide +kernel
theorem f120_24 : decode prog_7_method_6_code 24 = .ok (.iinc 3 1, 3) := by decide +kernel
theorem f120_27 : decode prog_7_method_6_code 27 = .ok (.goto (-15), 3) := by decide +kernel
theorem f120_30 : decode prog_7_method_6_code 30 = .ok (.iconst 1, 1) := by decide +kernel
theorem f120_31 : decode prog_7_method_6_code 31 = .ok (.ireturn, 1) := by decide +kernel
theorem f122_0 : decode prog_7_method_7_code 0 = .ok (.aload_n 0, 1) := by decide +kernel
theorem f122_1 : decode prog_7_method_7_code 1 = .ok (.getfield 9, 3) := by decide +kernel
theorem f122_4 : decode prog_7_method_7_code 4 = .ok (.iload_n 1, 1) := by decide +kernel
theorem f122_5 : decode prog_7_method_7_code 5 = .ok (.aload_n 0, 1) := by decide +kernel
theorem f122_6 : decode prog_7_method_7_code 6 = .ok (.lload_n 2, 1) := by decide +kernel
theorem f122_7 : decode prog_7_method_7_code 7 = .ok (.invokevirtual 26, 3) := by decide +kernel
theorem f122_10 : decode prog_7_method_7_code 10 = .ok (.lastore, 1) := by decide +kernel
theorem f122_11 : decode prog_7_method_7_code 11 = .ok (.iconst 1, 1) := by decide +kernel
theorem f122_12 : decode prog_7_method_7_code 12 = .ok (.ireturn, 1) := by decide +kernel
theorem f123_0 : decode prog_7_method_8_code 0 = .ok (.aload_n 0, 1) := by decide +kernel
theorem f123_1 : decode prog_7_method_8_code 1 = .ok (.getfield 15, 3) := by decide +kernel
theorem f123_4 : decode prog_7_method_8_code 4 = .ok (.tableswitch 48 0 3 #[32, 37, 42, 46], 32) := by decide +kernel
theorem f123_36 : decode prog_7_method_8_code 36 = .ok (.lload_n 1, 1) := by decide +kernel
theorem f123_37 : decode prog_7_method_8_code 37 = .ok (.l2i, 1) := by decide +kernel
theorem f123_38 : decode prog_7_method_8_code 38 = .ok (.i2b, 1) := by decide +kernel
theorem f123_39 : decode prog_7_method_8_code 39 = .ok (.i2l, 1) := by decide +kernel
theorem f123_40 : decode prog_7_method_8_code 40 = .ok (.lreturn, 1) := by decide +kernel
theorem f123_41 : decode prog_7_method_8_code 41 = .ok (.lload_n 1, 1) := by decide +kernel
theorem f123_42 : decode prog_7_method_8_code 42 = .ok (.l2i, 1) := by decide +kernel
theorem f123_43 : decode prog_7_method_8_code 43 = .ok (.i2s, 1) := by decide +kernel
theorem f123_44 : decode prog_7_method_8_code 44 = .ok (.i2l, 1) := by decide +kernel
theorem f123_45 : decode prog_7_method_8_code 45 = .ok (.lreturn, 1) := by decide +kernel
theorem f123_46 : decode prog_7_method_8_code 46 = .ok (.lload_n 1, 1) := by decide +kernel
theorem f123_47 : decode prog_7_method_8_code 47 = .ok (.l2i, 1) := by decide +kernel
theorem f123_48 : decode prog_7_method_8_code 48 = .ok (.i2l, 1) := by decide +kernel
theorem f123_49 : decode prog_7_method_8_code 49 = .ok (.lreturn, 1) := by decide +kernel
theorem f123_50 : decode prog_7_method_8_code 50 = .ok (.lload_n 1, 1) := by decide +kernel
theorem f123_51 : decode prog_7_method_8_code 51 = .ok (.lreturn, 1) := by decide +kernel
theorem f123_52 : decode prog_7_method_8_code 52 = .ok (.lload_n 1, 1) := by decide +kernel
theorem f123_53 : decode prog_7_method_8_code 53 = .ok (.lconst 0, 1) := by decide +kernel
theorem f123_54 : decode prog_7_method_8_code 54 = .ok (.lcmp, 1) := by decide +kernel
theorem f123_55 : decode prog_7_method_8_code 55 = .ok (.ifCond .eq 7, 3) := by decide +kernel
theorem f123_58 : decode prog_7_method_8_code 58 = .ok (.lconst 1, 1) := by decide +kernel
theorem f123_59 : decode prog_7_method_8_code 59 = .ok (.goto 4, 3) := by decide +kernel
theorem f123_62 : decode prog_7_method_8_code 62 = .ok (.lconst 0, 1) := by decide +kernel
theorem f123_63 : decode prog_7_method_8_code 63 = .ok (.lreturn, 1) := by decide +kernel
theorem f131_0 : decode prog_10_method_3_code 0 = .ok (.iload_n 1, 1) := by decide +kernel
theorem f131_1 : decode prog_10_method_3_code 1 = .ok (.iconst 0, 1) := by decide +kernel
theorem f131_2 : decode prog_10_method_3_code 2 = .ok (.aload_n 0, 1) := by decide +kernel
theorem f131_3 : decode prog_10_method_3_code 3 = .ok (.getfield 114, 3) := by decide +kernel
theorem f131_6 : decode prog_10_method_3_code 6 = .ok (.iconst 1, 1) := by decide +kernel
theorem f131_7 : decode prog_10_method_3_code 7 = .ok (.isub, 1) := by decide +kernel
theorem f131_8 : decode prog_10_method_3_code 8 = .ok (.invokestatic 117, 3) := by decide +kernel
theorem f131_11 : decode prog_10_method_3_code 11 = .ok (.ireturn, 1) := by decide +kernel
theorem f132_0 : decode prog_10_method_4_code 0 = .ok (.iload_n 0, 1) := by decide +kernel
theorem f132_1 : decode prog_10_method_4_code 1 = .ok (.iconst 0, 1) := by decide +kernel
theorem f132_2 : decode prog_10_method_4_code 2 = .ok (.iconst 5, 1) := by decide +kernel
theorem f132_3 : decode prog_10_method_4_code 3 = .ok (.invokestatic 117, 3) := by decide +kernel
theorem f132_6 : decode prog_10_method_4_code 6 = .ok (.ireturn, 1) := by decide +kernel
theorem f133_0 : decode prog_10_method_29_code 0 = .ok (.aload_n 0, 1) := by decide +kernel
theorem f133_1 : decode prog_10_method_29_code 1 = .ok (.iload_n 1, 1) := by decide +kernel
theorem f133_2 : decode prog_10_method_29_code 2 = .ok (.iload_n 2, 1) := by decide +kernel
theorem f133_3 : decode prog_10_method_29_code 3 = .ok (.invokevirtual 132, 3) := by decide +kernel
theorem f133_6 : decode prog_10_method_29_code 6 = .ok (.bipush 10, 2) := by decide +kernel
theorem f133_8 : decode prog_10_method_29_code 8 = .ok (.irem, 1) := by decide +kernel
theorem f133_9 : decode prog_10_method_29_code 9 = .ok (.istore_n 3, 1) := by decide +kernel
theorem f133_10 : decode prog_10_method_29_code 10 = .ok (.iload_n 3, 1) := by decide +kernel
theorem f133_11 : decode prog_10_method_29_code 11 = .ok (.ifCond .ge 10, 3) := by decide +kernel
theorem f133_14 : decode prog_10_method_29_code 14 = .ok (.iload_n 3, 1) := by decide +kernel
theorem f133_15 : decode prog_10_method_29_code 15 = .ok (.bipush 10, 2) := by decide +kernel
theorem f133_17 : decode prog_10_method_29_code 17 = .ok (.iadd, 1) := by decide +kernel
theorem f133_18 : decode prog_10_method_29_code 18 = .ok (.goto 4, 3) := by decide +kernel
theorem f133_21 : decode prog_10_method_29_code 21 = .ok (.iload_n 3, 1) := by decide +kernel
theorem f133_22 : decode prog_10_method_29_code 22 = .ok (.ireturn, 1) := by decide +kernel
theorem f137_0 : decode prog_10_method_24_code 0 = .ok (.iload_n 3, 1) := by decide +kernel
theorem f137_1 : decode prog_10_method_24_code 1 = .ok (.tableswitch 65 0 4 #[35, 37, 44, 51, 53], 35) := by decide +kernel
theorem f137_36 : decode prog_10_method_24_code 36 = .ok (.iload_n 1, 1) := by decide +kernel
theorem f137_37 : decode prog_10_method_24_code 37 = .ok (.ireturn, 1) := by decide +kernel
theorem f137_38 : decode prog_10_method_24_code 38 = .ok (.aload_n 0, 1) := by decide +kernel
theorem f137_39 : decode prog_10_method_24_code 39 = .ok (.getfield 9, 3) := by decide +kernel
theorem f137_42 : decode prog_10_method_24_code 42 = .ok (.iload_n 1, 1) := by decide +kernel
theorem f137_43 : decode prog_10_method_24_code 43 = .ok (.iaload, 1) := by decide +kernel
theorem f137_44 : decode prog_10_method_24_code 44 = .ok (.ireturn, 1) := by decide +kernel
theorem f137_45 : decode prog_10_method_24_code 45 = .ok (.aload_n 0, 1) := by decide +kernel
theorem f137_46 : decode prog_10_method_24_code 46 = .ok (.getfield 15, 3) := by decide +kernel
theorem f137_49 : decode prog_10_method_24_code 49 = .ok (.iload_n 1, 1) := by decide +kernel
theorem f137_50 : decode prog_10_method_24_code 50 = .ok (.iaload, 1) := by decide +kernel
theorem f137_51 : decode prog_10_method_24_code 51 = .ok (.ireturn, 1) := by decide +kernel
theorem f137_52 : decode prog_10_method_24_code 52 = .ok (.iload_n 2, 1) := by decide +kernel
theorem f137_53 : decode prog_10_method_24_code 53 = .ok (.ireturn, 1) := by decide +kernel
theorem f137_54 : decode prog_10_method_24_code 54 = .ok (.aload_n 0, 1) := by decide +kernel
theorem f137_55 : decode prog_10_method_24_code 55 = .ok (.getfield 18, 3) := by decide +kernel
theorem f137_58 : decode prog_10_method_24_code 58 = .ok (.bipush 6, 2) := by decide +kernel
theorem f137_60 : decode prog_10_method_24_code 60 = .ok (.iload_n 1, 1) := by decide +kernel
theorem f137_61 : decode prog_10_method_24_code 61 = .ok (.imul, 1) := by decide +kernel
theorem f137_62 : decode prog_10_method_24_code 62 = .ok (.iload_n 2, 1) := by decide +kernel
theorem f137_63 : decode prog_10_method_24_code 63 = .ok (.iadd, 1) := by decide +kernel
theorem f137_64 : decode prog_10_method_24_code 64 = .ok (.iaload, 1) := by decide +kernel
theorem f137_65 : decode prog_10_method_24_code 65 = .ok (.ireturn, 1) := by decide +kernel
theorem f137_66 : decode prog_10_method_24_code 66 = .ok (.aload_n 0, 1) := by decide +kernel
theorem f137_67 : decode prog_10_method_24_code 67 = .ok (.getfield 235, 3) := by decide +kernel
theorem f137_70 : decode prog_10_method_24_code 70 = .ok (.bipush 10, 2) := by decide +kernel
theorem f137_72 : decode prog_10_method_24_code 72 = .ok (.irem, 1) := by decide +kernel
theorem f137_73 : decode prog_10_method_24_code 73 = .ok (.ireturn, 1) := by decide +kernel
theorem f144_0 : decode prog_10_method_31_code 0 = .ok (.iconst 0, 1) := by decide +kernel
theorem f144_1 : decode prog_10_method_31_code 1 = .ok (.istore_n 2, 1) := by decide +kernel
theorem f144_2 : decode prog_10_method_31_code 2 = .ok (.iconst 0, 1) := by decide +kernel
theorem f144_3 : decode prog_10_method_31_code 3 = .ok (.istore_n 3, 1) := by decide +kernel
theorem f144_4 : decode prog_10_method_31_code 4 = .ok (.iload_n 3, 1) := by decide +kernel
theorem f144_5 : decode prog_10_method_31_code 5 = .ok (.bipush 6, 2) := by decide +kernel
theorem f144_7 : decode prog_10_method_31_code 7 = .ok (.if_icmp .ge 21, 3) := by decide +kernel
theorem f144_10 : decode prog_10_method_31_code 10 = .ok (.bipush 10, 2) := by decide +kernel
theorem f144_12 : decode prog_10_method_31_code 12 = .ok (.iload_n 2, 1) := by decide +kernel
theorem f144_13 : decode prog_10_method_31_code 13 = .ok (.imul, 1) := by decide +kernel
theorem f144_14 : decode prog_10_method_31_code 14 = .ok (.aload_n 0, 1) := by decide +kernel
theorem f144_15 : decode prog_10_method_31_code 15 = .ok (.iload_n 1, 1) := by decide +kernel
theorem f144_16 : decode prog_10_method_31_code 16 = .ok (.iload_n 3, 1) := by decide +kernel
theorem f144_17 : decode prog_10_method_31_code 17 = .ok (.invokevirtual 128, 3) := by decide +kernel
theorem f144_20 : decode prog_10_method_31_code 20 = .ok (.iadd, 1) := by decide +kernel
theorem f144_21 : decode prog_10_method_31_code 21 = .ok (.istore_n 2, 1) := by decide +kernel
theorem f144_22 : decode prog_10_method_31_code 22 = .ok (.iinc 3 1, 3) := by decide +kernel
theorem f144_25 : decode prog_10_method_31_code 25 = .ok (.goto (-21), 3) := by decide +kernel
theorem f144_28 : decode prog_10_method_31_code 28 = .ok (.iload_n 2, 1) := by decide +kernel
theorem f144_29 : decode prog_10_method_31_code 29 = .ok (.ireturn, 1) := by decide +kernel
theorem f151_0 : decode prog_10_method_5_code 0 = .ok (.iload_n 0, 1) := by decide +kernel
theorem f151_1 : decode prog_10_method_5_code 1 = .ok (.iconst 0, 1) := by decide +kernel
theorem f151_2 : decode prog_10_method_5_code 2 = .ok (.bipush 9, 2) := by decide +kernel
theorem f151_4 : decode prog_10_method_5_code 4 = .ok (.invokestatic 117, 3) := by decide +kernel
theorem f151_7 : decode prog_10_method_5_code 7 = .ok (.ireturn, 1) := by decide +kernel
theorem f158_0 : decode prog_10_method_12_code 0 = .ok (.aload_n 0, 1) := by decide +kernel
theorem f158_1 : decode prog_10_method_12_code 1 = .ok (.getfield 160, 3) := by decide +kernel
theorem f158_4 : decode prog_10_method_12_code 4 = .ok (.aload_n 0, 1) := by decide +kernel
theorem f158_5 : decode prog_10_method_12_code 5 = .ok (.getfield 157, 3) := by decide +kernel
theorem f158_8 : decode prog_10_method_12_code 8 = .ok (.if_icmp .eq 16, 3) := by decide +kernel
theorem f158_11 : decode prog_10_method_12_code 11 = .ok (.aload_n 0, 1) := by decide +kernel
theorem f158_12 : decode prog_10_method_12_code 12 = .ok (.getfield 30, 3) := by decide +kernel
theorem f158_15 : decode prog_10_method_12_code 15 = .ok (.aload_n 0, 1) := by decide +kernel
theorem f158_16 : decode prog_10_method_12_code 16 = .ok (.getfield 160, 3) := by decide +kernel
theorem f158_19 : decode prog_10_method_12_code 19 = .ok (.iaload, 1) := by decide +kernel
theorem f158_20 : decode prog_10_method_12_code 20 = .ok (.iload_n 1, 1) := by decide +kernel
theorem f158_21 : decode prog_10_method_12_code 21 = .ok (.if_icmp .eq 5, 3) := by decide +kernel
theorem f158_24 : decode prog_10_method_12_code 24 = .ok (.iconst 0, 1) := by decide +kernel
theorem f158_25 : decode prog_10_method_12_code 25 = .ok (.ireturn, 1) := by decide +kernel
theorem f158_26 : decode prog_10_method_12_code 26 = .ok (.aload_n 0, 1) := by decide +kernel
theorem f158_27 : decode prog_10_method_12_code 27 = .ok (.dup, 1) := by decide +kernel
theorem f158_28 : decode prog_10_method_12_code 28 = .ok (.getfield 160, 3) := by decide +kernel
theorem f158_31 : decode prog_10_method_12_code 31 = .ok (.iconst 1, 1) := by decide +kernel
theorem f158_32 : decode prog_10_method_12_code 32 = .ok (.iadd, 1) := by decide +kernel
theorem f158_33 : decode prog_10_method_12_code 33 = .ok (.putfield 160, 3) := by decide +kernel
theorem f158_36 : decode prog_10_method_12_code 36 = .ok (.iconst 1, 1) := by decide +kernel
theorem f158_37 : decode prog_10_method_12_code 37 = .ok (.ireturn, 1) := by decide +kernel
theorem f159_0 : decode prog_10_method_14_code 0 = .ok (.aload_n 0, 1) := by decide +kernel
theorem f159_1 : decode prog_10_method_14_code 1 = .ok (.iconst 0, 1) := by decide +kernel
theorem f159_2 : decode prog_10_method_14_code 2 = .ok (.putfield 163, 3) := by decide +kernel
theorem f159_5 : decode prog_10_method_14_code 5 = .ok (.aload_n 0, 1) := by decide +kernel
theorem f159_6 : decode prog_10_method_14_code 6 = .ok (.iconst 0, 1) := by decide +kernel
theorem f159_7 : decode prog_10_method_14_code 7 = .ok (.putfield 166, 3) := by decide +kernel
theorem f159_10 : decode prog_10_method_14_code 10 = .ok (.aload_n 0, 1) := by decide +kernel
theorem f159_11 : decode prog_10_method_14_code 11 = .ok (.getfield 166, 3) := by decide +kernel
theorem f159_14 : decode prog_10_method_14_code 14 = .ok (.iconst 2, 1) := by decide +kernel
theorem f159_15 : decode prog_10_method_14_code 15 = .ok (.if_icmp .ge 57, 3) := by decide +kernel
theorem f159_18 : decode prog_10_method_14_code 18 = .ok (.aload_n 0, 1) := by decide +kernel
theorem f159_19 : decode prog_10_method_14_code 19 = .ok (.invokevirtual 169, 3) := by decide +kernel
theorem f159_22 : decode prog_10_method_14_code 22 = .ok (.ifCond .eq 50, 3) := by decide +kernel
theorem f159_25 : decode prog_10_method_14_code 25 = .ok (.aload_n 0, 1) := by decide +kernel
theorem f159_26 : decode prog_10_method_14_code 26 = .ok (.bipush 10, 2) := by decide +kernel
theorem f159_28 : decode prog_10_method_14_code 28 = .ok (.aload_n 0, 1) := by decide +kernel
theorem f159_29 : decode prog_10_method_14_code 29 = .ok (.getfield 163, 3) := by decide +kernel
theorem f159_32 : decode prog_10_method_14_code 32 = .ok (.imul, 1) := by decide +kernel
theorem f159_33 : decode prog_10_method_14_code 33 = .ok (.aload_n 0, 1) := by decide +kernel
theorem f159_34 : decode prog_10_method_14_code 34 = .ok (.getfield 30, 3) := by decide +kernel
theorem f159_37 : decode prog_10_method_14_code 37 = .ok (.aload_n 0, 1) := by decide +kernel
theorem f159_38 : decode prog_10_method_14_code 38 = .ok (.getfield 160, 3) := by decide +kernel
theorem f159_41 : decode prog_10_method_14_code 41 = .ok (.iaload, 1) := by decide +kernel
theorem f159_42 : decode prog_10_method_14_code 42 = .ok (.iadd, 1) := by decide +kernel
theorem f159_43 : decode prog_10_method_14_code 43 = .ok (.bipush 48, 2) := by decide +kernel
theorem f159_45 : decode prog_10_method_14_code 45 = .ok (.isub, 1) := by decide +kernel
theorem f159_46 : decode prog_10_method_14_code 46 = .ok (.putfield 163, 3) := by decide +kernel
theorem f159_49 : decode prog_10_method_14_code 49 = .ok (.aload_n 0, 1) := by decide +kernel
theorem f159_50 : decode prog_10_method_14_code 50 = .ok (.dup, 1) := by decide +kernel
theorem f159_51 : decode prog_10_method_14_code 51 = .ok (.getfield 160, 3) := by decide +kernel
theorem f159_54 : decode prog_10_method_14_code 54 = .ok (.iconst 1, 1) := by decide +kernel
theorem f159_55 : decode prog_10_method_14_code 55 = .ok (.iadd, 1) := by decide +kernel
theorem f159_56 : decode prog_10_method_14_code 56 = .ok (.putfield 160, 3) := by decide +kernel
theorem f159_59 : decode prog_10_method_14_code 59 = .ok (.aload_n 0, 1) := by decide +kernel
theorem f159_60 : decode prog_10_method_14_code 60 = .ok (.dup, 1) := by decide +kernel
theorem f159_61 : decode prog_10_method_14_code 61 = .ok (.getfield 166, 3) := by decide +kernel
theorem f159_64 : decode prog_10_method_14_code 64 = .ok (.iconst 1, 1) := by decide +kernel
theorem f159_65 : decode prog_10_method_14_code 65 = .ok (.iadd, 1) := by decide +kernel
theorem f159_66 : decode prog_10_method_14_code 66 = .ok (.putfield 166, 3) := by decide +kernel
theorem f159_69 : decode prog_10_method_14_code 69 = .ok (.goto (-59), 3) := by decide +kernel
theorem f159_72 : decode prog_10_method_14_code 72 = .ok (.aload_n 0, 1) := by decide +kernel
theorem f159_73 : decode prog_10_method_14_code 73 = .ok (.getfield 166, 3) := by decide +kernel
theorem f159_76 : decode prog_10_method_14_code 76 = .ok (.ifCond .le 7, 3) := by decide +kernel
theorem f159_79 : decode prog_10_method_14_code 79 = .ok (.iconst 1, 1) := by decide +kernel
theorem f159_80 : decode prog_10_method_14_code 80 = .ok (.goto 4, 3) := by decide +kernel
theorem f159_83 : decode prog_10_method_14_code 83 = .ok (.iconst 0, 1) := by decide +kernel
theorem f159_84 : decode prog_10_method_14_code 84 = .ok (.ireturn, 1) := by decide +kernel
theorem f160_0 : decode prog_10_method_13_code 0 = .ok (.aload_n 0, 1) := by decide +kernel
theorem f160_1 : decode prog_10_method_13_code 1 = .ok (.getfield 160, 3) := by decide +kernel
theorem f160_4 : decode prog_10_method_13_code 4 = .ok (.aload_n 0, 1) := by decide +kernel
theorem f160_5 : decode prog_10_method_13_code 5 = .ok (.getfield 157, 3) := by decide +kernel
theorem f160_8 : decode prog_10_method_13_code 8 = .ok (.if_icmp .ge 35, 3) := by decide +kernel
theorem f160_11 : decode prog_10_method_13_code 11 = .ok (.aload_n 0, 1) := by decide +kernel
theorem f160_12 : decode prog_10_method_13_code 12 = .ok (.getfield 30, 3) := by decide +kernel
theorem f160_15 : decode prog_10_method_13_code 15 = .ok (.aload_n 0, 1) := by decide +kernel
theorem f160_16 : decode prog_10_method_13_code 16 = .ok (.getfield 160, 3) := by decide +kernel
theorem f160_19 : decode prog_10_method_13_code 19 = .ok (.iaload, 1) := by decide +kernel
theorem f160_20 : decode prog_10_method_13_code 20 = .ok (.bipush 48, 2) := by decide +kernel
theorem f160_22 : decode prog_10_method_13_code 22 = .ok (.if_icmp .lt 21, 3) := by decide +kernel
theorem f160_25 : decode prog_10_method_13_code 25 = .ok (.aload_n 0, 1) := by decide +kernel
theorem f160_26 : decode prog_10_method_13_code 26 = .ok (.getfield 30, 3) := by decide +kernel
theorem f160_29 : decode prog_10_method_13_code 29 = .ok (.aload_n 0, 1) := by decide +kernel
theorem f160_30 : decode prog_10_method_13_code 30 = .ok (.getfield 160, 3) := by decide +kernel
theorem f160_33 : decode prog_10_method_13_code 33 = .ok (.iaload, 1) := by decide +kernel
theorem f160_34 : decode prog_10_method_13_code 34 = .ok (.bipush 57, 2) := by decide +kernel
theorem f160_36 : decode prog_10_method_13_code 36 = .ok (.if_icmp .gt 7, 3) := by decide +kernel
theorem f160_39 : decode prog_10_method_13_code 39 = .ok (.iconst 1, 1) := by decide +kernel
theorem f160_40 : decode prog_10_method_13_code 40 = .ok (.goto 4, 3) := by decide +kernel
theorem f160_43 : decode prog_10_method_13_code 43 = .ok (.iconst 0, 1) := by decide +kernel
theorem f160_44 : decode prog_10_method_13_code 44 = .ok (.ireturn, 1) := by decide +kernel
theorem f165_0 : decode prog_10_method_16_code 0 = .ok (.aload_n 0, 1) := by decide +kernel
theorem f165_1 : decode prog_10_method_16_code 1 = .ok (.getfield 48, 3) := by decide +kernel
theorem f165_4 : decode prog_10_method_16_code 4 = .ok (.aload_n 0, 1) := by decide +kernel
theorem f165_5 : decode prog_10_method_16_code 5 = .ok (.dup, 1) := by decide +kernel
theorem f165_6 : decode prog_10_method_16_code 6 = .ok (.getfield 185, 3) := by decide +kernel
theorem f165_9 : decode prog_10_method_16_code 9 = .ok (.dup_x1, 1) := by decide +kernel
theorem f165_10 : decode prog_10_method_16_code 10 = .ok (.iconst 1, 1) := by decide +kernel
theorem f165_11 : decode prog_10_method_16_code 11 = .ok (.iadd, 1) := by decide +kernel
theorem f165_12 : decode prog_10_method_16_code 12 = .ok (.putfield 185, 3) := by decide +kernel
theorem f165_15 : decode prog_10_method_16_code 15 = .ok (.iload_n 1, 1) := by decide +kernel
theorem f165_16 : decode prog_10_method_16_code 16 = .ok (.iastore, 1) := by decide +kernel
theorem f165_17 : decode prog_10_method_16_code 17 = .ok (.iconst 1, 1) := by decide +kernel
theorem f165_18 : decode prog_10_method_16_code 18 = .ok (.ireturn, 1) := by decide +kernel
theorem f194_0 : decode prog_10_method_49_code 0 = .ok (.lload_n 0, 1) := by decide +kernel
theorem f194_1 : decode prog_10_method_49_code 1 = .ok (.invokestatic 295, 3) := by decide +kernel
theorem f194_4 : decode prog_10_method_49_code 4 = .ok (.lstore 5, 2) := by decide +kernel
theorem f194_6 : decode prog_10_method_49_code 6 = .ok (.lload_n 2, 1) := by decide +kernel
theorem f194_7 : decode prog_10_method_49_code 7 = .ok (.lstore 7, 2) := by decide +kernel
theorem f194_9 : decode prog_10_method_49_code 9 = .ok (.lload 7, 2) := by decide +kernel
theorem f194_11 : decode prog_10_method_49_code 11 = .ok (.lconst 0, 1) := by decide +kernel
theorem f194_12 : decode prog_10_method_49_code 12 = .ok (.lcmp, 1) := by decide +kernel
theorem f194_13 : decode prog_10_method_49_code 13 = .ok (.ifCond .eq 21, 3) := by decide +kernel
theorem f194_16 : decode prog_10_method_49_code 16 = .ok (.lload 5, 2) := by decide +kernel
theorem f194_18 : decode prog_10_method_49_code 18 = .ok (.lload 7, 2) := by decide +kernel
theorem f194_20 : decode prog_10_method_49_code 20 = .ok (.lrem, 1) := by decide +kernel
theorem f194_21 : decode prog_10_method_49_code 21 = .ok (.lstore 9, 2) := by decide +kernel
theorem f194_23 : decode prog_10_method_49_code 23 = .ok (.lload 7, 2) := by decide +kernel
theorem f194_25 : decode prog_10_method_49_code 25 = .ok (.lstore 5, 2) := by decide +kernel
theorem f194_27 : decode prog_10_method_49_code 27 = .ok (.lload 9, 2) := by decide +kernel
theorem f194_29 : decode prog_10_method_49_code 29 = .ok (.lstore 7, 2) := by decide +kernel
theorem f194_31 : decode prog_10_method_49_code 31 = .ok (.goto (-22), 3) := by decide +kernel
theorem f194_34 : decode prog_10_method_49_code 34 = .ok (.iload 4, 2) := by decide +kernel
theorem f194_36 : decode prog_10_method_49_code 36 = .ok (.ifCond .ne 7, 3) := by decide +kernel
theorem f194_39 : decode prog_10_method_49_code 39 = .ok (.lload_n 0, 1) := by decide +kernel
theorem f194_40 : decode prog_10_method_49_code 40 = .ok (.goto 4, 3) := by decide +kernel
theorem f194_43 : decode prog_10_method_49_code 43 = .ok (.lload_n 2, 1) := by decide +kernel
theorem f194_44 : decode prog_10_method_49_code 44 = .ok (.lload 5, 2) := by decide +kernel
theorem f194_46 : decode prog_10_method_49_code 46 = .ok (.ldiv, 1) := by decide +kernel
theorem f194_47 : decode prog_10_method_49_code 47 = .ok (.lreturn, 1) := by decide +kernel
theorem f206_0 : decode prog_10_method_61_code 0 = .ok (.aload_n 0, 1) := by decide +kernel
theorem f206_1 : decode prog_10_method_61_code 1 = .ok (.getfield 317, 3) := by decide +kernel
theorem f206_4 : decode prog_10_method_61_code 4 = .ok (.bipush 20, 2) := by decide +kernel
theorem f206_6 : decode prog_10_method_61_code 6 = .ok (.if_icmp .ge 13, 3) := by decide +kernel
theorem f206_9 : decode prog_10_method_61_code 9 = .ok (.aload_n 0, 1) := by decide +kernel
theorem f206_10 : decode prog_10_method_61_code 10 = .ok (.getfield 79, 3) := by decide +kernel
theorem f206_13 : decode prog_10_method_61_code 13 = .ok (.aload_n 0, 1) := by decide +kernel
theorem f206_14 : decode prog_10_method_61_code 14 = .ok (.getfield 317, 3) := by decide +kernel
theorem f206_17 : decode prog_10_method_61_code 17 = .ok (.iload_n 1, 1) := by decide +kernel
theorem f206_18 : decode prog_10_method_61_code 18 = .ok (.iastore, 1) := by decide +kernel
theorem f206_19 : decode prog_10_method_61_code 19 = .ok (.aload_n 0, 1) := by decide +kernel
theorem f206_20 : decode prog_10_method_61_code 20 = .ok (.dup, 1) := by decide +kernel
theorem f206_21 : decode prog_10_method_61_code 21 = .ok (.getfield 317, 3) := by decide +kernel
theorem f206_24 : decode prog_10_method_61_code 24 = .ok (.iconst 1, 1) := by decide +kernel
theorem f206_25 : decode prog_10_method_61_code 25 = .ok (.iadd, 1) := by decide +kernel
theorem f206_26 : decode prog_10_method_61_code 26 = .ok (.putfield 317, 3) := by decide +kernel
theorem f206_29 : decode prog_10_method_61_code 29 = .ok (.return_, 1) := by decide +kernel
theorem f207_0 : decode prog_10_method_62_code 0 = .ok (.iload_n 0, 1) := by decide +kernel
theorem f207_1 : decode prog_10_method_62_code 1 = .ok (.iconst 4, 1) := by decide +kernel
theorem f207_2 : decode prog_10_method_62_code 2 = .ok (.if_icmp .ne 7, 3) := by decide +kernel
theorem f207_5 : decode prog_10_method_62_code 5 = .ok (.iconst 1, 1) := by decide +kernel
theorem f207_6 : decode prog_10_method_62_code 6 = .ok (.goto 23, 3) := by decide +kernel
theorem f207_9 : decode prog_10_method_62_code 9 = .ok (.iload_n 0, 1) := by decide +kernel
theorem f207_10 : decode prog_10_method_62_code 10 = .ok (.iconst 5, 1) := by decide +kernel
theorem f207_11 : decode prog_10_method_62_code 11 = .ok (.if_icmp .ne 7, 3) := by decide +kernel
theorem f207_14 : decode prog_10_method_62_code 14 = .ok (.iconst 2, 1) := by decide +kernel
theorem f207_15 : decode prog_10_method_62_code 15 = .ok (.goto 14, 3) := by decide +kernel
theorem f207_18 : decode prog_10_method_62_code 18 = .ok (.iload_n 0, 1) := by decide +kernel
theorem f207_19 : decode prog_10_method_62_code 19 = .ok (.bipush 6, 2) := by decide +kernel
theorem f207_21 : decode prog_10_method_62_code 21 = .ok (.if_icmp .ne 7, 3) := by decide +kernel
theorem f207_24 : decode prog_10_method_62_code 24 = .ok (.iconst 3, 1) := by decide +kernel
theorem f207_25 : decode prog_10_method_62_code 25 = .ok (.goto 4, 3) := by decide +kernel
theorem f207_28 : decode prog_10_method_62_code 28 = .ok (.iconst 0, 1) := by decide +kernel
theorem f207_29 : decode prog_10_method_62_code 29 = .ok (.ireturn, 1) := by decide +kernel
theorem f214_0 : decode prog_10_method_70_code 0 = .ok (.iload_n 0, 1) := by decide +kernel
theorem f214_1 : decode prog_10_method_70_code 1 = .ok (.iconst 0, 1) := by decide +kernel
theorem f214_2 : decode prog_10_method_70_code 2 = .ok (.iconst 5, 1) := by decide +kernel
theorem f214_3 : decode prog_10_method_70_code 3 = .ok (.invokestatic 117, 3) := by decide +kernel
theorem f214_6 : decode prog_10_method_70_code 6 = .ok (.ireturn, 1) := by decide +kernel
theorem f216_0 : decode prog_10_method_72_code 0 = .ok (.iload_n 0, 1) := by decide +kernel
theorem f216_1 : decode prog_10_method_72_code 1 = .ok (.tableswitch 47 0 3 #[31, 36, 41, 45], 31) := by decide +kernel
theorem f216_32 : decode prog_10_method_72_code 32 = .ok (.lload_n 1, 1) := by decide +kernel
theorem f216_33 : decode prog_10_method_72_code 33 = .ok (.l2i, 1) := by decide +kernel
theorem f216_34 : decode prog_10_method_72_code 34 = .ok (.i2b, 1) := by decide +kernel
theorem f216_35 : decode prog_10_method_72_code 35 = .ok (.i2l, 1) := by decide +kernel
theorem f216_36 : decode prog_10_method_72_code 36 = .ok (.lreturn, 1) := by decide +kernel
theorem f216_37 : decode prog_10_method_72_code 37 = .ok (.lload_n 1, 1) := by decide +kernel
theorem f216_38 : decode prog_10_method_72_code 38 = .ok (.l2i, 1) := by decide +kernel
theorem f216_39 : decode prog_10_method_72_code 39 = .ok (.i2s, 1) := by decide +kernel
theorem f216_40 : decode prog_10_method_72_code 40 = .ok (.i2l, 1) := by decide +kernel
theorem f216_41 : decode prog_10_method_72_code 41 = .ok (.lreturn, 1) := by decide +kernel
theorem f216_42 : decode prog_10_method_72_code 42 = .ok (.lload_n 1, 1) := by decide +kernel
theorem f216_43 : decode prog_10_method_72_code 43 = .ok (.l2i, 1) := by decide +kernel
theorem f216_44 : decode prog_10_method_72_code 44 = .ok (.i2l, 1) := by decide +kernel
theorem f216_45 : decode prog_10_method_72_code 45 = .ok (.lreturn, 1) := by decide +kernel
theorem f216_46 : decode prog_10_method_72_code 46 = .ok (.lload_n 1, 1) := by decide +kernel
theorem f216_47 : decode prog_10_method_72_code 47 = .ok (.lreturn, 1) := by decide +kernel
theorem f216_48 : decode prog_10_method_72_code 48 = .ok (.lload_n 1, 1) := by decide +kernel
theorem f216_49 : decode prog_10_method_72_code 49 = .ok (.lconst 0, 1) := by decide +kernel
theorem f216_50 : decode prog_10_method_72_code 50 = .ok (.lcmp, 1) := by decide +kernel
theorem f216_51 : decode prog_10_method_72_code 51 = .ok (.ifCond .eq 7, 3) := by decide +kernel
theorem f216_54 : decode prog_10_method_72_code 54 = .ok (.lconst 1, 1) := by decide +kernel
theorem f216_55 : decode prog_10_method_72_code 55 = .ok (.goto 4, 3) := by decide +kernel
theorem f216_58 : decode prog_10_method_72_code 58 = .ok (.lconst 0, 1) := by decide +kernel
theorem f216_59 : decode prog_10_method_72_code 59 = .ok (.lreturn, 1) := by decide +kernel
section YD
variable {zl : Nat} {nl : Option Nat} {h : Hp}
/-- HatterTunes.isHead(I)Z -/
theorem E15 {d : Nat} {K : Int → Hp → Prop} (w : yWF zl nl h) {x0 : Int} (hd : 1 ≤ d) (k : ((((0 : Int) ≤ x0 ∧ x0 < (zV h 33 10)) → K 1 h) ∧ (¬ (((0 : Int) ≤ x0 ∧ x0 < (zV h 33 10))) → K 0 h))) : yI d 15 [vR (some 32), vI x0] h K := by
  refine y_en (L := [some (vR (some 32)), some (vI x0)]) rfl rfl ?_
  refine y_s (pc' := 1) (L' := [some (vR (some 32)), some (vI x0)]) (st' := [vI x0]) (h' := h) f15_0 rfl ?_
  refine y_s (pc' := 2) (L' := [some (vR (some 32)), some (vI x0)]) (st' := [vR (some 32), vI x0]) (h' := h) f15_1 rfl ?_
  refine y_gr (pc' := 5) f15_2 yf_7_14 rfl rfl (ys32 w) (yp32_0 w) rfl ?_
  refine y_gi (pc' := 8) f15_5 yf_7_63 rfl rfl (ys33 w) rfl ?_
  refine y_cI (pc' := 11) (as := [vI x0, vI (zV h 33 10)]) (r := []) f15_8 rfl (by omega) rfl ?_
  refine sp10 w (fun c => ?_) (fun c => ?_)
  · replace k := k.1 c
    exact y_ri f15_11 ⟨rfl, k⟩
  · replace k := k.2 c
    exact y_ri f15_11 ⟨rfl, k⟩
/-- HatterTunes$Tape.hasPlace(I)Z -/
theorem E104 {d : Nat} {K : Int → Hp → Prop} (w : yWF zl nl h) {a : Nat} (ha : yTp a) {x0 : Int} (hd : 1 ≤ d) (k : ((((0 : Int) ≤ x0 ∧ x0 < (zV h a 2)) → K 1 h) ∧ (¬ (((0 : Int) ≤ x0 ∧ x0 < (zV h a 2))) → K 0 h))) : yI d 104 [vR (some a), vI x0] h K := by
  refine y_en (L := [some (vR (some a)), some (vI x0)]) rfl rfl ?_
  refine y_s (pc' := 1) (L' := [some (vR (some a)), some (vI x0)]) (st' := [vI x0]) (h' := h) f104_0 rfl ?_
  refine y_s (pc' := 2) (L' := [some (vR (some a)), some (vI x0)]) (st' := [vR (some a), vI x0]) (h' := h) f104_1 rfl ?_
  refine y_gi (pc' := 5) f104_2 yf_5_19 rfl rfl (ysT0 w ha) rfl ?_
  refine y_cI (pc' := 8) (as := [vI x0, vI (zV h a 2)]) (r := []) f104_5 rfl (by omega) rfl ?_
  refine sp10 w (fun c => ?_) (fun c => ?_)
  · replace k := k.1 c
    exact y_ri f104_8 ⟨rfl, k⟩
  · replace k := k.2 c
    exact y_ri f104_8 ⟨rfl, k⟩
/-- HatterTunes$Text.take(I)Z -/
theorem E63 {d : Nat} {K : Int → Hp → Prop} (w : yWF zl nl h) {x0 : Int} (hd : 1 ≤ d) (k : ((zV h 90 1 ≤ 100) ∧ (((ypeek h) = x0 → K 1 (zsetV h 90 2 (zw ((zV h 90 2) + 1)))) ∧ (¬ ((ypeek h) = x0) → K 0 h)))) : yI d 63 [vR (some 90), vI x0] h K := by
  refine y_en (L := [some (vR (some 90)), some (vI x0)]) rfl rfl ?_
  refine y_s (pc' := 1) (L' := [some (vR (some 90)), some (vI x0)]) (st' := [vR (some 90)]) (h' := h) f63_0 rfl ?_
  refine y_cI (pc' := 4) (as := [vR (some 90)]) (r := []) f63_1 (yzv ym_6_39 rfl (ys90 w) rfl rfl) (by omega) rfl ?_
  have p0 := k.1
  replace k := k.2
  refine sp50 w p0 ?_
  refine y_s (pc' := 5) (L' := [some (vR (some 90)), some (vI x0)]) (st' := [vI x0, vI (ypeek h)]) (h' := h) f63_4 rfl ?_
  refine y_ic (pcT := 10) (pc' := 8) (P := (ypeek h) = x0) f63_5 rfl rfl rfl (fun c => ?_) (fun c => ?_)
  · replace k := k.1 c
    refine y_s (pc' := 11) (L' := [some (vR (some 90)), some (vI x0)]) (st' := [vR (some 90)]) (h' := h) f63_10 rfl ?_
    refine y_s (pc' := 12) (L' := [some (vR (some 90)), some (vI x0)]) (st' := [vR (some 90), vR (some 90)]) (h' := h) f63_11 rfl ?_
    refine y_gi (pc' := 15) f63_12 yf_6_28 rfl rfl (ys90 w) rfl ?_
    refine y_s (pc' := 16) (L' := [some (vR (some 90)), some (vI x0)]) (st' := [vI 1, vI (zV h 90 2), vR (some 90)]) (h' := h) f63_15 rfl ?_
    refine y_s (pc' := 17) (L' := [some (vR (some 90)), some (vI x0)]) (st' := [vI (zw ((zV h 90 2) + 1)), vR (some 90)]) (h' := h) f63_16 rfl ?_
    refine y_pi (pc' := 20) f63_17 yf_6_28 rfl rfl (ys90 w) (by decide) (Or.inl rfl) rfl ?_
    refine y_s (pc' := 21) (L' := [some (vR (some 90)), some (vI x0)]) (st' := [vI 1]) (h' := (zsetV h 90 2 (zw ((zV h 90 2) + 1)))) f63_20 rfl ?_
    exact y_ri f63_21 ⟨rfl, k⟩
  · replace k := k.2 c
    refine y_s (pc' := 9) (L' := [some (vR (some 90)), some (vI x0)]) (st' := [vI 0]) (h' := h) f63_8 rfl ?_
    exact y_ri f63_9 ⟨rfl, k⟩
/-- HatterTunes$Text.isNumber()Z -/
theorem E65 {d : Nat} {K : Int → Hp → Prop} (w : yWF zl nl h) (hd : 1 ≤ d) (k : ((zV h 90 1 ≤ 100) ∧ (((48 ≤ (ypeek h) ∧ (ypeek h) ≤ 57) → ((zV h 90 1 ≤ 100) ∧ (∀ h_33, (zsetV (zsetV h 90 3 (zw ((ypeek h) - 48))) 90 2 (zw ((zV (zsetV h 90 3 (zw ((ypeek h) - 48))) 90 2) + 1))) = h_33 → ((zV h_33 90 1 ≤ 100) ∧ (((48 ≤ (ypeek h_33) ∧ (ypeek h_33) ≤ 57) → ((zV h_33 90 1 ≤ 100) ∧ (∀ h_72, (zsetV (zsetV h_33 90 3 (zw ((zw ((zw ((zV h_33 90 3) * 10)) + (ypeek h_33))) - 48))) 90 2 (zw ((zV (zsetV h_33 90 3 (zw ((zw ((zw ((zV h_33 90 3) * 10)) + (ypeek h_33))) - 48))) 90 2) + 1))) = h_72 → K 1 h_72))) ∧ (¬ ((48 ≤ (ypeek h_33) ∧ (ypeek h_33) ≤ 57)) → K 1 h_33)))))) ∧ (¬ ((48 ≤ (ypeek h) ∧ (ypeek h) ≤ 57)) → K 0 h)))) : yI d 65 [vR (some 90)] h K := by
  refine y_en (L := [some (vR (some 90))]) rfl rfl ?_
  refine y_s (pc' := 1) (L' := [some (vR (some 90))]) (st' := [vR (some 90)]) (h' := h) f65_0 rfl ?_
  refine y_cI (pc' := 4) (as := [vR (some 90)]) (r := []) f65_1 (yzv ym_6_39 rfl (ys90 w) rfl rfl) (by omega) rfl ?_
  have p0 := k.1
  replace k := k.2
  refine sp50 w p0 ?_
  refine y_cI (pc' := 7) (as := [vI (ypeek h)]) (r := []) f65_4 rfl (by omega) rfl ?_
  refine sp66 w (fun c => ?_) (fun c => ?_)
  · replace k := k.1 c
    refine y_ift (pcT := 12) f65_7 rfl rfl ?_
    refine y_s (pc' := 13) (L' := [some (vR (some 90))]) (st' := [vR (some 90)]) (h' := h) f65_12 rfl ?_
    refine y_s (pc' := 14) (L' := [some (vR (some 90))]) (st' := [vR (some 90), vR (some 90)]) (h' := h) f65_13 rfl ?_
    refine y_cI (pc' := 17) (as := [vR (some 90)]) (r := [vR (some 90)]) f65_14 (yzv ym_6_39 rfl (ys90 w) rfl rfl) (by omega) rfl ?_
    have p0 := k.1
    replace k := k.2
    refine sp50 w p0 ?_
    refine y_s (pc' := 19) (L' := [some (vR (some 90))]) (st' := [vI 48, vI (ypeek h), vR (some 90)]) (h' := h) f65_17 rfl ?_
    refine y_s (pc' := 20) (L' := [some (vR (some 90))]) (st' := [vI (zw ((ypeek h) - 48)), vR (some 90)]) (h' := h) f65_19 rfl ?_
    refine y_pi (pc' := 23) f65_20 yf_6_62 rfl rfl (ys90 w) (by decide) (Or.inl rfl) rfl ?_
    refine y_s (pc' := 24) (L' := [some (vR (some 90))]) (st' := [vR (some 90)]) (h' := (zsetV h 90 3 (zw ((ypeek h) - 48)))) f65_23 rfl ?_
    refine y_s (pc' := 25) (L' := [some (vR (some 90))]) (st' := [vR (some 90), vR (some 90)]) (h' := (zsetV h 90 3 (zw ((ypeek h) - 48)))) f65_24 rfl ?_
    refine y_gi (pc' := 28) f65_25 yf_6_28 rfl rfl (ys90 w) rfl ?_
    refine y_s (pc' := 29) (L' := [some (vR (some 90))]) (st' := [vI 1, vI (zV (zsetV h 90 3 (zw ((ypeek h) - 48))) 90 2), vR (some 90)]) (h' := (zsetV h 90 3 (zw ((ypeek h) - 48)))) f65_28 rfl ?_
    refine y_s (pc' := 30) (L' := [some (vR (some 90))]) (st' := [vI (zw ((zV (zsetV h 90 3 (zw ((ypeek h) - 48))) 90 2) + 1)), vR (some 90)]) (h' := (zsetV h 90 3 (zw ((ypeek h) - 48)))) f65_29 rfl ?_
    refine y_pi (pc' := 33) f65_30 yf_6_28 rfl rfl (ys90 w) (by decide) (Or.inl rfl) rfl ?_
    generalize e_33 : (zsetV (zsetV h 90 3 (zw ((ypeek h) - 48))) 90 2 (zw ((zV (zsetV h 90 3 (zw ((ypeek h) - 48))) 90 2) + 1))) = h_33
    replace k := k _ e_33
    have w : yWF zl nl h_33 := by rw [← e_33]; exact w
    refine y_s (pc' := 34) (L' := [some (vR (some 90))]) (st' := [vR (some 90)]) (h' := h_33) f65_33 rfl ?_
    refine y_cI (pc' := 37) (as := [vR (some 90)]) (r := []) f65_34 (yzv ym_6_39 rfl (ys90 w) rfl rfl) (by omega) rfl ?_
    have p0 := k.1
    replace k := k.2
    refine sp50 w p0 ?_
    refine y_cI (pc' := 40) (as := [vI (ypeek h_33)]) (r := []) f65_37 rfl (by omega) rfl ?_
    refine sp66 w (fun c => ?_) (fun c => ?_)
    · replace k := k.1 c
      refine y_iff (pcT := 72) (pc' := 43) f65_40 rfl rfl rfl ?_
      refine y_s (pc' := 44) (L' := [some (vR (some 90))]) (st' := [vR (some 90)]) (h' := h_33) f65_43 rfl ?_
      refine y_s (pc' := 45) (L' := [some (vR (some 90))]) (st' := [vR (some 90), vR (some 90)]) (h' := h_33) f65_44 rfl ?_
      refine y_gi (pc' := 48) f65_45 yf_6_62 rfl rfl (ys90 w) rfl ?_
      refine y_s (pc' := 50) (L' := [some (vR (some 90))]) (st' := [vI 10, vI (zV h_33 90 3), vR (some 90)]) (h' := h_33) f65_48 rfl ?_
      refine y_s (pc' := 51) (L' := [some (vR (some 90))]) (st' := [vI (zw ((zV h_33 90 3) * 10)), vR (some 90)]) (h' := h_33) f65_50 rfl ?_
      refine y_s (pc' := 52) (L' := [some (vR (some 90))]) (st' := [vR (some 90), vI (zw ((zV h_33 90 3) * 10)), vR (some 90)]) (h' := h_33) f65_51 rfl ?_
      refine y_cI (pc' := 55) (as := [vR (some 90)]) (r := [vI (zw ((zV h_33 90 3) * 10)), vR (some 90)]) f65_52 (yzv ym_6_39 rfl (ys90 w) rfl rfl) (by omega) rfl ?_
      have p0 := k.1
      replace k := k.2
      refine sp50 w p0 ?_
      refine y_s (pc' := 56) (L' := [some (vR (some 90))]) (st' := [vI (zw ((zw ((zV h_33 90 3) * 10)) + (ypeek h_33))), vR (some 90)]) (h' := h_33) f65_55 rfl ?_
      refine y_s (pc' := 58) (L' := [some (vR (some 90))]) (st' := [vI 48, vI (zw ((zw ((zV h_33 90 3) * 10)) + (ypeek h_33))), vR (some 90)]) (h' := h_33) f65_56 rfl ?_
      refine y_s (pc' := 59) (L' := [some (vR (some 90))]) (st' := [vI (zw ((zw ((zw ((zV h_33 90 3) * 10)) + (ypeek h_33))) - 48)), vR (some 90)]) (h' := h_33) f65_58 rfl ?_
      refine y_pi (pc' := 62) f65_59 yf_6_62 rfl rfl (ys90 w) (by decide) (Or.inl rfl) rfl ?_
      refine y_s (pc' := 63) (L' := [some (vR (some 90))]) (st' := [vR (some 90)]) (h' := (zsetV h_33 90 3 (zw ((zw ((zw ((zV h_33 90 3) * 10)) + (ypeek h_33))) - 48)))) f65_62 rfl ?_
      refine y_s (pc' := 64) (L' := [some (vR (some 90))]) (st' := [vR (some 90), vR (some 90)]) (h' := (zsetV h_33 90 3 (zw ((zw ((zw ((zV h_33 90 3) * 10)) + (ypeek h_33))) - 48)))) f65_63 rfl ?_
      refine y_gi (pc' := 67) f65_64 yf_6_28 rfl rfl (ys90 w) rfl ?_
      refine y_s (pc' := 68) (L' := [some (vR (some 90))]) (st' := [vI 1, vI (zV (zsetV h_33 90 3 (zw ((zw ((zw ((zV h_33 90 3) * 10)) + (ypeek h_33))) - 48))) 90 2), vR (some 90)]) (h' := (zsetV h_33 90 3 (zw ((zw ((zw ((zV h_33 90 3) * 10)) + (ypeek h_33))) - 48)))) f65_67 rfl ?_
      refine y_s (pc' := 69) (L' := [some (vR (some 90))]) (st' := [vI (zw ((zV (zsetV h_33 90 3 (zw ((zw ((zw ((zV h_33 90 3) * 10)) + (ypeek h_33))) - 48))) 90 2) + 1)), vR (some 90)]) (h' := (zsetV h_33 90 3 (zw ((zw ((zw ((zV h_33 90 3) * 10)) + (ypeek h_33))) - 48)))) f65_68 rfl ?_
      refine y_pi (pc' := 72) f65_69 yf_6_28 rfl rfl (ys90 w) (by decide) (Or.inl rfl) rfl ?_
      generalize e_72 : (zsetV (zsetV h_33 90 3 (zw ((zw ((zw ((zV h_33 90 3) * 10)) + (ypeek h_33))) - 48))) 90 2 (zw ((zV (zsetV h_33 90 3 (zw ((zw ((zw ((zV h_33 90 3) * 10)) + (ypeek h_33))) - 48))) 90 2) + 1))) = h_72
      replace k := k _ e_72
      have w : yWF zl nl h_72 := by rw [← e_72]; exact w
      refine y_s (pc' := 73) (L' := [some (vR (some 90))]) (st' := [vI 1]) (h' := h_72) f65_72 rfl ?_
      exact y_ri f65_73 ⟨rfl, k⟩
    · replace k := k.2 c
      refine y_ift (pcT := 72) f65_40 rfl rfl ?_
      refine y_s (pc' := 73) (L' := [some (vR (some 90))]) (st' := [vI 1]) (h' := h_33) f65_72 rfl ?_
      exact y_ri f65_73 ⟨rfl, k⟩
  · replace k := k.2 c
    refine y_iff (pcT := 12) (pc' := 10) f65_7 rfl rfl rfl ?_
    refine y_s (pc' := 11) (L' := [some (vR (some 90))]) (st' := [vI 0]) (h' := h) f65_10 rfl ?_
    exact y_ri f65_11 ⟨rfl, k⟩
/-- HatterTunes$House.raiseBump(II)V -/
theorem E31 {d : Nat} {K : Hp → Prop} (w : yWF zl nl h) {a : Nat} (ha : yHs a) {x0 : Int} {x1 : Int} (hd : 1 ≤ d) (k : (((0 : Int) ≤ x0 ∧ x0 < 6 ∧ (0 : Int) ≤ x1 ∧ x1 < 6) ∧ (((0 : Int) ≤ x0 ∧ x0 < 6 ∧ (0 : Int) ≤ x1 ∧ x1 < 6) ∧ K (zsetV h (a + 4) (6 * x0 + x1).toNat (zrem (zw ((zV h (a + 4) (6 * x0 + x1).toNat) + 1)) 10))))) : yU d 31 [vR (some a), vI x0, vI x1] h K := by
  refine y_en (L := [some (vR (some a)), some (vI x0), some (vI x1)]) rfl rfl ?_
  refine y_s (pc' := 1) (L' := [some (vR (some a)), some (vI x0), some (vI x1)]) (st' := [vR (some a)]) (h' := h) f31_0 rfl ?_
  refine y_s (pc' := 2) (L' := [some (vR (some a)), some (vI x0), some (vI x1)]) (st' := [vI x0, vR (some a)]) (h' := h) f31_1 rfl ?_
  refine y_s (pc' := 3) (L' := [some (vR (some a)), some (vI x0), some (vI x1)]) (st' := [vI x1, vI x0, vR (some a)]) (h' := h) f31_2 rfl ?_
  refine y_s (pc' := 4) (L' := [some (vR (some a)), some (vI x0), some (vI x1)]) (st' := [vR (some a), vI x1, vI x0, vR (some a)]) (h' := h) f31_3 rfl ?_
  refine y_s (pc' := 5) (L' := [some (vR (some a)), some (vI x0), some (vI x1)]) (st' := [vI x0, vR (some a), vI x1, vI x0, vR (some a)]) (h' := h) f31_4 rfl ?_
  refine y_s (pc' := 6) (L' := [some (vR (some a)), some (vI x0), some (vI x1)]) (st' := [vI x1, vI x0, vR (some a), vI x1, vI x0, vR (some a)]) (h' := h) f31_5 rfl ?_
  refine y_cI (pc' := 9) (as := [vR (some a), vI x0, vI x1]) (r := [vI x1, vI x0, vR (some a)]) f31_6 (yzv ym_2_80 rfl (ysH0 w ha) rfl rfl) (by omega) rfl ?_
  have p0 := k.1
  replace k := k.2
  refine sp20 w ha p0 ?_
  refine y_s (pc' := 10) (L' := [some (vR (some a)), some (vI x0), some (vI x1)]) (st' := [vI 1, vI (zV h (a + 4) (6 * x0 + x1).toNat), vI x1, vI x0, vR (some a)]) (h' := h) f31_9 rfl ?_
  refine y_s (pc' := 11) (L' := [some (vR (some a)), some (vI x0), some (vI x1)]) (st' := [vI (zw ((zV h (a + 4) (6 * x0 + x1).toNat) + 1)), vI x1, vI x0, vR (some a)]) (h' := h) f31_10 rfl ?_
  refine y_s (pc' := 13) (L' := [some (vR (some a)), some (vI x0), some (vI x1)]) (st' := [vI 10, vI (zw ((zV h (a + 4) (6 * x0 + x1).toNat) + 1)), vI x1, vI x0, vR (some a)]) (h' := h) f31_11 rfl ?_
  refine y_rm (pc' := 14) f31_13 (by decide) rfl ?_
  refine y_cU (pc' := 17) (as := [vR (some a), vI x0, vI x1, vI (zrem (zw ((zV h (a + 4) (6 * x0 + x1).toNat) + 1)) 10)]) (r := []) f31_14 (yzv ym_2_76 rfl (ysH0 w ha) rfl rfl) (by omega) rfl ?_
  have p0 := k.1
  replace k := k.2
  refine sp13 w ha p0 ?_
  exact y_ru f31_17 ⟨rfl, k⟩
/-- HatterTunesModel.isOne(I)Z -/
theorem E131 {d : Nat} {K : Int → Hp → Prop} (w : yWF zl nl h) {x0 : Int} (hd : 1 ≤ d) (k : ((((0 : Int) ≤ x0 ∧ x0 ≤ (zw ((zV h 137 0) - 1))) → K 1 h) ∧ (¬ (((0 : Int) ≤ x0 ∧ x0 ≤ (zw ((zV h 137 0) - 1)))) → K 0 h))) : yI d 131 [vR (some 137), vI x0] h K := by
  refine y_en (L := [some (vR (some 137)), some (vI x0)]) rfl rfl ?_
  refine y_s (pc' := 1) (L' := [some (vR (some 137)), some (vI x0)]) (st' := [vI x0]) (h' := h) f131_0 rfl ?_
  refine y_s (pc' := 2) (L' := [some (vR (some 137)), some (vI x0)]) (st' := [vI 0, vI x0]) (h' := h) f131_1 rfl ?_
  refine y_s (pc' := 3) (L' := [some (vR (some 137)), some (vI x0)]) (st' := [vR (some 137), vI 0, vI x0]) (h' := h) f131_2 rfl ?_
  refine y_gi (pc' := 6) f131_3 yf_8_114 rfl rfl (ys137 w) rfl ?_
  refine y_s (pc' := 7) (L' := [some (vR (some 137)), some (vI x0)]) (st' := [vI 1, vI (zV h 137 0), vI 0, vI x0]) (h' := h) f131_6 rfl ?_
  refine y_s (pc' := 8) (L' := [some (vR (some 137)), some (vI x0)]) (st' := [vI (zw ((zV h 137 0) - 1)), vI 0, vI x0]) (h' := h) f131_7 rfl ?_
  refine y_cI (pc' := 11) (as := [vI x0, vI 0, vI (zw ((zV h 137 0) - 1))]) (r := []) f131_8 rfl (by omega) rfl ?_
  refine sp129 w (fun c => ?_) (fun c => ?_)
  · replace k := k.1 c
    exact y_ri f131_11 ⟨rfl, k⟩
  · replace k := k.2 c
    exact y_ri f131_11 ⟨rfl, k⟩
/-- HatterTunesModel.isBump(I)Z -/
theorem E132 {d : Nat} {K : Int → Hp → Prop} (w : yWF zl nl h) {x0 : Int} (hd : 1 ≤ d) (k : ((((0 : Int) ≤ x0 ∧ x0 ≤ 5) → K 1 h) ∧ (¬ (((0 : Int) ≤ x0 ∧ x0 ≤ 5)) → K 0 h))) : yI d 132 [vI x0] h K := by
  refine y_en (L := [some (vI x0)]) rfl rfl ?_
  refine y_s (pc' := 1) (L' := [some (vI x0)]) (st' := [vI x0]) (h' := h) f132_0 rfl ?_
  refine y_s (pc' := 2) (L' := [some (vI x0)]) (st' := [vI 0, vI x0]) (h' := h) f132_1 rfl ?_
  refine y_s (pc' := 3) (L' := [some (vI x0)]) (st' := [vI 5, vI 0, vI x0]) (h' := h) f132_2 rfl ?_
  refine y_cI (pc' := 6) (as := [vI x0, vI 0, vI 5]) (r := []) f132_3 rfl (by omega) rfl ?_
  refine sp129 w (fun c => ?_) (fun c => ?_)
  · replace k := k.1 c
    exact y_ri f132_6 ⟨rfl, k⟩
  · replace k := k.2 c
    exact y_ri f132_6 ⟨rfl, k⟩
/-- HatterTunesModel.isNote(I)Z -/
theorem E151 {d : Nat} {K : Int → Hp → Prop} (w : yWF zl nl h) {x0 : Int} (hd : 1 ≤ d) (k : ((((0 : Int) ≤ x0 ∧ x0 ≤ 9) → K 1 h) ∧ (¬ (((0 : Int) ≤ x0 ∧ x0 ≤ 9)) → K 0 h))) : yI d 151 [vI x0] h K := by
  refine y_en (L := [some (vI x0)]) rfl rfl ?_
  refine y_s (pc' := 1) (L' := [some (vI x0)]) (st' := [vI x0]) (h' := h) f151_0 rfl ?_
  refine y_s (pc' := 2) (L' := [some (vI x0)]) (st' := [vI 0, vI x0]) (h' := h) f151_1 rfl ?_
  refine y_s (pc' := 4) (L' := [some (vI x0)]) (st' := [vI 9, vI 0, vI x0]) (h' := h) f151_2 rfl ?_
  refine y_cI (pc' := 7) (as := [vI x0, vI 0, vI 9]) (r := []) f151_4 rfl (by omega) rfl ?_
  refine sp129 w (fun c => ?_) (fun c => ?_)
  · replace k := k.1 c
    exact y_ri f151_7 ⟨rfl, k⟩
  · replace k := k.2 c
    exact y_ri f151_7 ⟨rfl, k⟩
/-- HatterTunesModel.isTape(I)Z -/
theorem E214 {d : Nat} {K : Int → Hp → Prop} (w : yWF zl nl h) {x0 : Int} (hd : 1 ≤ d) (k : ((((0 : Int) ≤ x0 ∧ x0 ≤ 5) → K 1 h) ∧ (¬ (((0 : Int) ≤ x0 ∧ x0 ≤ 5)) → K 0 h))) : yI d 214 [vI x0] h K := by
  refine y_en (L := [some (vI x0)]) rfl rfl ?_
  refine y_s (pc' := 1) (L' := [some (vI x0)]) (st' := [vI x0]) (h' := h) f214_0 rfl ?_
  refine y_s (pc' := 2) (L' := [some (vI x0)]) (st' := [vI 0, vI x0]) (h' := h) f214_1 rfl ?_
  refine y_s (pc' := 3) (L' := [some (vI x0)]) (st' := [vI 5, vI 0, vI x0]) (h' := h) f214_2 rfl ?_
  refine y_cI (pc' := 6) (as := [vI x0, vI 0, vI 5]) (r := []) f214_3 rfl (by omega) rfl ?_
  refine sp129 w (fun c => ?_) (fun c => ?_)
  · replace k := k.1 c
    exact y_ri f214_6 ⟨rfl, k⟩
  · replace k := k.2 c
    exact y_ri f214_6 ⟨rfl, k⟩
/-- HatterTunesModel.is(I)Z -/
theorem E158 {d : Nat} {K : Int → Hp → Prop} (w : yWF zl nl h) {x0 : Int} (k : (((zV h 137 11) = (zV h 137 9) → K 0 h) ∧ (¬ ((zV h 137 11) = (zV h 137 9)) → ((0 ≤ (zV h 137 11) ∧ (zV h 137 11) < 100) ∧ (((zV h 144 ((zV h 137 11)).toNat) = x0 → K 1 (zsetV h 137 11 (zw ((zV h 137 11) + 1)))) ∧ (¬ ((zV h 144 ((zV h 137 11)).toNat) = x0) → K 0 h)))))) : yI d 158 [vR (some 137), vI x0] h K := by
  refine y_en (L := [some (vR (some 137)), some (vI x0)]) rfl rfl ?_
  refine y_s (pc' := 1) (L' := [some (vR (some 137)), some (vI x0)]) (st' := [vR (some 137)]) (h' := h) f158_0 rfl ?_
  refine y_gi (pc' := 4) f158_1 yf_8_160 rfl rfl (ys137 w) rfl ?_
  refine y_s (pc' := 5) (L' := [some (vR (some 137)), some (vI x0)]) (st' := [vR (some 137), vI (zV h 137 11)]) (h' := h) f158_4 rfl ?_
  refine y_gi (pc' := 8) f158_5 yf_8_157 rfl rfl (ys137 w) rfl ?_
  refine y_ic (pcT := 24) (pc' := 11) (P := (zV h 137 11) = (zV h 137 9)) f158_8 rfl rfl rfl (fun c => ?_) (fun c => ?_)
  · replace k := k.1 c
    refine y_s (pc' := 25) (L' := [some (vR (some 137)), some (vI x0)]) (st' := [vI 0]) (h' := h) f158_24 rfl ?_
    exact y_ri f158_25 ⟨rfl, k⟩
  · replace k := k.2 c
    refine y_s (pc' := 12) (L' := [some (vR (some 137)), some (vI x0)]) (st' := [vR (some 137)]) (h' := h) f158_11 rfl ?_
    refine y_gr (pc' := 15) f158_12 yf_8_30 rfl rfl (ys137 w) (yp137_10 w) rfl ?_
    refine y_s (pc' := 16) (L' := [some (vR (some 137)), some (vI x0)]) (st' := [vR (some 137), vR (some 144)]) (h' := h) f158_15 rfl ?_
    refine y_gi (pc' := 19) f158_16 yf_8_160 rfl rfl (ys137 w) rfl ?_
    refine y_ia (pc' := 20) (x := (zV h 144 ((zV h 137 11)).toNat)) f158_19 (ys144 w) k.1 rfl rfl ?_
    replace k := k.2
    refine y_s (pc' := 21) (L' := [some (vR (some 137)), some (vI x0)]) (st' := [vI x0, vI (zV h 144 ((zV h 137 11)).toNat)]) (h' := h) f158_20 rfl ?_
    refine y_ic (pcT := 26) (pc' := 24) (P := (zV h 144 ((zV h 137 11)).toNat) = x0) f158_21 rfl rfl rfl (fun c => ?_) (fun c => ?_)
    · replace k := k.1 c
      refine y_s (pc' := 27) (L' := [some (vR (some 137)), some (vI x0)]) (st' := [vR (some 137)]) (h' := h) f158_26 rfl ?_
      refine y_s (pc' := 28) (L' := [some (vR (some 137)), some (vI x0)]) (st' := [vR (some 137), vR (some 137)]) (h' := h) f158_27 rfl ?_
      refine y_gi (pc' := 31) f158_28 yf_8_160 rfl rfl (ys137 w) rfl ?_
      refine y_s (pc' := 32) (L' := [some (vR (some 137)), some (vI x0)]) (st' := [vI 1, vI (zV h 137 11), vR (some 137)]) (h' := h) f158_31 rfl ?_
      refine y_s (pc' := 33) (L' := [some (vR (some 137)), some (vI x0)]) (st' := [vI (zw ((zV h 137 11) + 1)), vR (some 137)]) (h' := h) f158_32 rfl ?_
      refine y_pi (pc' := 36) f158_33 yf_8_160 rfl rfl (ys137 w) (by decide) (Or.inl rfl) rfl ?_
      refine y_s (pc' := 37) (L' := [some (vR (some 137)), some (vI x0)]) (st' := [vI 1]) (h' := (zsetV h 137 11 (zw ((zV h 137 11) + 1)))) f158_36 rfl ?_
      exact y_ri f158_37 ⟨rfl, k⟩
    · replace k := k.2 c
      refine y_s (pc' := 25) (L' := [some (vR (some 137)), some (vI x0)]) (st' := [vI 0]) (h' := h) f158_24 rfl ?_
      exact y_ri f158_25 ⟨rfl, k⟩
/-- HatterTunesModel.isDigit()Z -/
theorem E160 {d : Nat} {K : Int → Hp → Prop} (w : yWF zl nl h) (k : (((zV h 137 9) ≤ (zV h 137 11) → K 0 h) ∧ (¬ ((zV h 137 9) ≤ (zV h 137 11)) → ((0 ≤ (zV h 137 11) ∧ (zV h 137 11) < 100) ∧ (((zV h 144 ((zV h 137 11)).toNat) < 48 → K 0 h) ∧ (¬ ((zV h 144 ((zV h 137 11)).toNat) < 48) → ((0 ≤ (zV h 137 11) ∧ (zV h 137 11) < 100) ∧ ((57 < (zV h 144 ((zV h 137 11)).toNat) → K 0 h) ∧ (¬ (57 < (zV h 144 ((zV h 137 11)).toNat)) → K 1 h))))))))) : yI d 160 [vR (some 137)] h K := by
  refine y_en (L := [some (vR (some 137))]) rfl rfl ?_
  refine y_s (pc' := 1) (L' := [some (vR (some 137))]) (st' := [vR (some 137)]) (h' := h) f160_0 rfl ?_
  refine y_gi (pc' := 4) f160_1 yf_8_160 rfl rfl (ys137 w) rfl ?_
  refine y_s (pc' := 5) (L' := [some (vR (some 137))]) (st' := [vR (some 137), vI (zV h 137 11)]) (h' := h) f160_4 rfl ?_
  refine y_gi (pc' := 8) f160_5 yf_8_157 rfl rfl (ys137 w) rfl ?_
  refine y_ic (pcT := 43) (pc' := 11) (P := (zV h 137 9) ≤ (zV h 137 11)) f160_8 rfl rfl rfl (fun c => ?_) (fun c => ?_)
  · replace k := k.1 c
    refine y_s (pc' := 44) (L' := [some (vR (some 137))]) (st' := [vI 0]) (h' := h) f160_43 rfl ?_
    exact y_ri f160_44 ⟨rfl, k⟩
  · replace k := k.2 c
    refine y_s (pc' := 12) (L' := [some (vR (some 137))]) (st' := [vR (some 137)]) (h' := h) f160_11 rfl ?_
    refine y_gr (pc' := 15) f160_12 yf_8_30 rfl rfl (ys137 w) (yp137_10 w) rfl ?_
    refine y_s (pc' := 16) (L' := [some (vR (some 137))]) (st' := [vR (some 137), vR (some 144)]) (h' := h) f160_15 rfl ?_
    refine y_gi (pc' := 19) f160_16 yf_8_160 rfl rfl (ys137 w) rfl ?_
    refine y_ia (pc' := 20) (x := (zV h 144 ((zV h 137 11)).toNat)) f160_19 (ys144 w) k.1 rfl rfl ?_
    replace k := k.2
    refine y_s (pc' := 22) (L' := [some (vR (some 137))]) (st' := [vI 48, vI (zV h 144 ((zV h 137 11)).toNat)]) (h' := h) f160_20 rfl ?_
    refine y_ic (pcT := 43) (pc' := 25) (P := (zV h 144 ((zV h 137 11)).toNat) < 48) f160_22 rfl rfl rfl (fun c => ?_) (fun c => ?_)
    · replace k := k.1 c
      refine y_s (pc' := 44) (L' := [some (vR (some 137))]) (st' := [vI 0]) (h' := h) f160_43 rfl ?_
      exact y_ri f160_44 ⟨rfl, k⟩
    · replace k := k.2 c
      refine y_s (pc' := 26) (L' := [some (vR (some 137))]) (st' := [vR (some 137)]) (h' := h) f160_25 rfl ?_
      refine y_gr (pc' := 29) f160_26 yf_8_30 rfl rfl (ys137 w) (yp137_10 w) rfl ?_
      refine y_s (pc' := 30) (L' := [some (vR (some 137))]) (st' := [vR (some 137), vR (some 144)]) (h' := h) f160_29 rfl ?_
      refine y_gi (pc' := 33) f160_30 yf_8_160 rfl rfl (ys137 w) rfl ?_
      refine y_ia (pc' := 34) (x := (zV h 144 ((zV h 137 11)).toNat)) f160_33 (ys144 w) k.1 rfl rfl ?_
      replace k := k.2
      refine y_s (pc' := 36) (L' := [some (vR (some 137))]) (st' := [vI 57, vI (zV h 144 ((zV h 137 11)).toNat)]) (h' := h) f160_34 rfl ?_
      refine y_ic (pcT := 43) (pc' := 39) (P := 57 < (zV h 144 ((zV h 137 11)).toNat)) f160_36 rfl rfl rfl (fun c => ?_) (fun c => ?_)
      · replace k := k.1 c
        refine y_s (pc' := 44) (L' := [some (vR (some 137))]) (st' := [vI 0]) (h' := h) f160_43 rfl ?_
        exact y_ri f160_44 ⟨rfl, k⟩
      · replace k := k.2 c
        refine y_s (pc' := 40) (L' := [some (vR (some 137))]) (st' := [vI 1]) (h' := h) f160_39 rfl ?_
        refine y_go (pc' := 44) f160_40 rfl ?_
        exact y_ri f160_44 ⟨rfl, k⟩
/-- HatterTunesModel.isNumber()Z -/
theorem E159 {d : Nat} {K : Int → Hp → Prop} (w : yWF zl nl h) (k : (∀ h_10, (zsetV (zsetV h 137 12 0) 137 13 0) = h_10 → ZW d prog_10_method_14_code 8 10 [some (vR (some 137))] [] h_10 (yq 2 (yqI K)))) : yI d 159 [vR (some 137)] h K := by
  refine y_en (L := [some (vR (some 137))]) rfl rfl ?_
  refine y_s (pc' := 1) (L' := [some (vR (some 137))]) (st' := [vR (some 137)]) (h' := h) f159_0 rfl ?_
  refine y_s (pc' := 2) (L' := [some (vR (some 137))]) (st' := [vI 0, vR (some 137)]) (h' := h) f159_1 rfl ?_
  refine y_pi (pc' := 5) f159_2 yf_8_163 rfl rfl (ys137 w) (by decide) (Or.inl rfl) rfl ?_
  refine y_s (pc' := 6) (L' := [some (vR (some 137))]) (st' := [vR (some 137)]) (h' := (zsetV h 137 12 0)) f159_5 rfl ?_
  refine y_s (pc' := 7) (L' := [some (vR (some 137))]) (st' := [vI 0, vR (some 137)]) (h' := (zsetV h 137 12 0)) f159_6 rfl ?_
  refine y_pi (pc' := 10) f159_7 yf_8_166 rfl rfl (ys137 w) (by decide) (Or.inl rfl) rfl ?_
  generalize e_10 : (zsetV (zsetV h 137 12 0) 137 13 0) = h_10
  replace k := k _ e_10
  have w : yWF zl nl h_10 := by rw [← e_10]; exact w
  exact k
theorem W159_10 {d : Nat} {K : Int → Hp → Prop} (w : yWF zl nl h)  (hd : 1 ≤ d) (k : ((2 ≤ (zV h 137 13) → (((zV h 137 13) ≤ 0 → K 0 h) ∧ (¬ ((zV h 137 13) ≤ 0) → K 1 h))) ∧ (¬ (2 ≤ (zV h 137 13)) → yI (d - 1) 160 [vR (some 137)] h (fun x h' => ZW d prog_10_method_14_code 8 22 [some (vR (some 137))] [vI x] h' (yq 2 (yqI K)))))) : ZW d prog_10_method_14_code 8 10 [some (vR (some 137))] [] h (yq 2 (yqI K)) := by
  refine y_s (pc' := 11) (L' := [some (vR (some 137))]) (st' := [vR (some 137)]) (h' := h) f159_10 rfl ?_
  refine y_gi (pc' := 14) f159_11 yf_8_166 rfl rfl (ys137 w) rfl ?_
  refine y_s (pc' := 15) (L' := [some (vR (some 137))]) (st' := [vI 2, vI (zV h 137 13)]) (h' := h) f159_14 rfl ?_
  refine y_ic (pcT := 72) (pc' := 18) (P := 2 ≤ (zV h 137 13)) f159_15 rfl rfl rfl (fun c => ?_) (fun c => ?_)
  · replace k := k.1 c
    refine y_s (pc' := 73) (L' := [some (vR (some 137))]) (st' := [vR (some 137)]) (h' := h) f159_72 rfl ?_
    refine y_gi (pc' := 76) f159_73 yf_8_166 rfl rfl (ys137 w) rfl ?_
    refine y_if (pcT := 83) (pc' := 79) (P := (zV h 137 13) ≤ 0) f159_76 rfl rfl rfl (fun c => ?_) (fun c => ?_)
    · replace k := k.1 c
      refine y_s (pc' := 84) (L' := [some (vR (some 137))]) (st' := [vI 0]) (h' := h) f159_83 rfl ?_
      exact y_ri f159_84 ⟨rfl, k⟩
    · replace k := k.2 c
      refine y_s (pc' := 80) (L' := [some (vR (some 137))]) (st' := [vI 1]) (h' := h) f159_79 rfl ?_
      refine y_go (pc' := 84) f159_80 rfl ?_
      exact y_ri f159_84 ⟨rfl, k⟩
  · replace k := k.2 c
    refine y_s (pc' := 19) (L' := [some (vR (some 137))]) (st' := [vR (some 137)]) (h' := h) f159_18 rfl ?_
    refine y_cI (pc' := 22) (as := [vR (some 137)]) (r := []) f159_19 (yzv ym_8_169 rfl (ys137 w) rfl rfl) (by omega) rfl ?_
    exact k
theorem W159_22 {d : Nat} {K : Int → Hp → Prop} (w : yWF zl nl h) {s0 : Int} (k : ((s0 = 0 → (((zV h 137 13) ≤ 0 → K 0 h) ∧ (¬ ((zV h 137 13) ≤ 0) → K 1 h))) ∧ (¬ (s0 = 0) → ((0 ≤ (zV h 137 11) ∧ (zV h 137 11) < 100) ∧ (∀ h_59, (zsetV (zsetV h 137 12 (zw ((zw ((zw (10 * (zV h 137 12))) + (zV h 144 ((zV h 137 11)).toNat))) - 48))) 137 11 (zw ((zV (zsetV h 137 12 (zw ((zw ((zw (10 * (zV h 137 12))) + (zV h 144 ((zV h 137 11)).toNat))) - 48))) 137 11) + 1))) = h_59 → ZW d prog_10_method_14_code 8 10 [some (vR (some 137))] [] (zsetV h_59 137 13 (zw ((zV h_59 137 13) + 1))) (yq 2 (yqI K))))))) : ZW d prog_10_method_14_code 8 22 [some (vR (some 137))] [vI s0] h (yq 2 (yqI K)) := by
  refine y_if (pcT := 72) (pc' := 25) (P := s0 = 0) f159_22 rfl rfl rfl (fun c => ?_) (fun c => ?_)
  · replace k := k.1 c
    refine y_s (pc' := 73) (L' := [some (vR (some 137))]) (st' := [vR (some 137)]) (h' := h) f159_72 rfl ?_
    refine y_gi (pc' := 76) f159_73 yf_8_166 rfl rfl (ys137 w) rfl ?_
    refine y_if (pcT := 83) (pc' := 79) (P := (zV h 137 13) ≤ 0) f159_76 rfl rfl rfl (fun c => ?_) (fun c => ?_)
    · replace k := k.1 c
      refine y_s (pc' := 84) (L' := [some (vR (some 137))]) (st' := [vI 0]) (h' := h) f159_83 rfl ?_
      exact y_ri f159_84 ⟨rfl, k⟩
    · replace k := k.2 c
      refine y_s (pc' := 80) (L' := [some (vR (some 137))]) (st' := [vI 1]) (h' := h) f159_79 rfl ?_
      refine y_go (pc' := 84) f159_80 rfl ?_
      exact y_ri f159_84 ⟨rfl, k⟩
  · replace k := k.2 c
    refine y_s (pc' := 26) (L' := [some (vR (some 137))]) (st' := [vR (some 137)]) (h' := h) f159_25 rfl ?_
    refine y_s (pc' := 28) (L' := [some (vR (some 137))]) (st' := [vI 10, vR (some 137)]) (h' := h) f159_26 rfl ?_
    refine y_s (pc' := 29) (L' := [some (vR (some 137))]) (st' := [vR (some 137), vI 10, vR (some 137)]) (h' := h) f159_28 rfl ?_
    refine y_gi (pc' := 32) f159_29 yf_8_163 rfl rfl (ys137 w) rfl ?_
    refine y_s (pc' := 33) (L' := [some (vR (some 137))]) (st' := [vI (zw (10 * (zV h 137 12))), vR (some 137)]) (h' := h) f159_32 rfl ?_
    refine y_s (pc' := 34) (L' := [some (vR (some 137))]) (st' := [vR (some 137), vI (zw (10 * (zV h 137 12))), vR (some 137)]) (h' := h) f159_33 rfl ?_
    refine y_gr (pc' := 37) f159_34 yf_8_30 rfl rfl (ys137 w) (yp137_10 w) rfl ?_
    refine y_s (pc' := 38) (L' := [some (vR (some 137))]) (st' := [vR (some 137), vR (some 144), vI (zw (10 * (zV h 137 12))), vR (some 137)]) (h' := h) f159_37 rfl ?_
    refine y_gi (pc' := 41) f159_38 yf_8_160 rfl rfl (ys137 w) rfl ?_
    refine y_ia (pc' := 42) (x := (zV h 144 ((zV h 137 11)).toNat)) f159_41 (ys144 w) k.1 rfl rfl ?_
    replace k := k.2
    refine y_s (pc' := 43) (L' := [some (vR (some 137))]) (st' := [vI (zw ((zw (10 * (zV h 137 12))) + (zV h 144 ((zV h 137 11)).toNat))), vR (some 137)]) (h' := h) f159_42 rfl ?_
    refine y_s (pc' := 45) (L' := [some (vR (some 137))]) (st' := [vI 48, vI (zw ((zw (10 * (zV h 137 12))) + (zV h 144 ((zV h 137 11)).toNat))), vR (some 137)]) (h' := h) f159_43 rfl ?_
    refine y_s (pc' := 46) (L' := [some (vR (some 137))]) (st' := [vI (zw ((zw ((zw (10 * (zV h 137 12))) + (zV h 144 ((zV h 137 11)).toNat))) - 48)), vR (some 137)]) (h' := h) f159_45 rfl ?_
    refine y_pi (pc' := 49) f159_46 yf_8_163 rfl rfl (ys137 w) (by decide) (Or.inl rfl) rfl ?_
    refine y_s (pc' := 50) (L' := [some (vR (some 137))]) (st' := [vR (some 137)]) (h' := (zsetV h 137 12 (zw ((zw ((zw (10 * (zV h 137 12))) + (zV h 144 ((zV h 137 11)).toNat))) - 48)))) f159_49 rfl ?_
    refine y_s (pc' := 51) (L' := [some (vR (some 137))]) (st' := [vR (some 137), vR (some 137)]) (h' := (zsetV h 137 12 (zw ((zw ((zw (10 * (zV h 137 12))) + (zV h 144 ((zV h 137 11)).toNat))) - 48)))) f159_50 rfl ?_
    refine y_gi (pc' := 54) f159_51 yf_8_160 rfl rfl (ys137 w) rfl ?_
    refine y_s (pc' := 55) (L' := [some (vR (some 137))]) (st' := [vI 1, vI (zV (zsetV h 137 12 (zw ((zw ((zw (10 * (zV h 137 12))) + (zV h 144 ((zV h 137 11)).toNat))) - 48))) 137 11), vR (some 137)]) (h' := (zsetV h 137 12 (zw ((zw ((zw (10 * (zV h 137 12))) + (zV h 144 ((zV h 137 11)).toNat))) - 48)))) f159_54 rfl ?_
    refine y_s (pc' := 56) (L' := [some (vR (some 137))]) (st' := [vI (zw ((zV (zsetV h 137 12 (zw ((zw ((zw (10 * (zV h 137 12))) + (zV h 144 ((zV h 137 11)).toNat))) - 48))) 137 11) + 1)), vR (some 137)]) (h' := (zsetV h 137 12 (zw ((zw ((zw (10 * (zV h 137 12))) + (zV h 144 ((zV h 137 11)).toNat))) - 48)))) f159_55 rfl ?_
    refine y_pi (pc' := 59) f159_56 yf_8_160 rfl rfl (ys137 w) (by decide) (Or.inl rfl) rfl ?_
    generalize e_59 : (zsetV (zsetV h 137 12 (zw ((zw ((zw (10 * (zV h 137 12))) + (zV h 144 ((zV h 137 11)).toNat))) - 48))) 137 11 (zw ((zV (zsetV h 137 12 (zw ((zw ((zw (10 * (zV h 137 12))) + (zV h 144 ((zV h 137 11)).toNat))) - 48))) 137 11) + 1))) = h_59
    replace k := k _ e_59
    have w : yWF zl nl h_59 := by rw [← e_59]; exact w
    refine y_s (pc' := 60) (L' := [some (vR (some 137))]) (st' := [vR (some 137)]) (h' := h_59) f159_59 rfl ?_
    refine y_s (pc' := 61) (L' := [some (vR (some 137))]) (st' := [vR (some 137), vR (some 137)]) (h' := h_59) f159_60 rfl ?_
    refine y_gi (pc' := 64) f159_61 yf_8_166 rfl rfl (ys137 w) rfl ?_
    refine y_s (pc' := 65) (L' := [some (vR (some 137))]) (st' := [vI 1, vI (zV h_59 137 13), vR (some 137)]) (h' := h_59) f159_64 rfl ?_
    refine y_s (pc' := 66) (L' := [some (vR (some 137))]) (st' := [vI (zw ((zV h_59 137 13) + 1)), vR (some 137)]) (h' := h_59) f159_65 rfl ?_
    refine y_pi (pc' := 69) f159_66 yf_8_166 rfl rfl (ys137 w) (by decide) (Or.inl rfl) rfl ?_
    refine y_go (pc' := 10) f159_69 rfl ?_
    exact k
/-- HatterTunesModel.codes(I)Z -/
theorem E165 {d : Nat} {K : Int → Hp → Prop} (w : yWF zl nl h) {x0 : Int} (k : ((0 ≤ (zV h 137 23) ∧ (zV h 137 23) < 800) ∧ (∀ h_17, (zsetV (zsetV h 137 23 (zw ((zV h 137 23) + 1))) 150 ((zV h 137 23)).toNat x0) = h_17 → K 1 h_17))) : yI d 165 [vR (some 137), vI x0] h K := by
  refine y_en (L := [some (vR (some 137)), some (vI x0)]) rfl rfl ?_
  refine y_s (pc' := 1) (L' := [some (vR (some 137)), some (vI x0)]) (st' := [vR (some 137)]) (h' := h) f165_0 rfl ?_
  refine y_gr (pc' := 4) f165_1 yf_8_48 rfl rfl (ys137 w) (yp137_22 w) rfl ?_
  refine y_s (pc' := 5) (L' := [some (vR (some 137)), some (vI x0)]) (st' := [vR (some 137), vR (some 150)]) (h' := h) f165_4 rfl ?_
  refine y_s (pc' := 6) (L' := [some (vR (some 137)), some (vI x0)]) (st' := [vR (some 137), vR (some 137), vR (some 150)]) (h' := h) f165_5 rfl ?_
  refine y_gi (pc' := 9) f165_6 yf_8_185 rfl rfl (ys137 w) rfl ?_
  refine y_s (pc' := 10) (L' := [some (vR (some 137)), some (vI x0)]) (st' := [vI (zV h 137 23), vR (some 137), vI (zV h 137 23), vR (some 150)]) (h' := h) f165_9 rfl ?_
  refine y_s (pc' := 11) (L' := [some (vR (some 137)), some (vI x0)]) (st' := [vI 1, vI (zV h 137 23), vR (some 137), vI (zV h 137 23), vR (some 150)]) (h' := h) f165_10 rfl ?_
  refine y_s (pc' := 12) (L' := [some (vR (some 137)), some (vI x0)]) (st' := [vI (zw ((zV h 137 23) + 1)), vR (some 137), vI (zV h 137 23), vR (some 150)]) (h' := h) f165_11 rfl ?_
  refine y_pi (pc' := 15) f165_12 yf_8_185 rfl rfl (ys137 w) (by decide) (Or.inl rfl) rfl ?_
  refine y_s (pc' := 16) (L' := [some (vR (some 137)), some (vI x0)]) (st' := [vI x0, vI (zV h 137 23), vR (some 150)]) (h' := (zsetV h 137 23 (zw ((zV h 137 23) + 1)))) f165_15 rfl ?_
  refine y_is (pc' := 17) (h' := (zsetV (zsetV h 137 23 (zw ((zV h 137 23) + 1))) 150 ((zV h 137 23)).toNat x0)) f165_16 (ys150 w) (by decide) k.1 rfl rfl ?_
  replace k := k.2
  generalize e_17 : (zsetV (zsetV h 137 23 (zw ((zV h 137 23) + 1))) 150 ((zV h 137 23)).toNat x0) = h_17
  replace k := k _ e_17
  have w : yWF zl nl h_17 := by rw [← e_17]; exact w
  refine y_s (pc' := 18) (L' := [some (vR (some 137)), some (vI x0)]) (st' := [vI 1]) (h' := h_17) f165_17 rfl ?_
  exact y_ri f165_18 ⟨rfl, k⟩
/-- HatterTunesModel.letterOf(III)I -/
theorem E137 {d : Nat} {K : Int → Hp → Prop} (w : yWF zl nl h) {x0 : Int} {x1 : Int} {x2 : Int} (k : ((x2 = 0 → K x0 h) ∧ (x2 = 1 → ((0 ≤ x0 ∧ x0 < 6) ∧ K (zV h 138 (x0).toNat) h)) ∧ (x2 = 2 → ((0 ≤ x0 ∧ x0 < 6) ∧ K (zV h 139 (x0).toNat) h)) ∧ (x2 = 3 → K x1 h) ∧ (x2 = 4 → ((0 ≤ (zw ((zw (6 * x0)) + x1)) ∧ (zw ((zw (6 * x0)) + x1)) < 36) ∧ K (zV h 140 ((zw ((zw (6 * x0)) + x1))).toNat) h)) ∧ (x2 < 0 ∨ 4 < x2 → K (zrem (zV h 137 8) 10) h))) : yI d 137 [vR (some 137), vI x0, vI x1, vI x2] h K := by
  refine y_en (L := [some (vR (some 137)), some (vI x0), some (vI x1), some (vI x2)]) rfl rfl ?_
  refine y_s (pc' := 1) (L' := [some (vR (some 137)), some (vI x0), some (vI x1), some (vI x2)]) (st' := [vI x2]) (h' := h) f137_0 rfl ?_
  by_cases c : x2 = 0
  · refine y_tc (pc' := 36) (v := 0) f137_1 c rfl rfl rfl ?_
    replace k := k.1 c
    refine y_s (pc' := 37) (L' := [some (vR (some 137)), some (vI x0), some (vI x1), some (vI x2)]) (st' := [vI x0]) (h' := h) f137_36 rfl ?_
    exact y_ri f137_37 ⟨rfl, k⟩
  replace k := k.2
  have c0 := c
  by_cases c : x2 = 1
  · refine y_tc (pc' := 38) (v := 1) f137_1 c rfl rfl rfl ?_
    replace k := k.1 c
    refine y_s (pc' := 39) (L' := [some (vR (some 137)), some (vI x0), some (vI x1), some (vI x2)]) (st' := [vR (some 137)]) (h' := h) f137_38 rfl ?_
    refine y_gr (pc' := 42) f137_39 yf_8_9 rfl rfl (ys137 w) (yp137_1 w) rfl ?_
    refine y_s (pc' := 43) (L' := [some (vR (some 137)), some (vI x0), some (vI x1), some (vI x2)]) (st' := [vI x0, vR (some 138)]) (h' := h) f137_42 rfl ?_
    refine y_ia (pc' := 44) (x := (zV h 138 (x0).toNat)) f137_43 (ys138 w) k.1 rfl rfl ?_
    replace k := k.2
    exact y_ri f137_44 ⟨rfl, k⟩
  replace k := k.2
  have c1 := c
  by_cases c : x2 = 2
  · refine y_tc (pc' := 45) (v := 2) f137_1 c rfl rfl rfl ?_
    replace k := k.1 c
    refine y_s (pc' := 46) (L' := [some (vR (some 137)), some (vI x0), some (vI x1), some (vI x2)]) (st' := [vR (some 137)]) (h' := h) f137_45 rfl ?_
    refine y_gr (pc' := 49) f137_46 yf_8_15 rfl rfl (ys137 w) (yp137_2 w) rfl ?_
    refine y_s (pc' := 50) (L' := [some (vR (some 137)), some (vI x0), some (vI x1), some (vI x2)]) (st' := [vI x0, vR (some 139)]) (h' := h) f137_49 rfl ?_
    refine y_ia (pc' := 51) (x := (zV h 139 (x0).toNat)) f137_50 (ys139 w) k.1 rfl rfl ?_
    replace k := k.2
    exact y_ri f137_51 ⟨rfl, k⟩
  replace k := k.2
  have c2 := c
  by_cases c : x2 = 3
  · refine y_tc (pc' := 52) (v := 3) f137_1 c rfl rfl rfl ?_
    replace k := k.1 c
    refine y_s (pc' := 53) (L' := [some (vR (some 137)), some (vI x0), some (vI x1), some (vI x2)]) (st' := [vI x1]) (h' := h) f137_52 rfl ?_
    exact y_ri f137_53 ⟨rfl, k⟩
  replace k := k.2
  have c3 := c
  by_cases c : x2 = 4
  · refine y_tc (pc' := 54) (v := 4) f137_1 c rfl rfl rfl ?_
    replace k := k.1 c
    refine y_s (pc' := 55) (L' := [some (vR (some 137)), some (vI x0), some (vI x1), some (vI x2)]) (st' := [vR (some 137)]) (h' := h) f137_54 rfl ?_
    refine y_gr (pc' := 58) f137_55 yf_8_18 rfl rfl (ys137 w) (yp137_3 w) rfl ?_
    refine y_s (pc' := 60) (L' := [some (vR (some 137)), some (vI x0), some (vI x1), some (vI x2)]) (st' := [vI 6, vR (some 140)]) (h' := h) f137_58 rfl ?_
    refine y_s (pc' := 61) (L' := [some (vR (some 137)), some (vI x0), some (vI x1), some (vI x2)]) (st' := [vI x0, vI 6, vR (some 140)]) (h' := h) f137_60 rfl ?_
    refine y_s (pc' := 62) (L' := [some (vR (some 137)), some (vI x0), some (vI x1), some (vI x2)]) (st' := [vI (zw (6 * x0)), vR (some 140)]) (h' := h) f137_61 rfl ?_
    refine y_s (pc' := 63) (L' := [some (vR (some 137)), some (vI x0), some (vI x1), some (vI x2)]) (st' := [vI x1, vI (zw (6 * x0)), vR (some 140)]) (h' := h) f137_62 rfl ?_
    refine y_s (pc' := 64) (L' := [some (vR (some 137)), some (vI x0), some (vI x1), some (vI x2)]) (st' := [vI (zw ((zw (6 * x0)) + x1)), vR (some 140)]) (h' := h) f137_63 rfl ?_
    refine y_ia (pc' := 65) (x := (zV h 140 ((zw ((zw (6 * x0)) + x1))).toNat)) f137_64 (ys140 w) k.1 rfl rfl ?_
    replace k := k.2
    exact y_ri f137_65 ⟨rfl, k⟩
  replace k := k.2
  have c4 := c
  have cc : x2 < 0 ∨ 4 < x2 := by omega
  refine y_td (pc' := 66) f137_1 cc rfl ?_
  replace k := k cc
  refine y_s (pc' := 67) (L' := [some (vR (some 137)), some (vI x0), some (vI x1), some (vI x2)]) (st' := [vR (some 137)]) (h' := h) f137_66 rfl ?_
  refine y_gi (pc' := 70) f137_67 yf_8_235 rfl rfl (ys137 w) rfl ?_
  refine y_s (pc' := 72) (L' := [some (vR (some 137)), some (vI x0), some (vI x1), some (vI x2)]) (st' := [vI 10, vI (zV h 137 8)]) (h' := h) f137_70 rfl ?_
  refine y_rm (pc' := 73) f137_72 (by decide) rfl ?_
  exact y_ri f137_73 ⟨rfl, k⟩
/-- HatterTunesModel.soundOf(I)I -/
theorem E144 {d : Nat} {K : Int → Hp → Prop} (w : yWF zl nl h) {x0 : Int} (k : ZW d prog_10_method_31_code 8 4 [some (vR (some 137)), some (vI x0), some (vI 0), some (vI 0)] [] h (yq 1 (yqI K))) : yI d 144 [vR (some 137), vI x0] h K := by
  refine y_en (L := [some (vR (some 137)), some (vI x0), none, none]) rfl rfl ?_
  refine y_s (pc' := 1) (L' := [some (vR (some 137)), some (vI x0), none, none]) (st' := [vI 0]) (h' := h) f144_0 rfl ?_
  refine y_sto (pc' := 2) (k := 2) (L' := [some (vR (some 137)), some (vI x0), some (vI 0), none]) f144_1 rfl rfl rfl rfl rfl rfl ?_
  refine y_s (pc' := 3) (L' := [some (vR (some 137)), some (vI x0), some (vI 0), none]) (st' := [vI 0]) (h' := h) f144_2 rfl ?_
  refine y_sto (pc' := 4) (k := 3) (L' := [some (vR (some 137)), some (vI x0), some (vI 0), some (vI 0)]) f144_3 rfl rfl rfl rfl rfl rfl ?_
  exact k
theorem W144_4 {d : Nat} {K : Int → Hp → Prop} (w : yWF zl nl h) {l1 : Int} {l2 : Int} {l3 : Int} (hd : 1 ≤ d) (k : ((6 ≤ l3 → K l2 h) ∧ (¬ (6 ≤ l3) → yI (d - 1) 133 [vR (some 137), vI l1, vI l3] h (fun x h' => ZW d prog_10_method_31_code 8 20 [some (vR (some 137)), some (vI l1), some (vI l2), some (vI l3)] [vI x, vI (zw (10 * l2))] h' (yq 1 (yqI K)))))) : ZW d prog_10_method_31_code 8 4 [some (vR (some 137)), some (vI l1), some (vI l2), some (vI l3)] [] h (yq 1 (yqI K)) := by
  refine y_s (pc' := 5) (L' := [some (vR (some 137)), some (vI l1), some (vI l2), some (vI l3)]) (st' := [vI l3]) (h' := h) f144_4 rfl ?_
  refine y_s (pc' := 7) (L' := [some (vR (some 137)), some (vI l1), some (vI l2), some (vI l3)]) (st' := [vI 6, vI l3]) (h' := h) f144_5 rfl ?_
  refine y_ic (pcT := 28) (pc' := 10) (P := 6 ≤ l3) f144_7 rfl rfl rfl (fun c => ?_) (fun c => ?_)
  · replace k := k.1 c
    refine y_s (pc' := 29) (L' := [some (vR (some 137)), some (vI l1), some (vI l2), some (vI l3)]) (st' := [vI l2]) (h' := h) f144_28 rfl ?_
    exact y_ri f144_29 ⟨rfl, k⟩
  · replace k := k.2 c
    refine y_s (pc' := 12) (L' := [some (vR (some 137)), some (vI l1), some (vI l2), some (vI l3)]) (st' := [vI 10]) (h' := h) f144_10 rfl ?_
    refine y_s (pc' := 13) (L' := [some (vR (some 137)), some (vI l1), some (vI l2), some (vI l3)]) (st' := [vI l2, vI 10]) (h' := h) f144_12 rfl ?_
    refine y_s (pc' := 14) (L' := [some (vR (some 137)), some (vI l1), some (vI l2), some (vI l3)]) (st' := [vI (zw (10 * l2))]) (h' := h) f144_13 rfl ?_
    refine y_s (pc' := 15) (L' := [some (vR (some 137)), some (vI l1), some (vI l2), some (vI l3)]) (st' := [vR (some 137), vI (zw (10 * l2))]) (h' := h) f144_14 rfl ?_
    refine y_s (pc' := 16) (L' := [some (vR (some 137)), some (vI l1), some (vI l2), some (vI l3)]) (st' := [vI l1, vR (some 137), vI (zw (10 * l2))]) (h' := h) f144_15 rfl ?_
    refine y_s (pc' := 17) (L' := [some (vR (some 137)), some (vI l1), some (vI l2), some (vI l3)]) (st' := [vI l3, vI l1, vR (some 137), vI (zw (10 * l2))]) (h' := h) f144_16 rfl ?_
    refine y_cI (pc' := 20) (as := [vR (some 137), vI l1, vI l3]) (r := [vI (zw (10 * l2))]) f144_17 (yzv ym_8_128 rfl (ys137 w) rfl rfl) (by omega) rfl ?_
    exact k
theorem W144_20 {d : Nat} {K : Int → Hp → Prop} (w : yWF zl nl h) {l1 : Int} {l2 : Int} {l3 : Int} {s0 : Int} {s1 : Int} (k : ZW d prog_10_method_31_code 8 4 [some (vR (some 137)), some (vI l1), some (vI (zw (s0 + s1))), some (vI (zw (l3 + 1)))] [] h (yq 1 (yqI K))) : ZW d prog_10_method_31_code 8 20 [some (vR (some 137)), some (vI l1), some (vI l2), some (vI l3)] [vI s1, vI s0] h (yq 1 (yqI K)) := by
  refine y_s (pc' := 21) (L' := [some (vR (some 137)), some (vI l1), some (vI l2), some (vI l3)]) (st' := [vI (zw (s0 + s1))]) (h' := h) f144_20 rfl ?_
  refine y_sto (pc' := 22) (k := 2) (L' := [some (vR (some 137)), some (vI l1), some (vI (zw (s0 + s1))), some (vI l3)]) f144_21 rfl rfl rfl rfl rfl rfl ?_
  refine y_inc (pc' := 25) (L' := [some (vR (some 137)), some (vI l1), some (vI (zw (s0 + s1))), some (vI (zw (l3 + 1)))]) f144_22 rfl rfl rfl rfl ?_
  refine y_go (pc' := 4) f144_25 rfl ?_
  exact k
/-- HatterTunesModel.noteOf(II)I -/
theorem E133 {d : Nat} {K : Int → Hp → Prop} (w : yWF zl nl h) {x0 : Int} {x1 : Int} (hd : 1 ≤ d) (k : yI (d - 1) 134 [vR (some 137), vI x0, vI x1] h (fun x h' => ZW d prog_10_method_29_code 8 6 [some (vR (some 137)), some (vI x0), some (vI x1), none] [vI x] h' (yq 1 (yqI K)))) : yI d 133 [vR (some 137), vI x0, vI x1] h K := by
  refine y_en (L := [some (vR (some 137)), some (vI x0), some (vI x1), none]) rfl rfl ?_
  refine y_s (pc' := 1) (L' := [some (vR (some 137)), some (vI x0), some (vI x1), none]) (st' := [vR (some 137)]) (h' := h) f133_0 rfl ?_
  refine y_s (pc' := 2) (L' := [some (vR (some 137)), some (vI x0), some (vI x1), none]) (st' := [vI x0, vR (some 137)]) (h' := h) f133_1 rfl ?_
  refine y_s (pc' := 3) (L' := [some (vR (some 137)), some (vI x0), some (vI x1), none]) (st' := [vI x1, vI x0, vR (some 137)]) (h' := h) f133_2 rfl ?_
  refine y_cI (pc' := 6) (as := [vR (some 137), vI x0, vI x1]) (r := []) f133_3 (yzv ym_8_132 rfl (ys137 w) rfl rfl) (by omega) rfl ?_
  exact k
theorem W133_6 {d : Nat} {K : Int → Hp → Prop} (w : yWF zl nl h) {l1 : Int} {l2 : Int} {s0 : Int} (k : ((0 ≤ (zrem s0 10) → K (zrem s0 10) h) ∧ (¬ (0 ≤ (zrem s0 10)) → K (zw ((zrem s0 10) + 10)) h))) : ZW d prog_10_method_29_code 8 6 [some (vR (some 137)), some (vI l1), some (vI l2), none] [vI s0] h (yq 1 (yqI K)) := by
  refine y_s (pc' := 8) (L' := [some (vR (some 137)), some (vI l1), some (vI l2), none]) (st' := [vI 10, vI s0]) (h' := h) f133_6 rfl ?_
  refine y_rm (pc' := 9) f133_8 (by decide) rfl ?_
  refine y_sto (pc' := 10) (k := 3) (L' := [some (vR (some 137)), some (vI l1), some (vI l2), some (vI (zrem s0 10))]) f133_9 rfl rfl rfl rfl rfl rfl ?_
  refine y_s (pc' := 11) (L' := [some (vR (some 137)), some (vI l1), some (vI l2), some (vI (zrem s0 10))]) (st' := [vI (zrem s0 10)]) (h' := h) f133_10 rfl ?_
  refine y_if (pcT := 21) (pc' := 14) (P := 0 ≤ (zrem s0 10)) f133_11 rfl rfl rfl (fun c => ?_) (fun c => ?_)
  · replace k := k.1 c
    refine y_s (pc' := 22) (L' := [some (vR (some 137)), some (vI l1), some (vI l2), some (vI (zrem s0 10))]) (st' := [vI (zrem s0 10)]) (h' := h) f133_21 rfl ?_
    exact y_ri f133_22 ⟨rfl, k⟩
  · replace k := k.2 c
    refine y_s (pc' := 15) (L' := [some (vR (some 137)), some (vI l1), some (vI l2), some (vI (zrem s0 10))]) (st' := [vI (zrem s0 10)]) (h' := h) f133_14 rfl ?_
    refine y_s (pc' := 17) (L' := [some (vR (some 137)), some (vI l1), some (vI l2), some (vI (zrem s0 10))]) (st' := [vI 10, vI (zrem s0 10)]) (h' := h) f133_15 rfl ?_
    refine y_s (pc' := 18) (L' := [some (vR (some 137)), some (vI l1), some (vI l2), some (vI (zrem s0 10))]) (st' := [vI (zw ((zrem s0 10) + 10))]) (h' := h) f133_17 rfl ?_
    refine y_go (pc' := 22) f133_18 rfl ?_
    exact y_ri f133_22 ⟨rfl, k⟩
/-- HatterTunes$House.soundOf(I)I -/
theorem E16 {d : Nat} {K : Int → Hp → Prop} (w : yWF zl nl h) {a : Nat} (ha : yHs a) {x0 : Int} (k : ZW d prog_4_method_14_code 2 4 [some (vR (some a)), some (vI x0), some (vI 0), some (vI 0)] [] h (yq 1 (yqI K))) : yI d 16 [vR (some a), vI x0] h K := by
  refine y_en (L := [some (vR (some a)), some (vI x0), none, none]) rfl rfl ?_
  refine y_s (pc' := 1) (L' := [some (vR (some a)), some (vI x0), none, none]) (st' := [vI 0]) (h' := h) f16_0 rfl ?_
  refine y_sto (pc' := 2) (k := 2) (L' := [some (vR (some a)), some (vI x0), some (vI 0), none]) f16_1 rfl rfl rfl rfl rfl rfl ?_
  refine y_s (pc' := 3) (L' := [some (vR (some a)), some (vI x0), some (vI 0), none]) (st' := [vI 0]) (h' := h) f16_2 rfl ?_
  refine y_sto (pc' := 4) (k := 3) (L' := [some (vR (some a)), some (vI x0), some (vI 0), some (vI 0)]) f16_3 rfl rfl rfl rfl rfl rfl ?_
  exact k
theorem W16_4 {d : Nat} {K : Int → Hp → Prop} (w : yWF zl nl h) {a : Nat} (ha : yHs a) {l1 : Int} {l2 : Int} {l3 : Int} (hd : 5 ≤ d) (k : ((6 ≤ l3 → K l2 h) ∧ (¬ (6 ≤ l3) → yI (d - 1) 17 [vR (some a), vI l1, vI l3] h (fun x h' => ZW d prog_4_method_14_code 2 20 [some (vR (some a)), some (vI l1), some (vI l2), some (vI l3)] [vI x, vI (zw (l2 * 10))] h' (yq 1 (yqI K)))))) : ZW d prog_4_method_14_code 2 4 [some (vR (some a)), some (vI l1), some (vI l2), some (vI l3)] [] h (yq 1 (yqI K)) := by
  refine y_s (pc' := 5) (L' := [some (vR (some a)), some (vI l1), some (vI l2), some (vI l3)]) (st' := [vI l3]) (h' := h) f16_4 rfl ?_
  refine y_s (pc' := 7) (L' := [some (vR (some a)), some (vI l1), some (vI l2), some (vI l3)]) (st' := [vI 6, vI l3]) (h' := h) f16_5 rfl ?_
  refine y_ic (pcT := 28) (pc' := 10) (P := 6 ≤ l3) f16_7 rfl rfl rfl (fun c => ?_) (fun c => ?_)
  · replace k := k.1 c
    refine y_s (pc' := 29) (L' := [some (vR (some a)), some (vI l1), some (vI l2), some (vI l3)]) (st' := [vI l2]) (h' := h) f16_28 rfl ?_
    exact y_ri f16_29 ⟨rfl, k⟩
  · replace k := k.2 c
    refine y_s (pc' := 11) (L' := [some (vR (some a)), some (vI l1), some (vI l2), some (vI l3)]) (st' := [vI l2]) (h' := h) f16_10 rfl ?_
    refine y_s (pc' := 13) (L' := [some (vR (some a)), some (vI l1), some (vI l2), some (vI l3)]) (st' := [vI 10, vI l2]) (h' := h) f16_11 rfl ?_
    refine y_s (pc' := 14) (L' := [some (vR (some a)), some (vI l1), some (vI l2), some (vI l3)]) (st' := [vI (zw (l2 * 10))]) (h' := h) f16_13 rfl ?_
    refine y_s (pc' := 15) (L' := [some (vR (some a)), some (vI l1), some (vI l2), some (vI l3)]) (st' := [vR (some a), vI (zw (l2 * 10))]) (h' := h) f16_14 rfl ?_
    refine y_s (pc' := 16) (L' := [some (vR (some a)), some (vI l1), some (vI l2), some (vI l3)]) (st' := [vI l1, vR (some a), vI (zw (l2 * 10))]) (h' := h) f16_15 rfl ?_
    refine y_s (pc' := 17) (L' := [some (vR (some a)), some (vI l1), some (vI l2), some (vI l3)]) (st' := [vI l3, vI l1, vR (some a), vI (zw (l2 * 10))]) (h' := h) f16_16 rfl ?_
    refine y_cI (pc' := 20) (as := [vR (some a), vI l1, vI l3]) (r := [vI (zw (l2 * 10))]) f16_17 (yzv ym_2_111 rfl (ysH0 w ha) rfl rfl) (by omega) rfl ?_
    exact k
theorem W16_20 {d : Nat} {K : Int → Hp → Prop} (w : yWF zl nl h) {a : Nat} (ha : yHs a) {l1 : Int} {l2 : Int} {l3 : Int} {s0 : Int} {s1 : Int} (k : ZW d prog_4_method_14_code 2 4 [some (vR (some a)), some (vI l1), some (vI (zw (s0 + s1))), some (vI (zw (l3 + 1)))] [] h (yq 1 (yqI K))) : ZW d prog_4_method_14_code 2 20 [some (vR (some a)), some (vI l1), some (vI l2), some (vI l3)] [vI s1, vI s0] h (yq 1 (yqI K)) := by
  refine y_s (pc' := 21) (L' := [some (vR (some a)), some (vI l1), some (vI l2), some (vI l3)]) (st' := [vI (zw (s0 + s1))]) (h' := h) f16_20 rfl ?_
  refine y_sto (pc' := 22) (k := 2) (L' := [some (vR (some a)), some (vI l1), some (vI (zw (s0 + s1))), some (vI l3)]) f16_21 rfl rfl rfl rfl rfl rfl ?_
  refine y_inc (pc' := 25) (L' := [some (vR (some a)), some (vI l1), some (vI (zw (s0 + s1))), some (vI (zw (l3 + 1)))]) f16_22 rfl rfl rfl rfl ?_
  refine y_go (pc' := 4) f16_25 rfl ?_
  exact k
/-- HatterTunes$House.noteOf(II)I -/
theorem E17 {d : Nat} {K : Int → Hp → Prop} (w : yWF zl nl h) {a : Nat} (ha : yHs a) {x0 : Int} {x1 : Int} (hd : 4 ≤ d) (k : yI (d - 1) 18 [vR (some a), vI x0, vI x1] h (fun x h' => ZW d prog_4_method_13_code 2 6 [some (vR (some a)), some (vI x0), some (vI x1)] [vI x] h' (yq 1 (yqI K)))) : yI d 17 [vR (some a), vI x0, vI x1] h K := by
  refine y_en (L := [some (vR (some a)), some (vI x0), some (vI x1)]) rfl rfl ?_
  refine y_s (pc' := 1) (L' := [some (vR (some a)), some (vI x0), some (vI x1)]) (st' := [vR (some a)]) (h' := h) f17_0 rfl ?_
  refine y_s (pc' := 2) (L' := [some (vR (some a)), some (vI x0), some (vI x1)]) (st' := [vI x0, vR (some a)]) (h' := h) f17_1 rfl ?_
  refine y_s (pc' := 3) (L' := [some (vR (some a)), some (vI x0), some (vI x1)]) (st' := [vI x1, vI x0, vR (some a)]) (h' := h) f17_2 rfl ?_
  refine y_cI (pc' := 6) (as := [vR (some a), vI x0, vI x1]) (r := []) f17_3 (yzv ym_2_105 rfl (ysH0 w ha) rfl rfl) (by omega) rfl ?_
  exact k
theorem W17_6 {d : Nat} {K : Int → Hp → Prop} (w : yWF zl nl h) {a : Nat} (ha : yHs a) {l1 : Int} {l2 : Int} {s0 : Int} (hd : 1 ≤ d) (k : K (yfm s0 10) h) : ZW d prog_4_method_13_code 2 6 [some (vR (some a)), some (vI l1), some (vI l2)] [vI s0] h (yq 1 (yqI K)) := by
  refine y_s (pc' := 8) (L' := [some (vR (some a)), some (vI l1), some (vI l2)]) (st' := [vI 10, vI s0]) (h' := h) f17_6 rfl ?_
  refine y_fm (pc' := 11) f17_8 ym_2_108 (by omega) (by decide) rfl rfl ?_
  exact y_ri f17_11 ⟨rfl, k⟩
/-- HatterTunes$House.tellFacts(II)V -/
theorem E19 {d : Nat} {K : Hp → Prop} (w : yWF zl nl h) {a : Nat} (ha : yHs a) {x0 : Int} {x1 : Int} (k : ((0 ≤ x0 ∧ x0 < 6) ∧ (∀ h_19, (zsetV (zsetV h (a + 6) 0 x0) (a + 6) 1 (zV (zsetV h (a + 6) 0 x0) (a + 1) (x0).toNat)) = h_19 → ((0 ≤ x0 ∧ x0 < 6) ∧ (∀ h_38, (zsetV (zsetV h_19 (a + 6) 2 (zV h_19 (a + 2) (x0).toNat)) (a + 6) 3 x1) = h_38 → ((0 ≤ (zw ((zw (x0 * 6)) + x1)) ∧ (zw ((zw (x0 * 6)) + x1)) < 36) ∧ (∀ h_68, (zsetV (zsetV h_38 (a + 6) 4 (zV h_38 (a + 4) ((zw ((zw (x0 * 6)) + x1))).toNat)) (a + 6) 5 (zrem (zV (zsetV h_38 (a + 6) 4 (zV h_38 (a + 4) ((zw ((zw (x0 * 6)) + x1))).toNat)) a 11) 10)) = h_68 → K h_68))))))) : yU d 19 [vR (some a), vI x0, vI x1] h K := by
  refine y_en (L := [some (vR (some a)), some (vI x0), some (vI x1)]) rfl rfl ?_
  refine y_s (pc' := 1) (L' := [some (vR (some a)), some (vI x0), some (vI x1)]) (st' := [vR (some a)]) (h' := h) f19_0 rfl ?_
  refine y_gr (pc' := 4) f19_1 yf_2_27 rfl rfl (ysH0 w ha) (ypH5 w ha) rfl ?_
  refine y_s (pc' := 5) (L' := [some (vR (some a)), some (vI x0), some (vI x1)]) (st' := [vI 0, vR (some (a + 6))]) (h' := h) f19_4 rfl ?_
  refine y_s (pc' := 6) (L' := [some (vR (some a)), some (vI x0), some (vI x1)]) (st' := [vI x0, vI 0, vR (some (a + 6))]) (h' := h) f19_5 rfl ?_
  refine y_is (pc' := 7) (h' := (zsetV h (a + 6) 0 x0)) f19_6 (ysH6 w ha) (Nat.le_add_right_of_le (yH_32 ha)) (by decide) rfl rfl ?_
  refine y_s (pc' := 8) (L' := [some (vR (some a)), some (vI x0), some (vI x1)]) (st' := [vR (some a)]) (h' := (zsetV h (a + 6) 0 x0)) f19_7 rfl ?_
  refine y_gr (pc' := 11) f19_8 yf_2_27 rfl rfl (ysH0 w ha) (ypH5 w ha) rfl ?_
  refine y_s (pc' := 12) (L' := [some (vR (some a)), some (vI x0), some (vI x1)]) (st' := [vI 1, vR (some (a + 6))]) (h' := (zsetV h (a + 6) 0 x0)) f19_11 rfl ?_
  refine y_s (pc' := 13) (L' := [some (vR (some a)), some (vI x0), some (vI x1)]) (st' := [vR (some a), vI 1, vR (some (a + 6))]) (h' := (zsetV h (a + 6) 0 x0)) f19_12 rfl ?_
  refine y_gr (pc' := 16) f19_13 yf_2_9 rfl rfl (ysH0 w ha) (ypH0 w ha) rfl ?_
  refine y_s (pc' := 17) (L' := [some (vR (some a)), some (vI x0), some (vI x1)]) (st' := [vI x0, vR (some (a + 1)), vI 1, vR (some (a + 6))]) (h' := (zsetV h (a + 6) 0 x0)) f19_16 rfl ?_
  refine y_ia (pc' := 18) (x := (zV (zsetV h (a + 6) 0 x0) (a + 1) (x0).toNat)) f19_17 (ysH1 w ha) k.1 rfl rfl ?_
  replace k := k.2
  refine y_is (pc' := 19) (h' := (zsetV (zsetV h (a + 6) 0 x0) (a + 6) 1 (zV (zsetV h (a + 6) 0 x0) (a + 1) (x0).toNat))) f19_18 (ysH6 w ha) (Nat.le_add_right_of_le (yH_32 ha)) (by decide) rfl rfl ?_
  generalize e_19 : (zsetV (zsetV h (a + 6) 0 x0) (a + 6) 1 (zV (zsetV h (a + 6) 0 x0) (a + 1) (x0).toNat)) = h_19
  replace k := k _ e_19
  have w : yWF zl nl h_19 := by rw [← e_19]; exact w
  refine y_s (pc' := 20) (L' := [some (vR (some a)), some (vI x0), some (vI x1)]) (st' := [vR (some a)]) (h' := h_19) f19_19 rfl ?_
  refine y_gr (pc' := 23) f19_20 yf_2_27 rfl rfl (ysH0 w ha) (ypH5 w ha) rfl ?_
  refine y_s (pc' := 24) (L' := [some (vR (some a)), some (vI x0), some (vI x1)]) (st' := [vI 2, vR (some (a + 6))]) (h' := h_19) f19_23 rfl ?_
  refine y_s (pc' := 25) (L' := [some (vR (some a)), some (vI x0), some (vI x1)]) (st' := [vR (some a), vI 2, vR (some (a + 6))]) (h' := h_19) f19_24 rfl ?_
  refine y_gr (pc' := 28) f19_25 yf_2_15 rfl rfl (ysH0 w ha) (ypH1 w ha) rfl ?_
  refine y_s (pc' := 29) (L' := [some (vR (some a)), some (vI x0), some (vI x1)]) (st' := [vI x0, vR (some (a + 2)), vI 2, vR (some (a + 6))]) (h' := h_19) f19_28 rfl ?_
  refine y_ia (pc' := 30) (x := (zV h_19 (a + 2) (x0).toNat)) f19_29 (ysH2 w ha) k.1 rfl rfl ?_
  replace k := k.2
  refine y_is (pc' := 31) (h' := (zsetV h_19 (a + 6) 2 (zV h_19 (a + 2) (x0).toNat))) f19_30 (ysH6 w ha) (Nat.le_add_right_of_le (yH_32 ha)) (by decide) rfl rfl ?_
  refine y_s (pc' := 32) (L' := [some (vR (some a)), some (vI x0), some (vI x1)]) (st' := [vR (some a)]) (h' := (zsetV h_19 (a + 6) 2 (zV h_19 (a + 2) (x0).toNat))) f19_31 rfl ?_
  refine y_gr (pc' := 35) f19_32 yf_2_27 rfl rfl (ysH0 w ha) (ypH5 w ha) rfl ?_
  refine y_s (pc' := 36) (L' := [some (vR (some a)), some (vI x0), some (vI x1)]) (st' := [vI 3, vR (some (a + 6))]) (h' := (zsetV h_19 (a + 6) 2 (zV h_19 (a + 2) (x0).toNat))) f19_35 rfl ?_
  refine y_s (pc' := 37) (L' := [some (vR (some a)), some (vI x0), some (vI x1)]) (st' := [vI x1, vI 3, vR (some (a + 6))]) (h' := (zsetV h_19 (a + 6) 2 (zV h_19 (a + 2) (x0).toNat))) f19_36 rfl ?_
  refine y_is (pc' := 38) (h' := (zsetV (zsetV h_19 (a + 6) 2 (zV h_19 (a + 2) (x0).toNat)) (a + 6) 3 x1)) f19_37 (ysH6 w ha) (Nat.le_add_right_of_le (yH_32 ha)) (by decide) rfl rfl ?_
  generalize e_38 : (zsetV (zsetV h_19 (a + 6) 2 (zV h_19 (a + 2) (x0).toNat)) (a + 6) 3 x1) = h_38
  replace k := k _ e_38
  have w : yWF zl nl h_38 := by rw [← e_38]; exact w
  refine y_s (pc' := 39) (L' := [some (vR (some a)), some (vI x0), some (vI x1)]) (st' := [vR (some a)]) (h' := h_38) f19_38 rfl ?_
  refine y_gr (pc' := 42) f19_39 yf_2_27 rfl rfl (ysH0 w ha) (ypH5 w ha) rfl ?_
  refine y_s (pc' := 43) (L' := [some (vR (some a)), some (vI x0), some (vI x1)]) (st' := [vI 4, vR (some (a + 6))]) (h' := h_38) f19_42 rfl ?_
  refine y_s (pc' := 44) (L' := [some (vR (some a)), some (vI x0), some (vI x1)]) (st' := [vR (some a), vI 4, vR (some (a + 6))]) (h' := h_38) f19_43 rfl ?_
  refine y_gr (pc' := 47) f19_44 yf_2_21 rfl rfl (ysH0 w ha) (ypH3 w ha) rfl ?_
  refine y_s (pc' := 48) (L' := [some (vR (some a)), some (vI x0), some (vI x1)]) (st' := [vI x0, vR (some (a + 4)), vI 4, vR (some (a + 6))]) (h' := h_38) f19_47 rfl ?_
  refine y_s (pc' := 50) (L' := [some (vR (some a)), some (vI x0), some (vI x1)]) (st' := [vI 6, vI x0, vR (some (a + 4)), vI 4, vR (some (a + 6))]) (h' := h_38) f19_48 rfl ?_
  refine y_s (pc' := 51) (L' := [some (vR (some a)), some (vI x0), some (vI x1)]) (st' := [vI (zw (x0 * 6)), vR (some (a + 4)), vI 4, vR (some (a + 6))]) (h' := h_38) f19_50 rfl ?_
  refine y_s (pc' := 52) (L' := [some (vR (some a)), some (vI x0), some (vI x1)]) (st' := [vI x1, vI (zw (x0 * 6)), vR (some (a + 4)), vI 4, vR (some (a + 6))]) (h' := h_38) f19_51 rfl ?_
  refine y_s (pc' := 53) (L' := [some (vR (some a)), some (vI x0), some (vI x1)]) (st' := [vI (zw ((zw (x0 * 6)) + x1)), vR (some (a + 4)), vI 4, vR (some (a + 6))]) (h' := h_38) f19_52 rfl ?_
  refine y_ia (pc' := 54) (x := (zV h_38 (a + 4) ((zw ((zw (x0 * 6)) + x1))).toNat)) f19_53 (ysH4 w ha) k.1 rfl rfl ?_
  replace k := k.2
  refine y_is (pc' := 55) (h' := (zsetV h_38 (a + 6) 4 (zV h_38 (a + 4) ((zw ((zw (x0 * 6)) + x1))).toNat))) f19_54 (ysH6 w ha) (Nat.le_add_right_of_le (yH_32 ha)) (by decide) rfl rfl ?_
  refine y_s (pc' := 56) (L' := [some (vR (some a)), some (vI x0), some (vI x1)]) (st' := [vR (some a)]) (h' := (zsetV h_38 (a + 6) 4 (zV h_38 (a + 4) ((zw ((zw (x0 * 6)) + x1))).toNat))) f19_55 rfl ?_
  refine y_gr (pc' := 59) f19_56 yf_2_27 rfl rfl (ysH0 w ha) (ypH5 w ha) rfl ?_
  refine y_s (pc' := 60) (L' := [some (vR (some a)), some (vI x0), some (vI x1)]) (st' := [vI 5, vR (some (a + 6))]) (h' := (zsetV h_38 (a + 6) 4 (zV h_38 (a + 4) ((zw ((zw (x0 * 6)) + x1))).toNat))) f19_59 rfl ?_
  refine y_s (pc' := 61) (L' := [some (vR (some a)), some (vI x0), some (vI x1)]) (st' := [vR (some a), vI 5, vR (some (a + 6))]) (h' := (zsetV h_38 (a + 6) 4 (zV h_38 (a + 4) ((zw ((zw (x0 * 6)) + x1))).toNat))) f19_60 rfl ?_
  refine y_gi (pc' := 64) f19_61 yf_2_69 rfl rfl (ysH0 w ha) rfl ?_
  refine y_s (pc' := 66) (L' := [some (vR (some a)), some (vI x0), some (vI x1)]) (st' := [vI 10, vI (zV (zsetV h_38 (a + 6) 4 (zV h_38 (a + 4) ((zw ((zw (x0 * 6)) + x1))).toNat)) a 11), vI 5, vR (some (a + 6))]) (h' := (zsetV h_38 (a + 6) 4 (zV h_38 (a + 4) ((zw ((zw (x0 * 6)) + x1))).toNat))) f19_64 rfl ?_
  refine y_rm (pc' := 67) f19_66 (by decide) rfl ?_
  refine y_is (pc' := 68) (h' := (zsetV (zsetV h_38 (a + 6) 4 (zV h_38 (a + 4) ((zw ((zw (x0 * 6)) + x1))).toNat)) (a + 6) 5 (zrem (zV (zsetV h_38 (a + 6) 4 (zV h_38 (a + 4) ((zw ((zw (x0 * 6)) + x1))).toNat)) a 11) 10))) f19_67 (ysH6 w ha) (Nat.le_add_right_of_le (yH_32 ha)) (by decide) rfl rfl ?_
  generalize e_68 : (zsetV (zsetV h_38 (a + 6) 4 (zV h_38 (a + 4) ((zw ((zw (x0 * 6)) + x1))).toNat)) (a + 6) 5 (zrem (zV (zsetV h_38 (a + 6) 4 (zV h_38 (a + 4) ((zw ((zw (x0 * 6)) + x1))).toNat)) a 11) 10)) = h_68
  replace k := k _ e_68
  have w : yWF zl nl h_68 := by rw [← e_68]; exact w
  exact y_ru f19_68 ⟨rfl, k⟩
/-- HatterTunes$Shop.sharpness([I)I -/
theorem E21 {d : Nat} {K : Int → Hp → Prop} (w : yWF zl nl h) {a : Nat} (ha : ySh a) {b : Nat} (hb : zS h b = (1, 6)) (hb2 : 32 ≤ b) (k : ZW d prog_6_method_4_code 4 7 [some (vR (some a)), some (vR (some b)), some (vI 0), some (vI 0), some (vI 0), none, none] [] h (yq 1 (yqI K))) : yI d 21 [vR (some a), vR (some b)] h K := by
  refine y_en (L := [some (vR (some a)), some (vR (some b)), none, none, none, none, none]) rfl rfl ?_
  refine y_s (pc' := 1) (L' := [some (vR (some a)), some (vR (some b)), none, none, none, none, none]) (st' := [vI 0]) (h' := h) f21_0 rfl ?_
  refine y_sto (pc' := 2) (k := 2) (L' := [some (vR (some a)), some (vR (some b)), some (vI 0), none, none, none, none]) f21_1 rfl rfl rfl rfl rfl rfl ?_
  refine y_s (pc' := 3) (L' := [some (vR (some a)), some (vR (some b)), some (vI 0), none, none, none, none]) (st' := [vI 0]) (h' := h) f21_2 rfl ?_
  refine y_sto (pc' := 4) (k := 3) (L' := [some (vR (some a)), some (vR (some b)), some (vI 0), some (vI 0), none, none, none]) f21_3 rfl rfl rfl rfl rfl rfl ?_
  refine y_s (pc' := 5) (L' := [some (vR (some a)), some (vR (some b)), some (vI 0), some (vI 0), none, none, none]) (st' := [vI 0]) (h' := h) f21_4 rfl ?_
  refine y_sto (pc' := 7) (k := 4) (L' := [some (vR (some a)), some (vR (some b)), some (vI 0), some (vI 0), some (vI 0), none, none]) f21_5 rfl rfl rfl rfl rfl rfl ?_
  exact k
theorem W21_7 {d : Nat} {K : Int → Hp → Prop} (w : yWF zl nl h) {a : Nat} (ha : ySh a) {b : Nat} (hb : zS h b = (1, 6)) (hb2 : 32 ≤ b) {l2 : Int} {l3 : Int} {l4 : Int} {l5 : Option Int} {l6 : Option Int} (k : (((zV h a 3) ≤ l4 → K l2 h) ∧ (¬ ((zV h a 3) ≤ l4) → ((0 ≤ l4 ∧ l4 < 100) ∧ ((0 ≤ l4 ∧ l4 < 100) ∧ ((0 ≤ (zV h (a + 2) (l4).toNat) ∧ (zV h (a + 2) (l4).toNat) < 6) ∧ ((0 ≤ l4 ∧ l4 < 100) ∧ (((zV h (a + 1) (l4).toNat) = 1 → (((zV h (a + 3) (l4).toNat) ≤ (zV h b ((zV h (a + 2) (l4).toNat)).toNat) → ZW d prog_6_method_4_code 4 7 [some (vR (some a)), some (vR (some b)), some (vI l2), some (vI (zor (zshl l3 1) 0)), some (vI (zw (l4 + 1))), some (vI (zV h (a + 3) (l4).toNat)), some (vI (zV h b ((zV h (a + 2) (l4).toNat)).toNat))] [] h (yq 1 (yqI K))) ∧ (¬ ((zV h (a + 3) (l4).toNat) ≤ (zV h b ((zV h (a + 2) (l4).toNat)).toNat)) → ZW d prog_6_method_4_code 4 7 [some (vR (some a)), some (vR (some b)), some (vI l2), some (vI (zor (zshl l3 1) 1)), some (vI (zw (l4 + 1))), some (vI (zV h (a + 3) (l4).toNat)), some (vI (zV h b ((zV h (a + 2) (l4).toNat)).toNat))] [] h (yq 1 (yqI K))))) ∧ ((zV h (a + 1) (l4).toNat) = 2 → (((zV h b ((zV h (a + 2) (l4).toNat)).toNat) ≠ (zV h (a + 3) (l4).toNat) → ZW d prog_6_method_4_code 4 7 [some (vR (some a)), some (vR (some b)), some (vI l2), some (vI (zor (zshl l3 1) 0)), some (vI (zw (l4 + 1))), some (vI (zV h (a + 3) (l4).toNat)), some (vI (zV h b ((zV h (a + 2) (l4).toNat)).toNat))] [] h (yq 1 (yqI K))) ∧ (¬ ((zV h b ((zV h (a + 2) (l4).toNat)).toNat) ≠ (zV h (a + 3) (l4).toNat)) → ZW d prog_6_method_4_code 4 7 [some (vR (some a)), some (vR (some b)), some (vI l2), some (vI (zor (zshl l3 1) 1)), some (vI (zw (l4 + 1))), some (vI (zV h (a + 3) (l4).toNat)), some (vI (zV h b ((zV h (a + 2) (l4).toNat)).toNat))] [] h (yq 1 (yqI K))))) ∧ ((zV h (a + 1) (l4).toNat) = 3 → (((zV h b ((zV h (a + 2) (l4).toNat)).toNat) ≤ (zV h (a + 3) (l4).toNat) → ZW d prog_6_method_4_code 4 7 [some (vR (some a)), some (vR (some b)), some (vI l2), some (vI (zor (zshl l3 1) 0)), some (vI (zw (l4 + 1))), some (vI (zV h (a + 3) (l4).toNat)), some (vI (zV h b ((zV h (a + 2) (l4).toNat)).toNat))] [] h (yq 1 (yqI K))) ∧ (¬ ((zV h b ((zV h (a + 2) (l4).toNat)).toNat) ≤ (zV h (a + 3) (l4).toNat)) → ZW d prog_6_method_4_code 4 7 [some (vR (some a)), some (vR (some b)), some (vI l2), some (vI (zor (zshl l3 1) 1)), some (vI (zw (l4 + 1))), some (vI (zV h (a + 3) (l4).toNat)), some (vI (zV h b ((zV h (a + 2) (l4).toNat)).toNat))] [] h (yq 1 (yqI K))))) ∧ ((zV h (a + 1) (l4).toNat) = 4 → ZW d prog_6_method_4_code 4 7 [some (vR (some a)), some (vR (some b)), some (vI l2), some (vI (zxor l3 1)), some (vI (zw (l4 + 1))), some (vI (zV h (a + 3) (l4).toNat)), some (vI (zV h b ((zV h (a + 2) (l4).toNat)).toNat))] [] h (yq 1 (yqI K))) ∧ ((zV h (a + 1) (l4).toNat) = 5 → (((zand l3 1) ≠ 1 → ZW d prog_6_method_4_code 4 7 [some (vR (some a)), some (vR (some b)), some (vI l2), some (vI (zand (zshr l3 1) (-2))), some (vI (zw (l4 + 1))), some (vI (zV h (a + 3) (l4).toNat)), some (vI (zV h b ((zV h (a + 2) (l4).toNat)).toNat))] [] h (yq 1 (yqI K))) ∧ (¬ ((zand l3 1) ≠ 1) → ZW d prog_6_method_4_code 4 7 [some (vR (some a)), some (vR (some b)), some (vI l2), some (vI (zshr l3 1)), some (vI (zw (l4 + 1))), some (vI (zV h (a + 3) (l4).toNat)), some (vI (zV h b ((zV h (a + 2) (l4).toNat)).toNat))] [] h (yq 1 (yqI K))))) ∧ ((zV h (a + 1) (l4).toNat) = 6 → ZW d prog_6_method_4_code 4 7 [some (vR (some a)), some (vR (some b)), some (vI l2), some (vI (zor (zshr l3 1) (zand l3 1))), some (vI (zw (l4 + 1))), some (vI (zV h (a + 3) (l4).toNat)), some (vI (zV h b ((zV h (a + 2) (l4).toNat)).toNat))] [] h (yq 1 (yqI K))) ∧ ((zV h (a + 1) (l4).toNat) < 1 ∨ 6 < (zV h (a + 1) (l4).toNat) → (((zand l3 1) ≠ 1 → ZW d prog_6_method_4_code 4 7 [some (vR (some a)), some (vR (some b)), some (vI (zw (l2 + 0))), some (vI 0), some (vI (zw (l4 + 1))), some (vI (zV h (a + 3) (l4).toNat)), some (vI (zV h b ((zV h (a + 2) (l4).toNat)).toNat))] [] h (yq 1 (yqI K))) ∧ (¬ ((zand l3 1) ≠ 1) → ZW d prog_6_method_4_code 4 7 [some (vR (some a)), some (vR (some b)), some (vI (zw (l2 + (zV h (a + 3) (l4).toNat)))), some (vI 0), some (vI (zw (l4 + 1))), some (vI (zV h (a + 3) (l4).toNat)), some (vI (zV h b ((zV h (a + 2) (l4).toNat)).toNat))] [] h (yq 1 (yqI K))))))))))))) : ZW d prog_6_method_4_code 4 7 [some (vR (some a)), some (vR (some b)), some (vI l2), some (vI l3), some (vI l4), yo l5, yo l6] [] h (yq 1 (yqI K)) := by
  refine y_s (pc' := 9) (L' := [some (vR (some a)), some (vR (some b)), some (vI l2), some (vI l3), some (vI l4), yo l5, yo l6]) (st' := [vI l4]) (h' := h) f21_7 rfl ?_
  refine y_s (pc' := 10) (L' := [some (vR (some a)), some (vR (some b)), some (vI l2), some (vI l3), some (vI l4), yo l5, yo l6]) (st' := [vR (some a), vI l4]) (h' := h) f21_9 rfl ?_
  refine y_gi (pc' := 13) f21_10 yf_4_21 rfl rfl (ysS0 w ha) rfl ?_
  refine y_ic (pcT := 205) (pc' := 16) (P := (zV h a 3) ≤ l4) f21_13 rfl rfl rfl (fun c => ?_) (fun c => ?_)
  · replace k := k.1 c
    refine y_s (pc' := 206) (L' := [some (vR (some a)), some (vR (some b)), some (vI l2), some (vI l3), some (vI l4), yo l5, yo l6]) (st' := [vI l2]) (h' := h) f21_205 rfl ?_
    exact y_ri f21_206 ⟨rfl, k⟩
  · replace k := k.2 c
    refine y_s (pc' := 17) (L' := [some (vR (some a)), some (vR (some b)), some (vI l2), some (vI l3), some (vI l4), yo l5, yo l6]) (st' := [vR (some a)]) (h' := h) f21_16 rfl ?_
    refine y_gr (pc' := 20) f21_17 yf_4_18 rfl rfl (ysS0 w ha) (ypS2 w ha) rfl ?_
    refine y_s (pc' := 22) (L' := [some (vR (some a)), some (vR (some b)), some (vI l2), some (vI l3), some (vI l4), yo l5, yo l6]) (st' := [vI l4, vR (some (a + 3))]) (h' := h) f21_20 rfl ?_
    refine y_ia (pc' := 23) (x := (zV h (a + 3) (l4).toNat)) f21_22 (ysS3 w ha) k.1 rfl rfl ?_
    replace k := k.2
    refine y_sto (pc' := 25) (k := 5) (L' := [some (vR (some a)), some (vR (some b)), some (vI l2), some (vI l3), some (vI l4), some (vI (zV h (a + 3) (l4).toNat)), yo l6]) f21_23 rfl rfl rfl rfl rfl rfl ?_
    refine y_s (pc' := 26) (L' := [some (vR (some a)), some (vR (some b)), some (vI l2), some (vI l3), some (vI l4), some (vI (zV h (a + 3) (l4).toNat)), yo l6]) (st' := [vR (some b)]) (h' := h) f21_25 rfl ?_
    refine y_s (pc' := 27) (L' := [some (vR (some a)), some (vR (some b)), some (vI l2), some (vI l3), some (vI l4), some (vI (zV h (a + 3) (l4).toNat)), yo l6]) (st' := [vR (some a), vR (some b)]) (h' := h) f21_26 rfl ?_
    refine y_gr (pc' := 30) f21_27 yf_4_15 rfl rfl (ysS0 w ha) (ypS1 w ha) rfl ?_
    refine y_s (pc' := 32) (L' := [some (vR (some a)), some (vR (some b)), some (vI l2), some (vI l3), some (vI l4), some (vI (zV h (a + 3) (l4).toNat)), yo l6]) (st' := [vI l4, vR (some (a + 2)), vR (some b)]) (h' := h) f21_30 rfl ?_
    refine y_ia (pc' := 33) (x := (zV h (a + 2) (l4).toNat)) f21_32 (ysS2 w ha) k.1 rfl rfl ?_
    replace k := k.2
    refine y_ia (pc' := 34) (x := (zV h b ((zV h (a + 2) (l4).toNat)).toNat)) f21_33 hb k.1 rfl rfl ?_
    replace k := k.2
    refine y_sto (pc' := 36) (k := 6) (L' := [some (vR (some a)), some (vR (some b)), some (vI l2), some (vI l3), some (vI l4), some (vI (zV h (a + 3) (l4).toNat)), some (vI (zV h b ((zV h (a + 2) (l4).toNat)).toNat))]) f21_34 rfl rfl rfl rfl rfl rfl ?_
    refine y_s (pc' := 37) (L' := [some (vR (some a)), some (vR (some b)), some (vI l2), some (vI l3), some (vI l4), some (vI (zV h (a + 3) (l4).toNat)), some (vI (zV h b ((zV h (a + 2) (l4).toNat)).toNat))]) (st' := [vR (some a)]) (h' := h) f21_36 rfl ?_
    refine y_gr (pc' := 40) f21_37 yf_4_9 rfl rfl (ysS0 w ha) (ypS0 w ha) rfl ?_
    refine y_s (pc' := 42) (L' := [some (vR (some a)), some (vR (some b)), some (vI l2), some (vI l3), some (vI l4), some (vI (zV h (a + 3) (l4).toNat)), some (vI (zV h b ((zV h (a + 2) (l4).toNat)).toNat))]) (st' := [vI l4, vR (some (a + 1))]) (h' := h) f21_40 rfl ?_
    refine y_ia (pc' := 43) (x := (zV h (a + 1) (l4).toNat)) f21_42 (ysS1 w ha) k.1 rfl rfl ?_
    replace k := k.2
    by_cases c : (zV h (a + 1) (l4).toNat) = 1
    · refine y_tc (pc' := 80) (v := 1) f21_43 c rfl rfl rfl ?_
      replace k := k.1 c
      refine y_s (pc' := 81) (L' := [some (vR (some a)), some (vR (some b)), some (vI l2), some (vI l3), some (vI l4), some (vI (zV h (a + 3) (l4).toNat)), some (vI (zV h b ((zV h (a + 2) (l4).toNat)).toNat))]) (st' := [vI l3]) (h' := h) f21_80 rfl ?_
      refine y_s (pc' := 82) (L' := [some (vR (some a)), some (vR (some b)), some (vI l2), some (vI l3), some (vI l4), some (vI (zV h (a + 3) (l4).toNat)), some (vI (zV h b ((zV h (a + 2) (l4).toNat)).toNat))]) (st' := [vI 1, vI l3]) (h' := h) f21_81 rfl ?_
      refine y_s (pc' := 83) (L' := [some (vR (some a)), some (vR (some b)), some (vI l2), some (vI l3), some (vI l4), some (vI (zV h (a + 3) (l4).toNat)), some (vI (zV h b ((zV h (a + 2) (l4).toNat)).toNat))]) (st' := [vI (zshl l3 1)]) (h' := h) f21_82 rfl ?_
      refine y_s (pc' := 85) (L' := [some (vR (some a)), some (vR (some b)), some (vI l2), some (vI l3), some (vI l4), some (vI (zV h (a + 3) (l4).toNat)), some (vI (zV h b ((zV h (a + 2) (l4).toNat)).toNat))]) (st' := [vI (zV h b ((zV h (a + 2) (l4).toNat)).toNat), vI (zshl l3 1)]) (h' := h) f21_83 rfl ?_
      refine y_s (pc' := 87) (L' := [some (vR (some a)), some (vR (some b)), some (vI l2), some (vI l3), some (vI l4), some (vI (zV h (a + 3) (l4).toNat)), some (vI (zV h b ((zV h (a + 2) (l4).toNat)).toNat))]) (st' := [vI (zV h (a + 3) (l4).toNat), vI (zV h b ((zV h (a + 2) (l4).toNat)).toNat), vI (zshl l3 1)]) (h' := h) f21_85 rfl ?_
      refine y_ic (pcT := 94) (pc' := 90) (P := (zV h (a + 3) (l4).toNat) ≤ (zV h b ((zV h (a + 2) (l4).toNat)).toNat)) f21_87 rfl rfl rfl (fun c => ?_) (fun c => ?_)
      · replace k := k.1 c
        refine y_s (pc' := 95) (L' := [some (vR (some a)), some (vR (some b)), some (vI l2), some (vI l3), some (vI l4), some (vI (zV h (a + 3) (l4).toNat)), some (vI (zV h b ((zV h (a + 2) (l4).toNat)).toNat))]) (st' := [vI 0, vI (zshl l3 1)]) (h' := h) f21_94 rfl ?_
        refine y_s (pc' := 96) (L' := [some (vR (some a)), some (vR (some b)), some (vI l2), some (vI l3), some (vI l4), some (vI (zV h (a + 3) (l4).toNat)), some (vI (zV h b ((zV h (a + 2) (l4).toNat)).toNat))]) (st' := [vI (zor (zshl l3 1) 0)]) (h' := h) f21_95 rfl ?_
        refine y_sto (pc' := 97) (k := 3) (L' := [some (vR (some a)), some (vR (some b)), some (vI l2), some (vI (zor (zshl l3 1) 0)), some (vI l4), some (vI (zV h (a + 3) (l4).toNat)), some (vI (zV h b ((zV h (a + 2) (l4).toNat)).toNat))]) f21_96 rfl rfl rfl rfl rfl rfl ?_
        refine y_go (pc' := 199) f21_97 rfl ?_
        refine y_inc (pc' := 202) (L' := [some (vR (some a)), some (vR (some b)), some (vI l2), some (vI (zor (zshl l3 1) 0)), some (vI (zw (l4 + 1))), some (vI (zV h (a + 3) (l4).toNat)), some (vI (zV h b ((zV h (a + 2) (l4).toNat)).toNat))]) f21_199 rfl rfl rfl rfl ?_
        refine y_go (pc' := 7) f21_202 rfl ?_
        exact k
      · replace k := k.2 c
        refine y_s (pc' := 91) (L' := [some (vR (some a)), some (vR (some b)), some (vI l2), some (vI l3), some (vI l4), some (vI (zV h (a + 3) (l4).toNat)), some (vI (zV h b ((zV h (a + 2) (l4).toNat)).toNat))]) (st' := [vI 1, vI (zshl l3 1)]) (h' := h) f21_90 rfl ?_
        refine y_go (pc' := 95) f21_91 rfl ?_
        refine y_s (pc' := 96) (L' := [some (vR (some a)), some (vR (some b)), some (vI l2), some (vI l3), some (vI l4), some (vI (zV h (a + 3) (l4).toNat)), some (vI (zV h b ((zV h (a + 2) (l4).toNat)).toNat))]) (st' := [vI (zor (zshl l3 1) 1)]) (h' := h) f21_95 rfl ?_
        refine y_sto (pc' := 97) (k := 3) (L' := [some (vR (some a)), some (vR (some b)), some (vI l2), some (vI (zor (zshl l3 1) 1)), some (vI l4), some (vI (zV h (a + 3) (l4).toNat)), some (vI (zV h b ((zV h (a + 2) (l4).toNat)).toNat))]) f21_96 rfl rfl rfl rfl rfl rfl ?_
        refine y_go (pc' := 199) f21_97 rfl ?_
        refine y_inc (pc' := 202) (L' := [some (vR (some a)), some (vR (some b)), some (vI l2), some (vI (zor (zshl l3 1) 1)), some (vI (zw (l4 + 1))), some (vI (zV h (a + 3) (l4).toNat)), some (vI (zV h b ((zV h (a + 2) (l4).toNat)).toNat))]) f21_199 rfl rfl rfl rfl ?_
        refine y_go (pc' := 7) f21_202 rfl ?_
        exact k
    replace k := k.2
    have c0 := c
    by_cases c : (zV h (a + 1) (l4).toNat) = 2
    · refine y_tc (pc' := 100) (v := 2) f21_43 c rfl rfl rfl ?_
      replace k := k.1 c
      refine y_s (pc' := 101) (L' := [some (vR (some a)), some (vR (some b)), some (vI l2), some (vI l3), some (vI l4), some (vI (zV h (a + 3) (l4).toNat)), some (vI (zV h b ((zV h (a + 2) (l4).toNat)).toNat))]) (st' := [vI l3]) (h' := h) f21_100 rfl ?_
      refine y_s (pc' := 102) (L' := [some (vR (some a)), some (vR (some b)), some (vI l2), some (vI l3), some (vI l4), some (vI (zV h (a + 3) (l4).toNat)), some (vI (zV h b ((zV h (a + 2) (l4).toNat)).toNat))]) (st' := [vI 1, vI l3]) (h' := h) f21_101 rfl ?_
      refine y_s (pc' := 103) (L' := [some (vR (some a)), some (vR (some b)), some (vI l2), some (vI l3), some (vI l4), some (vI (zV h (a + 3) (l4).toNat)), some (vI (zV h b ((zV h (a + 2) (l4).toNat)).toNat))]) (st' := [vI (zshl l3 1)]) (h' := h) f21_102 rfl ?_
      refine y_s (pc' := 105) (L' := [some (vR (some a)), some (vR (some b)), some (vI l2), some (vI l3), some (vI l4), some (vI (zV h (a + 3) (l4).toNat)), some (vI (zV h b ((zV h (a + 2) (l4).toNat)).toNat))]) (st' := [vI (zV h b ((zV h (a + 2) (l4).toNat)).toNat), vI (zshl l3 1)]) (h' := h) f21_103 rfl ?_
      refine y_s (pc' := 107) (L' := [some (vR (some a)), some (vR (some b)), some (vI l2), some (vI l3), some (vI l4), some (vI (zV h (a + 3) (l4).toNat)), some (vI (zV h b ((zV h (a + 2) (l4).toNat)).toNat))]) (st' := [vI (zV h (a + 3) (l4).toNat), vI (zV h b ((zV h (a + 2) (l4).toNat)).toNat), vI (zshl l3 1)]) (h' := h) f21_105 rfl ?_
      refine y_ic (pcT := 114) (pc' := 110) (P := (zV h b ((zV h (a + 2) (l4).toNat)).toNat) ≠ (zV h (a + 3) (l4).toNat)) f21_107 rfl rfl rfl (fun c => ?_) (fun c => ?_)
      · replace k := k.1 c
        refine y_s (pc' := 115) (L' := [some (vR (some a)), some (vR (some b)), some (vI l2), some (vI l3), some (vI l4), some (vI (zV h (a + 3) (l4).toNat)), some (vI (zV h b ((zV h (a + 2) (l4).toNat)).toNat))]) (st' := [vI 0, vI (zshl l3 1)]) (h' := h) f21_114 rfl ?_
        refine y_s (pc' := 116) (L' := [some (vR (some a)), some (vR (some b)), some (vI l2), some (vI l3), some (vI l4), some (vI (zV h (a + 3) (l4).toNat)), some (vI (zV h b ((zV h (a + 2) (l4).toNat)).toNat))]) (st' := [vI (zor (zshl l3 1) 0)]) (h' := h) f21_115 rfl ?_
        refine y_sto (pc' := 117) (k := 3) (L' := [some (vR (some a)), some (vR (some b)), some (vI l2), some (vI (zor (zshl l3 1) 0)), some (vI l4), some (vI (zV h (a + 3) (l4).toNat)), some (vI (zV h b ((zV h (a + 2) (l4).toNat)).toNat))]) f21_116 rfl rfl rfl rfl rfl rfl ?_
        refine y_go (pc' := 199) f21_117 rfl ?_
        refine y_inc (pc' := 202) (L' := [some (vR (some a)), some (vR (some b)), some (vI l2), some (vI (zor (zshl l3 1) 0)), some (vI (zw (l4 + 1))), some (vI (zV h (a + 3) (l4).toNat)), some (vI (zV h b ((zV h (a + 2) (l4).toNat)).toNat))]) f21_199 rfl rfl rfl rfl ?_
        refine y_go (pc' := 7) f21_202 rfl ?_
        exact k
      · replace k := k.2 c
        refine y_s (pc' := 111) (L' := [some (vR (some a)), some (vR (some b)), some (vI l2), some (vI l3), some (vI l4), some (vI (zV h (a + 3) (l4).toNat)), some (vI (zV h b ((zV h (a + 2) (l4).toNat)).toNat))]) (st' := [vI 1, vI (zshl l3 1)]) (h' := h) f21_110 rfl ?_
        refine y_go (pc' := 115) f21_111 rfl ?_
        refine y_s (pc' := 116) (L' := [some (vR (some a)), some (vR (some b)), some (vI l2), some (vI l3), some (vI l4), some (vI (zV h (a + 3) (l4).toNat)), some (vI (zV h b ((zV h (a + 2) (l4).toNat)).toNat))]) (st' := [vI (zor (zshl l3 1) 1)]) (h' := h) f21_115 rfl ?_
        refine y_sto (pc' := 117) (k := 3) (L' := [some (vR (some a)), some (vR (some b)), some (vI l2), some (vI (zor (zshl l3 1) 1)), some (vI l4), some (vI (zV h (a + 3) (l4).toNat)), some (vI (zV h b ((zV h (a + 2) (l4).toNat)).toNat))]) f21_116 rfl rfl rfl rfl rfl rfl ?_
        refine y_go (pc' := 199) f21_117 rfl ?_
        refine y_inc (pc' := 202) (L' := [some (vR (some a)), some (vR (some b)), some (vI l2), some (vI (zor (zshl l3 1) 1)), some (vI (zw (l4 + 1))), some (vI (zV h (a + 3) (l4).toNat)), some (vI (zV h b ((zV h (a + 2) (l4).toNat)).toNat))]) f21_199 rfl rfl rfl rfl ?_
        refine y_go (pc' := 7) f21_202 rfl ?_
        exact k
    replace k := k.2
    have c1 := c
    by_cases c : (zV h (a + 1) (l4).toNat) = 3
    · refine y_tc (pc' := 120) (v := 3) f21_43 c rfl rfl rfl ?_
      replace k := k.1 c
      refine y_s (pc' := 121) (L' := [some (vR (some a)), some (vR (some b)), some (vI l2), some (vI l3), some (vI l4), some (vI (zV h (a + 3) (l4).toNat)), some (vI (zV h b ((zV h (a + 2) (l4).toNat)).toNat))]) (st' := [vI l3]) (h' := h) f21_120 rfl ?_
      refine y_s (pc' := 122) (L' := [some (vR (some a)), some (vR (some b)), some (vI l2), some (vI l3), some (vI l4), some (vI (zV h (a + 3) (l4).toNat)), some (vI (zV h b ((zV h (a + 2) (l4).toNat)).toNat))]) (st' := [vI 1, vI l3]) (h' := h) f21_121 rfl ?_
      refine y_s (pc' := 123) (L' := [some (vR (some a)), some (vR (some b)), some (vI l2), some (vI l3), some (vI l4), some (vI (zV h (a + 3) (l4).toNat)), some (vI (zV h b ((zV h (a + 2) (l4).toNat)).toNat))]) (st' := [vI (zshl l3 1)]) (h' := h) f21_122 rfl ?_
      refine y_s (pc' := 125) (L' := [some (vR (some a)), some (vR (some b)), some (vI l2), some (vI l3), some (vI l4), some (vI (zV h (a + 3) (l4).toNat)), some (vI (zV h b ((zV h (a + 2) (l4).toNat)).toNat))]) (st' := [vI (zV h b ((zV h (a + 2) (l4).toNat)).toNat), vI (zshl l3 1)]) (h' := h) f21_123 rfl ?_
      refine y_s (pc' := 127) (L' := [some (vR (some a)), some (vR (some b)), some (vI l2), some (vI l3), some (vI l4), some (vI (zV h (a + 3) (l4).toNat)), some (vI (zV h b ((zV h (a + 2) (l4).toNat)).toNat))]) (st' := [vI (zV h (a + 3) (l4).toNat), vI (zV h b ((zV h (a + 2) (l4).toNat)).toNat), vI (zshl l3 1)]) (h' := h) f21_125 rfl ?_
      refine y_ic (pcT := 134) (pc' := 130) (P := (zV h b ((zV h (a + 2) (l4).toNat)).toNat) ≤ (zV h (a + 3) (l4).toNat)) f21_127 rfl rfl rfl (fun c => ?_) (fun c => ?_)
      · replace k := k.1 c
        refine y_s (pc' := 135) (L' := [some (vR (some a)), some (vR (some b)), some (vI l2), some (vI l3), some (vI l4), some (vI (zV h (a + 3) (l4).toNat)), some (vI (zV h b ((zV h (a + 2) (l4).toNat)).toNat))]) (st' := [vI 0, vI (zshl l3 1)]) (h' := h) f21_134 rfl ?_
        refine y_s (pc' := 136) (L' := [some (vR (some a)), some (vR (some b)), some (vI l2), some (vI l3), some (vI l4), some (vI (zV h (a + 3) (l4).toNat)), some (vI (zV h b ((zV h (a + 2) (l4).toNat)).toNat))]) (st' := [vI (zor (zshl l3 1) 0)]) (h' := h) f21_135 rfl ?_
        refine y_sto (pc' := 137) (k := 3) (L' := [some (vR (some a)), some (vR (some b)), some (vI l2), some (vI (zor (zshl l3 1) 0)), some (vI l4), some (vI (zV h (a + 3) (l4).toNat)), some (vI (zV h b ((zV h (a + 2) (l4).toNat)).toNat))]) f21_136 rfl rfl rfl rfl rfl rfl ?_
        refine y_go (pc' := 199) f21_137 rfl ?_
        refine y_inc (pc' := 202) (L' := [some (vR (some a)), some (vR (some b)), some (vI l2), some (vI (zor (zshl l3 1) 0)), some (vI (zw (l4 + 1))), some (vI (zV h (a + 3) (l4).toNat)), some (vI (zV h b ((zV h (a + 2) (l4).toNat)).toNat))]) f21_199 rfl rfl rfl rfl ?_
        refine y_go (pc' := 7) f21_202 rfl ?_
        exact k
      · replace k := k.2 c
        refine y_s (pc' := 131) (L' := [some (vR (some a)), some (vR (some b)), some (vI l2), some (vI l3), some (vI l4), some (vI (zV h (a + 3) (l4).toNat)), some (vI (zV h b ((zV h (a + 2) (l4).toNat)).toNat))]) (st' := [vI 1, vI (zshl l3 1)]) (h' := h) f21_130 rfl ?_
        refine y_go (pc' := 135) f21_131 rfl ?_
        refine y_s (pc' := 136) (L' := [some (vR (some a)), some (vR (some b)), some (vI l2), some (vI l3), some (vI l4), some (vI (zV h (a + 3) (l4).toNat)), some (vI (zV h b ((zV h (a + 2) (l4).toNat)).toNat))]) (st' := [vI (zor (zshl l3 1) 1)]) (h' := h) f21_135 rfl ?_
        refine y_sto (pc' := 137) (k := 3) (L' := [some (vR (some a)), some (vR (some b)), some (vI l2), some (vI (zor (zshl l3 1) 1)), some (vI l4), some (vI (zV h (a + 3) (l4).toNat)), some (vI (zV h b ((zV h (a + 2) (l4).toNat)).toNat))]) f21_136 rfl rfl rfl rfl rfl rfl ?_
        refine y_go (pc' := 199) f21_137 rfl ?_
        refine y_inc (pc' := 202) (L' := [some (vR (some a)), some (vR (some b)), some (vI l2), some (vI (zor (zshl l3 1) 1)), some (vI (zw (l4 + 1))), some (vI (zV h (a + 3) (l4).toNat)), some (vI (zV h b ((zV h (a + 2) (l4).toNat)).toNat))]) f21_199 rfl rfl rfl rfl ?_
        refine y_go (pc' := 7) f21_202 rfl ?_
        exact k
    replace k := k.2
    have c2 := c
    by_cases c : (zV h (a + 1) (l4).toNat) = 4
    · refine y_tc (pc' := 140) (v := 4) f21_43 c rfl rfl rfl ?_
      replace k := k.1 c
      refine y_s (pc' := 141) (L' := [some (vR (some a)), some (vR (some b)), some (vI l2), some (vI l3), some (vI l4), some (vI (zV h (a + 3) (l4).toNat)), some (vI (zV h b ((zV h (a + 2) (l4).toNat)).toNat))]) (st' := [vI l3]) (h' := h) f21_140 rfl ?_
      refine y_s (pc' := 142) (L' := [some (vR (some a)), some (vR (some b)), some (vI l2), some (vI l3), some (vI l4), some (vI (zV h (a + 3) (l4).toNat)), some (vI (zV h b ((zV h (a + 2) (l4).toNat)).toNat))]) (st' := [vI 1, vI l3]) (h' := h) f21_141 rfl ?_
      refine y_s (pc' := 143) (L' := [some (vR (some a)), some (vR (some b)), some (vI l2), some (vI l3), some (vI l4), some (vI (zV h (a + 3) (l4).toNat)), some (vI (zV h b ((zV h (a + 2) (l4).toNat)).toNat))]) (st' := [vI (zxor l3 1)]) (h' := h) f21_142 rfl ?_
      refine y_sto (pc' := 144) (k := 3) (L' := [some (vR (some a)), some (vR (some b)), some (vI l2), some (vI (zxor l3 1)), some (vI l4), some (vI (zV h (a + 3) (l4).toNat)), some (vI (zV h b ((zV h (a + 2) (l4).toNat)).toNat))]) f21_143 rfl rfl rfl rfl rfl rfl ?_
      refine y_go (pc' := 199) f21_144 rfl ?_
      refine y_inc (pc' := 202) (L' := [some (vR (some a)), some (vR (some b)), some (vI l2), some (vI (zxor l3 1)), some (vI (zw (l4 + 1))), some (vI (zV h (a + 3) (l4).toNat)), some (vI (zV h b ((zV h (a + 2) (l4).toNat)).toNat))]) f21_199 rfl rfl rfl rfl ?_
      refine y_go (pc' := 7) f21_202 rfl ?_
      exact k
    replace k := k.2
    have c3 := c
    by_cases c : (zV h (a + 1) (l4).toNat) = 5
    · refine y_tc (pc' := 147) (v := 5) f21_43 c rfl rfl rfl ?_
      replace k := k.1 c
      refine y_s (pc' := 148) (L' := [some (vR (some a)), some (vR (some b)), some (vI l2), some (vI l3), some (vI l4), some (vI (zV h (a + 3) (l4).toNat)), some (vI (zV h b ((zV h (a + 2) (l4).toNat)).toNat))]) (st' := [vI l3]) (h' := h) f21_147 rfl ?_
      refine y_s (pc' := 149) (L' := [some (vR (some a)), some (vR (some b)), some (vI l2), some (vI l3), some (vI l4), some (vI (zV h (a + 3) (l4).toNat)), some (vI (zV h b ((zV h (a + 2) (l4).toNat)).toNat))]) (st' := [vI 1, vI l3]) (h' := h) f21_148 rfl ?_
      refine y_s (pc' := 150) (L' := [some (vR (some a)), some (vR (some b)), some (vI l2), some (vI l3), some (vI l4), some (vI (zV h (a + 3) (l4).toNat)), some (vI (zV h b ((zV h (a + 2) (l4).toNat)).toNat))]) (st' := [vI (zand l3 1)]) (h' := h) f21_149 rfl ?_
      refine y_s (pc' := 151) (L' := [some (vR (some a)), some (vR (some b)), some (vI l2), some (vI l3), some (vI l4), some (vI (zV h (a + 3) (l4).toNat)), some (vI (zV h b ((zV h (a + 2) (l4).toNat)).toNat))]) (st' := [vI 1, vI (zand l3 1)]) (h' := h) f21_150 rfl ?_
      refine y_ic (pcT := 160) (pc' := 154) (P := (zand l3 1) ≠ 1) f21_151 rfl rfl rfl (fun c => ?_) (fun c => ?_)
      · replace k := k.1 c
        refine y_s (pc' := 161) (L' := [some (vR (some a)), some (vR (some b)), some (vI l2), some (vI l3), some (vI l4), some (vI (zV h (a + 3) (l4).toNat)), some (vI (zV h b ((zV h (a + 2) (l4).toNat)).toNat))]) (st' := [vI l3]) (h' := h) f21_160 rfl ?_
        refine y_s (pc' := 162) (L' := [some (vR (some a)), some (vR (some b)), some (vI l2), some (vI l3), some (vI l4), some (vI (zV h (a + 3) (l4).toNat)), some (vI (zV h b ((zV h (a + 2) (l4).toNat)).toNat))]) (st' := [vI 1, vI l3]) (h' := h) f21_161 rfl ?_
        refine y_s (pc' := 163) (L' := [some (vR (some a)), some (vR (some b)), some (vI l2), some (vI l3), some (vI l4), some (vI (zV h (a + 3) (l4).toNat)), some (vI (zV h b ((zV h (a + 2) (l4).toNat)).toNat))]) (st' := [vI (zshr l3 1)]) (h' := h) f21_162 rfl ?_
        refine y_s (pc' := 165) (L' := [some (vR (some a)), some (vR (some b)), some (vI l2), some (vI l3), some (vI l4), some (vI (zV h (a + 3) (l4).toNat)), some (vI (zV h b ((zV h (a + 2) (l4).toNat)).toNat))]) (st' := [vI (-2), vI (zshr l3 1)]) (h' := h) f21_163 rfl ?_
        refine y_s (pc' := 166) (L' := [some (vR (some a)), some (vR (some b)), some (vI l2), some (vI l3), some (vI l4), some (vI (zV h (a + 3) (l4).toNat)), some (vI (zV h b ((zV h (a + 2) (l4).toNat)).toNat))]) (st' := [vI (zand (zshr l3 1) (-2))]) (h' := h) f21_165 rfl ?_
        refine y_sto (pc' := 167) (k := 3) (L' := [some (vR (some a)), some (vR (some b)), some (vI l2), some (vI (zand (zshr l3 1) (-2))), some (vI l4), some (vI (zV h (a + 3) (l4).toNat)), some (vI (zV h b ((zV h (a + 2) (l4).toNat)).toNat))]) f21_166 rfl rfl rfl rfl rfl rfl ?_
        refine y_go (pc' := 199) f21_167 rfl ?_
        refine y_inc (pc' := 202) (L' := [some (vR (some a)), some (vR (some b)), some (vI l2), some (vI (zand (zshr l3 1) (-2))), some (vI (zw (l4 + 1))), some (vI (zV h (a + 3) (l4).toNat)), some (vI (zV h b ((zV h (a + 2) (l4).toNat)).toNat))]) f21_199 rfl rfl rfl rfl ?_
        refine y_go (pc' := 7) f21_202 rfl ?_
        exact k
      · replace k := k.2 c
        refine y_s (pc' := 155) (L' := [some (vR (some a)), some (vR (some b)), some (vI l2), some (vI l3), some (vI l4), some (vI (zV h (a + 3) (l4).toNat)), some (vI (zV h b ((zV h (a + 2) (l4).toNat)).toNat))]) (st' := [vI l3]) (h' := h) f21_154 rfl ?_
        refine y_s (pc' := 156) (L' := [some (vR (some a)), some (vR (some b)), some (vI l2), some (vI l3), some (vI l4), some (vI (zV h (a + 3) (l4).toNat)), some (vI (zV h b ((zV h (a + 2) (l4).toNat)).toNat))]) (st' := [vI 1, vI l3]) (h' := h) f21_155 rfl ?_
        refine y_s (pc' := 157) (L' := [some (vR (some a)), some (vR (some b)), some (vI l2), some (vI l3), some (vI l4), some (vI (zV h (a + 3) (l4).toNat)), some (vI (zV h b ((zV h (a + 2) (l4).toNat)).toNat))]) (st' := [vI (zshr l3 1)]) (h' := h) f21_156 rfl ?_
        refine y_go (pc' := 166) f21_157 rfl ?_
        refine y_sto (pc' := 167) (k := 3) (L' := [some (vR (some a)), some (vR (some b)), some (vI l2), some (vI (zshr l3 1)), some (vI l4), some (vI (zV h (a + 3) (l4).toNat)), some (vI (zV h b ((zV h (a + 2) (l4).toNat)).toNat))]) f21_166 rfl rfl rfl rfl rfl rfl ?_
        refine y_go (pc' := 199) f21_167 rfl ?_
        refine y_inc (pc' := 202) (L' := [some (vR (some a)), some (vR (some b)), some (vI l2), some (vI (zshr l3 1)), some (vI (zw (l4 + 1))), some (vI (zV h (a + 3) (l4).toNat)), some (vI (zV h b ((zV h (a + 2) (l4).toNat)).toNat))]) f21_199 rfl rfl rfl rfl ?_
        refine y_go (pc' := 7) f21_202 rfl ?_
        exact k
    replace k := k.2
    have c4 := c
    by_cases c : (zV h (a + 1) (l4).toNat) = 6
    · refine y_tc (pc' := 170) (v := 6) f21_43 c rfl rfl rfl ?_
      replace k := k.1 c
      refine y_s (pc' := 171) (L' := [some (vR (some a)), some (vR (some b)), some (vI l2), some (vI l3), some (vI l4), some (vI (zV h (a + 3) (l4).toNat)), some (vI (zV h b ((zV h (a + 2) (l4).toNat)).toNat))]) (st' := [vI l3]) (h' := h) f21_170 rfl ?_
      refine y_s (pc' := 172) (L' := [some (vR (some a)), some (vR (some b)), some (vI l2), some (vI l3), some (vI l4), some (vI (zV h (a + 3) (l4).toNat)), some (vI (zV h b ((zV h (a + 2) (l4).toNat)).toNat))]) (st' := [vI 1, vI l3]) (h' := h) f21_171 rfl ?_
      refine y_s (pc' := 173) (L' := [some (vR (some a)), some (vR (some b)), some (vI l2), some (vI l3), some (vI l4), some (vI (zV h (a + 3) (l4).toNat)), some (vI (zV h b ((zV h (a + 2) (l4).toNat)).toNat))]) (st' := [vI (zshr l3 1)]) (h' := h) f21_172 rfl ?_
      refine y_s (pc' := 174) (L' := [some (vR (some a)), some (vR (some b)), some (vI l2), some (vI l3), some (vI l4), some (vI (zV h (a + 3) (l4).toNat)), some (vI (zV h b ((zV h (a + 2) (l4).toNat)).toNat))]) (st' := [vI l3, vI (zshr l3 1)]) (h' := h) f21_173 rfl ?_
      refine y_s (pc' := 175) (L' := [some (vR (some a)), some (vR (some b)), some (vI l2), some (vI l3), some (vI l4), some (vI (zV h (a + 3) (l4).toNat)), some (vI (zV h b ((zV h (a + 2) (l4).toNat)).toNat))]) (st' := [vI 1, vI l3, vI (zshr l3 1)]) (h' := h) f21_174 rfl ?_
      refine y_s (pc' := 176) (L' := [some (vR (some a)), some (vR (some b)), some (vI l2), some (vI l3), some (vI l4), some (vI (zV h (a + 3) (l4).toNat)), some (vI (zV h b ((zV h (a + 2) (l4).toNat)).toNat))]) (st' := [vI (zand l3 1), vI (zshr l3 1)]) (h' := h) f21_175 rfl ?_
      refine y_s (pc' := 177) (L' := [some (vR (some a)), some (vR (some b)), some (vI l2), some (vI l3), some (vI l4), some (vI (zV h (a + 3) (l4).toNat)), some (vI (zV h b ((zV h (a + 2) (l4).toNat)).toNat))]) (st' := [vI (zor (zshr l3 1) (zand l3 1))]) (h' := h) f21_176 rfl ?_
      refine y_sto (pc' := 178) (k := 3) (L' := [some (vR (some a)), some (vR (some b)), some (vI l2), some (vI (zor (zshr l3 1) (zand l3 1))), some (vI l4), some (vI (zV h (a + 3) (l4).toNat)), some (vI (zV h b ((zV h (a + 2) (l4).toNat)).toNat))]) f21_177 rfl rfl rfl rfl rfl rfl ?_
      refine y_go (pc' := 199) f21_178 rfl ?_
      refine y_inc (pc' := 202) (L' := [some (vR (some a)), some (vR (some b)), some (vI l2), some (vI (zor (zshr l3 1) (zand l3 1))), some (vI (zw (l4 + 1))), some (vI (zV h (a + 3) (l4).toNat)), some (vI (zV h b ((zV h (a + 2) (l4).toNat)).toNat))]) f21_199 rfl rfl rfl rfl ?_
      refine y_go (pc' := 7) f21_202 rfl ?_
      exact k
    replace k := k.2
    have c5 := c
    have cc : (zV h (a + 1) (l4).toNat) < 1 ∨ 6 < (zV h (a + 1) (l4).toNat) := by omega
    refine y_td (pc' := 181) f21_43 cc rfl ?_
    replace k := k cc
    refine y_s (pc' := 182) (L' := [some (vR (some a)), some (vR (some b)), some (vI l2), some (vI l3), some (vI l4), some (vI (zV h (a + 3) (l4).toNat)), some (vI (zV h b ((zV h (a + 2) (l4).toNat)).toNat))]) (st' := [vI l2]) (h' := h) f21_181 rfl ?_
    refine y_s (pc' := 183) (L' := [some (vR (some a)), some (vR (some b)), some (vI l2), some (vI l3), some (vI l4), some (vI (zV h (a + 3) (l4).toNat)), some (vI (zV h b ((zV h (a + 2) (l4).toNat)).toNat))]) (st' := [vI l3, vI l2]) (h' := h) f21_182 rfl ?_
    refine y_s (pc' := 184) (L' := [some (vR (some a)), some (vR (some b)), some (vI l2), some (vI l3), some (vI l4), some (vI (zV h (a + 3) (l4).toNat)), some (vI (zV h b ((zV h (a + 2) (l4).toNat)).toNat))]) (st' := [vI 1, vI l3, vI l2]) (h' := h) f21_183 rfl ?_
    refine y_s (pc' := 185) (L' := [some (vR (some a)), some (vR (some b)), some (vI l2), some (vI l3), some (vI l4), some (vI (zV h (a + 3) (l4).toNat)), some (vI (zV h b ((zV h (a + 2) (l4).toNat)).toNat))]) (st' := [vI (zand l3 1), vI l2]) (h' := h) f21_184 rfl ?_
    refine y_s (pc' := 186) (L' := [some (vR (some a)), some (vR (some b)), some (vI l2), some (vI l3), some (vI l4), some (vI (zV h (a + 3) (l4).toNat)), some (vI (zV h b ((zV h (a + 2) (l4).toNat)).toNat))]) (st' := [vI 1, vI (zand l3 1), vI l2]) (h' := h) f21_185 rfl ?_
    refine y_ic (pcT := 194) (pc' := 189) (P := (zand l3 1) ≠ 1) f21_186 rfl rfl rfl (fun c => ?_) (fun c => ?_)
    · replace k := k.1 c
      refine y_s (pc' := 195) (L' := [some (vR (some a)), some (vR (some b)), some (vI l2), some (vI l3), some (vI l4), some (vI (zV h (a + 3) (l4).toNat)), some (vI (zV h b ((zV h (a + 2) (l4).toNat)).toNat))]) (st' := [vI 0, vI l2]) (h' := h) f21_194 rfl ?_
      refine y_s (pc' := 196) (L' := [some (vR (some a)), some (vR (some b)), some (vI l2), some (vI l3), some (vI l4), some (vI (zV h (a + 3) (l4).toNat)), some (vI (zV h b ((zV h (a + 2) (l4).toNat)).toNat))]) (st' := [vI (zw (l2 + 0))]) (h' := h) f21_195 rfl ?_
      refine y_sto (pc' := 197) (k := 2) (L' := [some (vR (some a)), some (vR (some b)), some (vI (zw (l2 + 0))), some (vI l3), some (vI l4), some (vI (zV h (a + 3) (l4).toNat)), some (vI (zV h b ((zV h (a + 2) (l4).toNat)).toNat))]) f21_196 rfl rfl rfl rfl rfl rfl ?_
      refine y_s (pc' := 198) (L' := [some (vR (some a)), some (vR (some b)), some (vI (zw (l2 + 0))), some (vI l3), some (vI l4), some (vI (zV h (a + 3) (l4).toNat)), some (vI (zV h b ((zV h (a + 2) (l4).toNat)).toNat))]) (st' := [vI 0]) (h' := h) f21_197 rfl ?_
      refine y_sto (pc' := 199) (k := 3) (L' := [some (vR (some a)), some (vR (some b)), some (vI (zw (l2 + 0))), some (vI 0), some (vI l4), some (vI (zV h (a + 3) (l4).toNat)), some (vI (zV h b ((zV h (a + 2) (l4).toNat)).toNat))]) f21_198 rfl rfl rfl rfl rfl rfl ?_
      refine y_inc (pc' := 202) (L' := [some (vR (some a)), some (vR (some b)), some (vI (zw (l2 + 0))), some (vI 0), some (vI (zw (l4 + 1))), some (vI (zV h (a + 3) (l4).toNat)), some (vI (zV h b ((zV h (a + 2) (l4).toNat)).toNat))]) f21_199 rfl rfl rfl rfl ?_
      refine y_go (pc' := 7) f21_202 rfl ?_
      exact k
    · replace k := k.2 c
      refine y_s (pc' := 191) (L' := [some (vR (some a)), some (vR (some b)), some (vI l2), some (vI l3), some (vI l4), some (vI (zV h (a + 3) (l4).toNat)), some (vI (zV h b ((zV h (a + 2) (l4).toNat)).toNat))]) (st' := [vI (zV h (a + 3) (l4).toNat), vI l2]) (h' := h) f21_189 rfl ?_
      refine y_go (pc' := 195) f21_191 rfl ?_
      refine y_s (pc' := 196) (L' := [some (vR (some a)), some (vR (some b)), some (vI l2), some (vI l3), some (vI l4), some (vI (zV h (a + 3) (l4).toNat)), some (vI (zV h b ((zV h (a + 2) (l4).toNat)).toNat))]) (st' := [vI (zw (l2 + (zV h (a + 3) (l4).toNat)))]) (h' := h) f21_195 rfl ?_
      refine y_sto (pc' := 197) (k := 2) (L' := [some (vR (some a)), some (vR (some b)), some (vI (zw (l2 + (zV h (a + 3) (l4).toNat)))), some (vI l3), some (vI l4), some (vI (zV h (a + 3) (l4).toNat)), some (vI (zV h b ((zV h (a + 2) (l4).toNat)).toNat))]) f21_196 rfl rfl rfl rfl rfl rfl ?_
      refine y_s (pc' := 198) (L' := [some (vR (some a)), some (vR (some b)), some (vI (zw (l2 + (zV h (a + 3) (l4).toNat)))), some (vI l3), some (vI l4), some (vI (zV h (a + 3) (l4).toNat)), some (vI (zV h b ((zV h (a + 2) (l4).toNat)).toNat))]) (st' := [vI 0]) (h' := h) f21_197 rfl ?_
      refine y_sto (pc' := 199) (k := 3) (L' := [some (vR (some a)), some (vR (some b)), some (vI (zw (l2 + (zV h (a + 3) (l4).toNat)))), some (vI 0), some (vI l4), some (vI (zV h (a + 3) (l4).toNat)), some (vI (zV h b ((zV h (a + 2) (l4).toNat)).toNat))]) f21_198 rfl rfl rfl rfl rfl rfl ?_
      refine y_inc (pc' := 202) (L' := [some (vR (some a)), some (vR (some b)), some (vI (zw (l2 + (zV h (a + 3) (l4).toNat)))), some (vI 0), some (vI (zw (l4 + 1))), some (vI (zV h (a + 3) (l4).toNat)), some (vI (zV h b ((zV h (a + 2) (l4).toNat)).toNat))]) f21_199 rfl rfl rfl rfl ?_
      refine y_go (pc' := 7) f21_202 rfl ?_
      exact k
/-- HatterTunes$House.pitchOf(II)I -/
theorem E18 {d : Nat} {K : Int → Hp → Prop} (w : yWF zl nl h) {a : Nat} (ha : yHs a) {x0 : Int} {x1 : Int} (hd : 1 ≤ d) (k : yU (d - 1) 19 [vR (some a), vI x0, vI x1] h (fun h' => ZW d prog_4_method_11_code 2 6 [some (vR (some a)), some (vI x0), some (vI x1), none, none, none] [] h' (yq 1 (yqI K)))) : yI d 18 [vR (some a), vI x0, vI x1] h K := by
  refine y_en (L := [some (vR (some a)), some (vI x0), some (vI x1), none, none, none]) rfl rfl ?_
  refine y_s (pc' := 1) (L' := [some (vR (some a)), some (vI x0), some (vI x1), none, none, none]) (st' := [vR (some a)]) (h' := h) f18_0 rfl ?_
  refine y_s (pc' := 2) (L' := [some (vR (some a)), some (vI x0), some (vI x1), none, none, none]) (st' := [vI x0, vR (some a)]) (h' := h) f18_1 rfl ?_
  refine y_s (pc' := 3) (L' := [some (vR (some a)), some (vI x0), some (vI x1), none, none, none]) (st' := [vI x1, vI x0, vR (some a)]) (h' := h) f18_2 rfl ?_
  refine y_cU (pc' := 6) (as := [vR (some a), vI x0, vI x1]) (r := []) f18_3 (yzv ym_2_98 rfl (ysH0 w ha) rfl rfl) (by omega) rfl ?_
  exact k
theorem W18_6 {d : Nat} {K : Int → Hp → Prop} (w : yWF zl nl h) {a : Nat} (ha : yHs a) {l1 : Int} {l2 : Int} (hd : 1 ≤ d) (k : (((0 : Int) ≤ l1 ∧ l1 < 6 ∧ (0 : Int) ≤ l2 ∧ l2 < 6) ∧ (∀ s, zP h a 12 = some s → ySh s → yI (d - 1) 21 [vR (some s), vR (some (a + 6))] h (fun x h' => ZW d prog_4_method_11_code 2 23 [some (vR (some a)), some (vI l1), some (vI l2), none, none, none] [vI x, vI (zV h (a + 4) (6 * l1 + l2).toNat)] h' (yq 1 (yqI K)))))) : ZW d prog_4_method_11_code 2 6 [some (vR (some a)), some (vI l1), some (vI l2), none, none, none] [] h (yq 1 (yqI K)) := by
  refine y_s (pc' := 7) (L' := [some (vR (some a)), some (vI l1), some (vI l2), none, none, none]) (st' := [vR (some a)]) (h' := h) f18_6 rfl ?_
  refine y_s (pc' := 8) (L' := [some (vR (some a)), some (vI l1), some (vI l2), none, none, none]) (st' := [vI l1, vR (some a)]) (h' := h) f18_7 rfl ?_
  refine y_s (pc' := 9) (L' := [some (vR (some a)), some (vI l1), some (vI l2), none, none, none]) (st' := [vI l2, vI l1, vR (some a)]) (h' := h) f18_8 rfl ?_
  refine y_cI (pc' := 12) (as := [vR (some a), vI l1, vI l2]) (r := []) f18_9 (yzv ym_2_80 rfl (ysH0 w ha) rfl rfl) (by omega) rfl ?_
  have p0 := k.1
  replace k := k.2
  refine sp20 w ha p0 ?_
  refine y_s (pc' := 13) (L' := [some (vR (some a)), some (vI l1), some (vI l2), none, none, none]) (st' := [vR (some a), vI (zV h (a + 4) (6 * l1 + l2).toNat)]) (h' := h) f18_12 rfl ?_
  obtain ⟨s, es, hs⟩ := ypH12 (a := a) w ha
  replace k := k s es hs
  refine y_gr (pc' := 16) f18_13 yf_2_51 rfl rfl (ysH0 w ha) es rfl ?_
  refine y_s (pc' := 17) (L' := [some (vR (some a)), some (vI l1), some (vI l2), none, none, none]) (st' := [vR (some a), vR (some s), vI (zV h (a + 4) (6 * l1 + l2).toNat)]) (h' := h) f18_16 rfl ?_
  refine y_gr (pc' := 20) f18_17 yf_2_27 rfl rfl (ysH0 w ha) (ypH5 w ha) rfl ?_
  refine y_cI (pc' := 23) (as := [vR (some s), vR (some (a + 6))]) (r := [vI (zV h (a + 4) (6 * l1 + l2).toNat)]) f18_20 (yzv ym_2_101 rfl (ysS0 w hs) rfl rfl) (by omega) rfl ?_
  exact k
theorem W18_23 {d : Nat} {K : Int → Hp → Prop} (w : yWF zl nl h) {a : Nat} (ha : yHs a) {l1 : Int} {l2 : Int} {s0 : Int} {s1 : Int} (hd : 1 ≤ d) (k : ((0 ≤ l1 ∧ l1 < 6) ∧ ((l2 ≠ (zV h (a + 2) (l1).toNat) → ((0 ≤ l1 ∧ l1 < 6) ∧ (((zV h (a + 1) (l1).toNat) = 1 → K (zw ((zw (s0 + s1)) + (zV h (a + 2) (l1).toNat))) h) ∧ ((zV h (a + 1) (l1).toNat) = 2 → K (zdiv (zw (s0 + s1)) 2) h) ∧ ((zV h (a + 1) (l1).toNat) = 3 → K (zw (s0 + s1)) h) ∧ ((zV h (a + 1) (l1).toNat) = 4 → (((zrem l2 2) ≠ 1 → K (zw ((zw (s0 + s1)) + (zV h (a + 2) (l1).toNat))) h) ∧ (¬ ((zrem l2 2) ≠ 1) → K (zw (2 * (zw ((zw (s0 + s1)) + (zV h (a + 2) (l1).toNat))))) h))) ∧ ((zV h (a + 1) (l1).toNat) = 5 → ((0 ≤ l1 ∧ l1 < 6) ∧ K (zw ((zdiv (zw (s0 + s1)) 2) + (ymin (zV h (a + 3) (l1).toNat) 9))) h)) ∧ ((zV h (a + 1) (l1).toNat) = 6 → ((0 ≤ (zw ((zw (l1 * 4)) + (zrem (zV h a 11) 4))) ∧ (zw ((zw (l1 * 4)) + (zrem (zV h a 11) 4))) < 24) ∧ K (zw ((zw (s0 + s1)) + (zV h (a + 5) ((zw ((zw (l1 * 4)) + (zrem (zV h a 11) 4)))).toNat))) h)) ∧ ((zV h (a + 1) (l1).toNat) < 1 ∨ 6 < (zV h (a + 1) (l1).toNat) → K (zw (s0 + s1)) h)))) ∧ (¬ (l2 ≠ (zV h (a + 2) (l1).toNat)) → ((0 ≤ l1 ∧ l1 < 6) ∧ (((zV h (a + 1) (l1).toNat) = 1 → K (zw ((zw (s0 + s1)) + (zV h (a + 2) (l1).toNat))) h) ∧ ((zV h (a + 1) (l1).toNat) = 2 → K (zdiv (zw (s0 + s1)) 2) h) ∧ ((zV h (a + 1) (l1).toNat) = 3 → K 0 h) ∧ ((zV h (a + 1) (l1).toNat) = 4 → (((zrem l2 2) ≠ 1 → K (zw ((zw (s0 + s1)) + (zV h (a + 2) (l1).toNat))) h) ∧ (¬ ((zrem l2 2) ≠ 1) → K (zw (2 * (zw ((zw (s0 + s1)) + (zV h (a + 2) (l1).toNat))))) h))) ∧ ((zV h (a + 1) (l1).toNat) = 5 → ((0 ≤ l1 ∧ l1 < 6) ∧ K (zw ((zdiv (zw (s0 + s1)) 2) + (ymin (zV h (a + 3) (l1).toNat) 9))) h)) ∧ ((zV h (a + 1) (l1).toNat) = 6 → ((0 ≤ (zw ((zw (l1 * 4)) + (zrem (zV h a 11) 4))) ∧ (zw ((zw (l1 * 4)) + (zrem (zV h a 11) 4))) < 24) ∧ K (zw (0 + (zV h (a + 5) ((zw ((zw (l1 * 4)) + (zrem (zV h a 11) 4)))).toNat))) h)) ∧ ((zV h (a + 1) (l1).toNat) < 1 ∨ 6 < (zV h (a + 1) (l1).toNat) → K (zw (s0 + s1)) h))))))) : ZW d prog_4_method_11_code 2 23 [some (vR (some a)), some (vI l1), some (vI l2), none, none, none] [vI s1, vI s0] h (yq 1 (yqI K)) := by
  refine y_s (pc' := 24) (L' := [some (vR (some a)), some (vI l1), some (vI l2), none, none, none]) (st' := [vI (zw (s0 + s1))]) (h' := h) f18_23 rfl ?_
  refine y_sto (pc' := 25) (k := 3) (L' := [some (vR (some a)), some (vI l1), some (vI l2), some (vI (zw (s0 + s1))), none, none]) f18_24 rfl rfl rfl rfl rfl rfl ?_
  refine y_s (pc' := 26) (L' := [some (vR (some a)), some (vI l1), some (vI l2), some (vI (zw (s0 + s1))), none, none]) (st' := [vR (some a)]) (h' := h) f18_25 rfl ?_
  refine y_gr (pc' := 29) f18_26 yf_2_15 rfl rfl (ysH0 w ha) (ypH1 w ha) rfl ?_
  refine y_s (pc' := 30) (L' := [some (vR (some a)), some (vI l1), some (vI l2), some (vI (zw (s0 + s1))), none, none]) (st' := [vI l1, vR (some (a + 2))]) (h' := h) f18_29 rfl ?_
  refine y_ia (pc' := 31) (x := (zV h (a + 2) (l1).toNat)) f18_30 (ysH2 w ha) k.1 rfl rfl ?_
  replace k := k.2
  refine y_sto (pc' := 33) (k := 4) (L' := [some (vR (some a)), some (vI l1), some (vI l2), some (vI (zw (s0 + s1))), some (vI (zV h (a + 2) (l1).toNat)), none]) f18_31 rfl rfl rfl rfl rfl rfl ?_
  refine y_s (pc' := 34) (L' := [some (vR (some a)), some (vI l1), some (vI l2), some (vI (zw (s0 + s1))), some (vI (zV h (a + 2) (l1).toNat)), none]) (st' := [vI l2]) (h' := h) f18_33 rfl ?_
  refine y_s (pc' := 36) (L' := [some (vR (some a)), some (vI l1), some (vI l2), some (vI (zw (s0 + s1))), some (vI (zV h (a + 2) (l1).toNat)), none]) (st' := [vI (zV h (a + 2) (l1).toNat), vI l2]) (h' := h) f18_34 rfl ?_
  refine y_ic (pcT := 43) (pc' := 39) (P := l2 ≠ (zV h (a + 2) (l1).toNat)) f18_36 rfl rfl rfl (fun c => ?_) (fun c => ?_)
  · replace k := k.1 c
    refine y_s (pc' := 44) (L' := [some (vR (some a)), some (vI l1), some (vI l2), some (vI (zw (s0 + s1))), some (vI (zV h (a + 2) (l1).toNat)), none]) (st' := [vI (zw (s0 + s1))]) (h' := h) f18_43 rfl ?_
    refine y_sto (pc' := 46) (k := 5) (L' := [some (vR (some a)), some (vI l1), some (vI l2), some (vI (zw (s0 + s1))), some (vI (zV h (a + 2) (l1).toNat)), some (vI (zw (s0 + s1)))]) f18_44 rfl rfl rfl rfl rfl rfl ?_
    refine y_s (pc' := 47) (L' := [some (vR (some a)), some (vI l1), some (vI l2), some (vI (zw (s0 + s1))), some (vI (zV h (a + 2) (l1).toNat)), some (vI (zw (s0 + s1)))]) (st' := [vR (some a)]) (h' := h) f18_46 rfl ?_
    refine y_gr (pc' := 50) f18_47 yf_2_9 rfl rfl (ysH0 w ha) (ypH0 w ha) rfl ?_
    refine y_s (pc' := 51) (L' := [some (vR (some a)), some (vI l1), some (vI l2), some (vI (zw (s0 + s1))), some (vI (zV h (a + 2) (l1).toNat)), some (vI (zw (s0 + s1)))]) (st' := [vI l1, vR (some (a + 1))]) (h' := h) f18_50 rfl ?_
    refine y_ia (pc' := 52) (x := (zV h (a + 1) (l1).toNat)) f18_51 (ysH1 w ha) k.1 rfl rfl ?_
    replace k := k.2
    by_cases c : (zV h (a + 1) (l1).toNat) = 1
    · refine y_tc (pc' := 92) (v := 1) f18_52 c rfl rfl rfl ?_
      replace k := k.1 c
      refine y_s (pc' := 93) (L' := [some (vR (some a)), some (vI l1), some (vI l2), some (vI (zw (s0 + s1))), some (vI (zV h (a + 2) (l1).toNat)), some (vI (zw (s0 + s1)))]) (st' := [vI (zw (s0 + s1))]) (h' := h) f18_92 rfl ?_
      refine y_s (pc' := 95) (L' := [some (vR (some a)), some (vI l1), some (vI l2), some (vI (zw (s0 + s1))), some (vI (zV h (a + 2) (l1).toNat)), some (vI (zw (s0 + s1)))]) (st' := [vI (zV h (a + 2) (l1).toNat), vI (zw (s0 + s1))]) (h' := h) f18_93 rfl ?_
      refine y_s (pc' := 96) (L' := [some (vR (some a)), some (vI l1), some (vI l2), some (vI (zw (s0 + s1))), some (vI (zV h (a + 2) (l1).toNat)), some (vI (zw (s0 + s1)))]) (st' := [vI (zw ((zw (s0 + s1)) + (zV h (a + 2) (l1).toNat)))]) (h' := h) f18_95 rfl ?_
      exact y_ri f18_96 ⟨rfl, k⟩
    replace k := k.2
    have c0 := c
    by_cases c : (zV h (a + 1) (l1).toNat) = 2
    · refine y_tc (pc' := 97) (v := 2) f18_52 c rfl rfl rfl ?_
      replace k := k.1 c
      refine y_s (pc' := 98) (L' := [some (vR (some a)), some (vI l1), some (vI l2), some (vI (zw (s0 + s1))), some (vI (zV h (a + 2) (l1).toNat)), some (vI (zw (s0 + s1)))]) (st' := [vI (zw (s0 + s1))]) (h' := h) f18_97 rfl ?_
      refine y_s (pc' := 99) (L' := [some (vR (some a)), some (vI l1), some (vI l2), some (vI (zw (s0 + s1))), some (vI (zV h (a + 2) (l1).toNat)), some (vI (zw (s0 + s1)))]) (st' := [vI 2, vI (zw (s0 + s1))]) (h' := h) f18_98 rfl ?_
      refine y_dv (pc' := 100) f18_99 (by decide) rfl ?_
      exact y_ri f18_100 ⟨rfl, k⟩
    replace k := k.2
    have c1 := c
    by_cases c : (zV h (a + 1) (l1).toNat) = 3
    · refine y_tc (pc' := 101) (v := 3) f18_52 c rfl rfl rfl ?_
      replace k := k.1 c
      refine y_s (pc' := 103) (L' := [some (vR (some a)), some (vI l1), some (vI l2), some (vI (zw (s0 + s1))), some (vI (zV h (a + 2) (l1).toNat)), some (vI (zw (s0 + s1)))]) (st' := [vI (zw (s0 + s1))]) (h' := h) f18_101 rfl ?_
      exact y_ri f18_103 ⟨rfl, k⟩
    replace k := k.2
    have c2 := c
    by_cases c : (zV h (a + 1) (l1).toNat) = 4
    · refine y_tc (pc' := 104) (v := 4) f18_52 c rfl rfl rfl ?_
      replace k := k.1 c
      refine y_s (pc' := 105) (L' := [some (vR (some a)), some (vI l1), some (vI l2), some (vI (zw (s0 + s1))), some (vI (zV h (a + 2) (l1).toNat)), some (vI (zw (s0 + s1)))]) (st' := [vI l2]) (h' := h) f18_104 rfl ?_
      refine y_s (pc' := 106) (L' := [some (vR (some a)), some (vI l1), some (vI l2), some (vI (zw (s0 + s1))), some (vI (zV h (a + 2) (l1).toNat)), some (vI (zw (s0 + s1)))]) (st' := [vI 2, vI l2]) (h' := h) f18_105 rfl ?_
      refine y_rm (pc' := 107) f18_106 (by decide) rfl ?_
      refine y_s (pc' := 108) (L' := [some (vR (some a)), some (vI l1), some (vI l2), some (vI (zw (s0 + s1))), some (vI (zV h (a + 2) (l1).toNat)), some (vI (zw (s0 + s1)))]) (st' := [vI 1, vI (zrem l2 2)]) (h' := h) f18_107 rfl ?_
      refine y_ic (pcT := 120) (pc' := 111) (P := (zrem l2 2) ≠ 1) f18_108 rfl rfl rfl (fun c => ?_) (fun c => ?_)
      · replace k := k.1 c
        refine y_s (pc' := 121) (L' := [some (vR (some a)), some (vI l1), some (vI l2), some (vI (zw (s0 + s1))), some (vI (zV h (a + 2) (l1).toNat)), some (vI (zw (s0 + s1)))]) (st' := [vI (zw (s0 + s1))]) (h' := h) f18_120 rfl ?_
        refine y_s (pc' := 123) (L' := [some (vR (some a)), some (vI l1), some (vI l2), some (vI (zw (s0 + s1))), some (vI (zV h (a + 2) (l1).toNat)), some (vI (zw (s0 + s1)))]) (st' := [vI (zV h (a + 2) (l1).toNat), vI (zw (s0 + s1))]) (h' := h) f18_121 rfl ?_
        refine y_s (pc' := 124) (L' := [some (vR (some a)), some (vI l1), some (vI l2), some (vI (zw (s0 + s1))), some (vI (zV h (a + 2) (l1).toNat)), some (vI (zw (s0 + s1)))]) (st' := [vI (zw ((zw (s0 + s1)) + (zV h (a + 2) (l1).toNat)))]) (h' := h) f18_123 rfl ?_
        exact y_ri f18_124 ⟨rfl, k⟩
      · replace k := k.2 c
        refine y_s (pc' := 112) (L' := [some (vR (some a)), some (vI l1), some (vI l2), some (vI (zw (s0 + s1))), some (vI (zV h (a + 2) (l1).toNat)), some (vI (zw (s0 + s1)))]) (st' := [vI 2]) (h' := h) f18_111 rfl ?_
        refine y_s (pc' := 113) (L' := [some (vR (some a)), some (vI l1), some (vI l2), some (vI (zw (s0 + s1))), some (vI (zV h (a + 2) (l1).toNat)), some (vI (zw (s0 + s1)))]) (st' := [vI (zw (s0 + s1)), vI 2]) (h' := h) f18_112 rfl ?_
        refine y_s (pc' := 115) (L' := [some (vR (some a)), some (vI l1), some (vI l2), some (vI (zw (s0 + s1))), some (vI (zV h (a + 2) (l1).toNat)), some (vI (zw (s0 + s1)))]) (st' := [vI (zV h (a + 2) (l1).toNat), vI (zw (s0 + s1)), vI 2]) (h' := h) f18_113 rfl ?_
        refine y_s (pc' := 116) (L' := [some (vR (some a)), some (vI l1), some (vI l2), some (vI (zw (s0 + s1))), some (vI (zV h (a + 2) (l1).toNat)), some (vI (zw (s0 + s1)))]) (st' := [vI (zw ((zw (s0 + s1)) + (zV h (a + 2) (l1).toNat))), vI 2]) (h' := h) f18_115 rfl ?_
        refine y_s (pc' := 117) (L' := [some (vR (some a)), some (vI l1), some (vI l2), some (vI (zw (s0 + s1))), some (vI (zV h (a + 2) (l1).toNat)), some (vI (zw (s0 + s1)))]) (st' := [vI (zw (2 * (zw ((zw (s0 + s1)) + (zV h (a + 2) (l1).toNat)))))]) (h' := h) f18_116 rfl ?_
        refine y_go (pc' := 124) f18_117 rfl ?_
        exact y_ri f18_124 ⟨rfl, k⟩
    replace k := k.2
    have c3 := c
    by_cases c : (zV h (a + 1) (l1).toNat) = 5
    · refine y_tc (pc' := 125) (v := 5) f18_52 c rfl rfl rfl ?_
      replace k := k.1 c
      refine y_s (pc' := 126) (L' := [some (vR (some a)), some (vI l1), some (vI l2), some (vI (zw (s0 + s1))), some (vI (zV h (a + 2) (l1).toNat)), some (vI (zw (s0 + s1)))]) (st' := [vI (zw (s0 + s1))]) (h' := h) f18_125 rfl ?_
      refine y_s (pc' := 127) (L' := [some (vR (some a)), some (vI l1), some (vI l2), some (vI (zw (s0 + s1))), some (vI (zV h (a + 2) (l1).toNat)), some (vI (zw (s0 + s1)))]) (st' := [vI 2, vI (zw (s0 + s1))]) (h' := h) f18_126 rfl ?_
      refine y_dv (pc' := 128) f18_127 (by decide) rfl ?_
      refine y_s (pc' := 129) (L' := [some (vR (some a)), some (vI l1), some (vI l2), some (vI (zw (s0 + s1))), some (vI (zV h (a + 2) (l1).toNat)), some (vI (zw (s0 + s1)))]) (st' := [vR (some a), vI (zdiv (zw (s0 + s1)) 2)]) (h' := h) f18_128 rfl ?_
      refine y_gr (pc' := 132) f18_129 yf_2_18 rfl rfl (ysH0 w ha) (ypH2 w ha) rfl ?_
      refine y_s (pc' := 133) (L' := [some (vR (some a)), some (vI l1), some (vI l2), some (vI (zw (s0 + s1))), some (vI (zV h (a + 2) (l1).toNat)), some (vI (zw (s0 + s1)))]) (st' := [vI l1, vR (some (a + 3)), vI (zdiv (zw (s0 + s1)) 2)]) (h' := h) f18_132 rfl ?_
      refine y_ia (pc' := 134) (x := (zV h (a + 3) (l1).toNat)) f18_133 (ysH3 w ha) k.1 rfl rfl ?_
      replace k := k.2
      refine y_s (pc' := 136) (L' := [some (vR (some a)), some (vI l1), some (vI l2), some (vI (zw (s0 + s1))), some (vI (zV h (a + 2) (l1).toNat)), some (vI (zw (s0 + s1)))]) (st' := [vI 9, vI (zV h (a + 3) (l1).toNat), vI (zdiv (zw (s0 + s1)) 2)]) (h' := h) f18_134 rfl ?_
      refine y_mn (pc' := 139) f18_136 ym_2_93 (by omega) rfl rfl ?_
      refine y_s (pc' := 140) (L' := [some (vR (some a)), some (vI l1), some (vI l2), some (vI (zw (s0 + s1))), some (vI (zV h (a + 2) (l1).toNat)), some (vI (zw (s0 + s1)))]) (st' := [vI (zw ((zdiv (zw (s0 + s1)) 2) + (ymin (zV h (a + 3) (l1).toNat) 9)))]) (h' := h) f18_139 rfl ?_
      exact y_ri f18_140 ⟨rfl, k⟩
    replace k := k.2
    have c4 := c
    by_cases c : (zV h (a + 1) (l1).toNat) = 6
    · refine y_tc (pc' := 141) (v := 6) f18_52 c rfl rfl rfl ?_
      replace k := k.1 c
      refine y_s (pc' := 143) (L' := [some (vR (some a)), some (vI l1), some (vI l2), some (vI (zw (s0 + s1))), some (vI (zV h (a + 2) (l1).toNat)), some (vI (zw (s0 + s1)))]) (st' := [vI (zw (s0 + s1))]) (h' := h) f18_141 rfl ?_
      refine y_s (pc' := 144) (L' := [some (vR (some a)), some (vI l1), some (vI l2), some (vI (zw (s0 + s1))), some (vI (zV h (a + 2) (l1).toNat)), some (vI (zw (s0 + s1)))]) (st' := [vR (some a), vI (zw (s0 + s1))]) (h' := h) f18_143 rfl ?_
      refine y_gr (pc' := 147) f18_144 yf_2_24 rfl rfl (ysH0 w ha) (ypH4 w ha) rfl ?_
      refine y_s (pc' := 148) (L' := [some (vR (some a)), some (vI l1), some (vI l2), some (vI (zw (s0 + s1))), some (vI (zV h (a + 2) (l1).toNat)), some (vI (zw (s0 + s1)))]) (st' := [vI l1, vR (some (a + 5)), vI (zw (s0 + s1))]) (h' := h) f18_147 rfl ?_
      refine y_s (pc' := 149) (L' := [some (vR (some a)), some (vI l1), some (vI l2), some (vI (zw (s0 + s1))), some (vI (zV h (a + 2) (l1).toNat)), some (vI (zw (s0 + s1)))]) (st' := [vI 4, vI l1, vR (some (a + 5)), vI (zw (s0 + s1))]) (h' := h) f18_148 rfl ?_
      refine y_s (pc' := 150) (L' := [some (vR (some a)), some (vI l1), some (vI l2), some (vI (zw (s0 + s1))), some (vI (zV h (a + 2) (l1).toNat)), some (vI (zw (s0 + s1)))]) (st' := [vI (zw (l1 * 4)), vR (some (a + 5)), vI (zw (s0 + s1))]) (h' := h) f18_149 rfl ?_
      refine y_s (pc' := 151) (L' := [some (vR (some a)), some (vI l1), some (vI l2), some (vI (zw (s0 + s1))), some (vI (zV h (a + 2) (l1).toNat)), some (vI (zw (s0 + s1)))]) (st' := [vR (some a), vI (zw (l1 * 4)), vR (some (a + 5)), vI (zw (s0 + s1))]) (h' := h) f18_150 rfl ?_
      refine y_gi (pc' := 154) f18_151 yf_2_69 rfl rfl (ysH0 w ha) rfl ?_
      refine y_s (pc' := 155) (L' := [some (vR (some a)), some (vI l1), some (vI l2), some (vI (zw (s0 + s1))), some (vI (zV h (a + 2) (l1).toNat)), some (vI (zw (s0 + s1)))]) (st' := [vI 4, vI (zV h a 11), vI (zw (l1 * 4)), vR (some (a + 5)), vI (zw (s0 + s1))]) (h' := h) f18_154 rfl ?_
      refine y_rm (pc' := 156) f18_155 (by decide) rfl ?_
      refine y_s (pc' := 157) (L' := [some (vR (some a)), some (vI l1), some (vI l2), some (vI (zw (s0 + s1))), some (vI (zV h (a + 2) (l1).toNat)), some (vI (zw (s0 + s1)))]) (st' := [vI (zw ((zw (l1 * 4)) + (zrem (zV h a 11) 4))), vR (some (a + 5)), vI (zw (s0 + s1))]) (h' := h) f18_156 rfl ?_
      refine y_ia (pc' := 158) (x := (zV h (a + 5) ((zw ((zw (l1 * 4)) + (zrem (zV h a 11) 4)))).toNat)) f18_157 (ysH5 w ha) k.1 rfl rfl ?_
      replace k := k.2
      refine y_s (pc' := 159) (L' := [some (vR (some a)), some (vI l1), some (vI l2), some (vI (zw (s0 + s1))), some (vI (zV h (a + 2) (l1).toNat)), some (vI (zw (s0 + s1)))]) (st' := [vI (zw ((zw (s0 + s1)) + (zV h (a + 5) ((zw ((zw (l1 * 4)) + (zrem (zV h a 11) 4)))).toNat)))]) (h' := h) f18_158 rfl ?_
      exact y_ri f18_159 ⟨rfl, k⟩
    replace k := k.2
    have c5 := c
    have cc : (zV h (a + 1) (l1).toNat) < 1 ∨ 6 < (zV h (a + 1) (l1).toNat) := by omega
    refine y_td (pc' := 160) f18_52 cc rfl ?_
    replace k := k cc
    refine y_s (pc' := 161) (L' := [some (vR (some a)), some (vI l1), some (vI l2), some (vI (zw (s0 + s1))), some (vI (zV h (a + 2) (l1).toNat)), some (vI (zw (s0 + s1)))]) (st' := [vI (zw (s0 + s1))]) (h' := h) f18_160 rfl ?_
    exact y_ri f18_161 ⟨rfl, k⟩
  · replace k := k.2 c
    refine y_s (pc' := 40) (L' := [some (vR (some a)), some (vI l1), some (vI l2), some (vI (zw (s0 + s1))), some (vI (zV h (a + 2) (l1).toNat)), none]) (st' := [vI 0]) (h' := h) f18_39 rfl ?_
    refine y_go (pc' := 44) f18_40 rfl ?_
    refine y_sto (pc' := 46) (k := 5) (L' := [some (vR (some a)), some (vI l1), some (vI l2), some (vI (zw (s0 + s1))), some (vI (zV h (a + 2) (l1).toNat)), some (vI 0)]) f18_44 rfl rfl rfl rfl rfl rfl ?_
    refine y_s (pc' := 47) (L' := [some (vR (some a)), some (vI l1), some (vI l2), some (vI (zw (s0 + s1))), some (vI (zV h (a + 2) (l1).toNat)), some (vI 0)]) (st' := [vR (some a)]) (h' := h) f18_46 rfl ?_
    refine y_gr (pc' := 50) f18_47 yf_2_9 rfl rfl (ysH0 w ha) (ypH0 w ha) rfl ?_
    refine y_s (pc' := 51) (L' := [some (vR (some a)), some (vI l1), some (vI l2), some (vI (zw (s0 + s1))), some (vI (zV h (a + 2) (l1).toNat)), some (vI 0)]) (st' := [vI l1, vR (some (a + 1))]) (h' := h) f18_50 rfl ?_
    refine y_ia (pc' := 52) (x := (zV h (a + 1) (l1).toNat)) f18_51 (ysH1 w ha) k.1 rfl rfl ?_
    replace k := k.2
    by_cases c : (zV h (a + 1) (l1).toNat) = 1
    · refine y_tc (pc' := 92) (v := 1) f18_52 c rfl rfl rfl ?_
      replace k := k.1 c
      refine y_s (pc' := 93) (L' := [some (vR (some a)), some (vI l1), some (vI l2), some (vI (zw (s0 + s1))), some (vI (zV h (a + 2) (l1).toNat)), some (vI 0)]) (st' := [vI (zw (s0 + s1))]) (h' := h) f18_92 rfl ?_
      refine y_s (pc' := 95) (L' := [some (vR (some a)), some (vI l1), some (vI l2), some (vI (zw (s0 + s1))), some (vI (zV h (a + 2) (l1).toNat)), some (vI 0)]) (st' := [vI (zV h (a + 2) (l1).toNat), vI (zw (s0 + s1))]) (h' := h) f18_93 rfl ?_
      refine y_s (pc' := 96) (L' := [some (vR (some a)), some (vI l1), some (vI l2), some (vI (zw (s0 + s1))), some (vI (zV h (a + 2) (l1).toNat)), some (vI 0)]) (st' := [vI (zw ((zw (s0 + s1)) + (zV h (a + 2) (l1).toNat)))]) (h' := h) f18_95 rfl ?_
      exact y_ri f18_96 ⟨rfl, k⟩
    replace k := k.2
    have c0 := c
    by_cases c : (zV h (a + 1) (l1).toNat) = 2
    · refine y_tc (pc' := 97) (v := 2) f18_52 c rfl rfl rfl ?_
      replace k := k.1 c
      refine y_s (pc' := 98) (L' := [some (vR (some a)), some (vI l1), some (vI l2), some (vI (zw (s0 + s1))), some (vI (zV h (a + 2) (l1).toNat)), some (vI 0)]) (st' := [vI (zw (s0 + s1))]) (h' := h) f18_97 rfl ?_
      refine y_s (pc' := 99) (L' := [some (vR (some a)), some (vI l1), some (vI l2), some (vI (zw (s0 + s1))), some (vI (zV h (a + 2) (l1).toNat)), some (vI 0)]) (st' := [vI 2, vI (zw (s0 + s1))]) (h' := h) f18_98 rfl ?_
      refine y_dv (pc' := 100) f18_99 (by decide) rfl ?_
      exact y_ri f18_100 ⟨rfl, k⟩
    replace k := k.2
    have c1 := c
    by_cases c : (zV h (a + 1) (l1).toNat) = 3
    · refine y_tc (pc' := 101) (v := 3) f18_52 c rfl rfl rfl ?_
      replace k := k.1 c
      refine y_s (pc' := 103) (L' := [some (vR (some a)), some (vI l1), some (vI l2), some (vI (zw (s0 + s1))), some (vI (zV h (a + 2) (l1).toNat)), some (vI 0)]) (st' := [vI 0]) (h' := h) f18_101 rfl ?_
      exact y_ri f18_103 ⟨rfl, k⟩
    replace k := k.2
    have c2 := c
    by_cases c : (zV h (a + 1) (l1).toNat) = 4
    · refine y_tc (pc' := 104) (v := 4) f18_52 c rfl rfl rfl ?_
      replace k := k.1 c
      refine y_s (pc' := 105) (L' := [some (vR (some a)), some (vI l1), some (vI l2), some (vI (zw (s0 + s1))), some (vI (zV h (a + 2) (l1).toNat)), some (vI 0)]) (st' := [vI l2]) (h' := h) f18_104 rfl ?_
      refine y_s (pc' := 106) (L' := [some (vR (some a)), some (vI l1), some (vI l2), some (vI (zw (s0 + s1))), some (vI (zV h (a + 2) (l1).toNat)), some (vI 0)]) (st' := [vI 2, vI l2]) (h' := h) f18_105 rfl ?_
      refine y_rm (pc' := 107) f18_106 (by decide) rfl ?_
      refine y_s (pc' := 108) (L' := [some (vR (some a)), some (vI l1), some (vI l2), some (vI (zw (s0 + s1))), some (vI (zV h (a + 2) (l1).toNat)), some (vI 0)]) (st' := [vI 1, vI (zrem l2 2)]) (h' := h) f18_107 rfl ?_
      refine y_ic (pcT := 120) (pc' := 111) (P := (zrem l2 2) ≠ 1) f18_108 rfl rfl rfl (fun c => ?_) (fun c => ?_)
      · replace k := k.1 c
        refine y_s (pc' := 121) (L' := [some (vR (some a)), some (vI l1), some (vI l2), some (vI (zw (s0 + s1))), some (vI (zV h (a + 2) (l1).toNat)), some (vI 0)]) (st' := [vI (zw (s0 + s1))]) (h' := h) f18_120 rfl ?_
        refine y_s (pc' := 123) (L' := [some (vR (some a)), some (vI l1), some (vI l2), some (vI (zw (s0 + s1))), some (vI (zV h (a + 2) (l1).toNat)), some (vI 0)]) (st' := [vI (zV h (a + 2) (l1).toNat), vI (zw (s0 + s1))]) (h' := h) f18_121 rfl ?_
        refine y_s (pc' := 124) (L' := [some (vR (some a)), some (vI l1), some (vI l2), some (vI (zw (s0 + s1))), some (vI (zV h (a + 2) (l1).toNat)), some (vI 0)]) (st' := [vI (zw ((zw (s0 + s1)) + (zV h (a + 2) (l1).toNat)))]) (h' := h) f18_123 rfl ?_
        exact y_ri f18_124 ⟨rfl, k⟩
      · replace k := k.2 c
        refine y_s (pc' := 112) (L' := [some (vR (some a)), some (vI l1), some (vI l2), some (vI (zw (s0 + s1))), some (vI (zV h (a + 2) (l1).toNat)), some (vI 0)]) (st' := [vI 2]) (h' := h) f18_111 rfl ?_
        refine y_s (pc' := 113) (L' := [some (vR (some a)), some (vI l1), some (vI l2), some (vI (zw (s0 + s1))), some (vI (zV h (a + 2) (l1).toNat)), some (vI 0)]) (st' := [vI (zw (s0 + s1)), vI 2]) (h' := h) f18_112 rfl ?_
        refine y_s (pc' := 115) (L' := [some (vR (some a)), some (vI l1), some (vI l2), some (vI (zw (s0 + s1))), some (vI (zV h (a + 2) (l1).toNat)), some (vI 0)]) (st' := [vI (zV h (a + 2) (l1).toNat), vI (zw (s0 + s1)), vI 2]) (h' := h) f18_113 rfl ?_
        refine y_s (pc' := 116) (L' := [some (vR (some a)), some (vI l1), some (vI l2), some (vI (zw (s0 + s1))), some (vI (zV h (a + 2) (l1).toNat)), some (vI 0)]) (st' := [vI (zw ((zw (s0 + s1)) + (zV h (a + 2) (l1).toNat))), vI 2]) (h' := h) f18_115 rfl ?_
        refine y_s (pc' := 117) (L' := [some (vR (some a)), some (vI l1), some (vI l2), some (vI (zw (s0 + s1))), some (vI (zV h (a + 2) (l1).toNat)), some (vI 0)]) (st' := [vI (zw (2 * (zw ((zw (s0 + s1)) + (zV h (a + 2) (l1).toNat)))))]) (h' := h) f18_116 rfl ?_
        refine y_go (pc' := 124) f18_117 rfl ?_
        exact y_ri f18_124 ⟨rfl, k⟩
    replace k := k.2
    have c3 := c
    by_cases c : (zV h (a + 1) (l1).toNat) = 5
    · refine y_tc (pc' := 125) (v := 5) f18_52 c rfl rfl rfl ?_
      replace k := k.1 c
      refine y_s (pc' := 126) (L' := [some (vR (some a)), some (vI l1), some (vI l2), some (vI (zw (s0 + s1))), some (vI (zV h (a + 2) (l1).toNat)), some (vI 0)]) (st' := [vI (zw (s0 + s1))]) (h' := h) f18_125 rfl ?_
      refine y_s (pc' := 127) (L' := [some (vR (some a)), some (vI l1), some (vI l2), some (vI (zw (s0 + s1))), some (vI (zV h (a + 2) (l1).toNat)), some (vI 0)]) (st' := [vI 2, vI (zw (s0 + s1))]) (h' := h) f18_126 rfl ?_
      refine y_dv (pc' := 128) f18_127 (by decide) rfl ?_
      refine y_s (pc' := 129) (L' := [some (vR (some a)), some (vI l1), some (vI l2), some (vI (zw (s0 + s1))), some (vI (zV h (a + 2) (l1).toNat)), some (vI 0)]) (st' := [vR (some a), vI (zdiv (zw (s0 + s1)) 2)]) (h' := h) f18_128 rfl ?_
      refine y_gr (pc' := 132) f18_129 yf_2_18 rfl rfl (ysH0 w ha) (ypH2 w ha) rfl ?_
      refine y_s (pc' := 133) (L' := [some (vR (some a)), some (vI l1), some (vI l2), some (vI (zw (s0 + s1))), some (vI (zV h (a + 2) (l1).toNat)), some (vI 0)]) (st' := [vI l1, vR (some (a + 3)), vI (zdiv (zw (s0 + s1)) 2)]) (h' := h) f18_132 rfl ?_
      refine y_ia (pc' := 134) (x := (zV h (a + 3) (l1).toNat)) f18_133 (ysH3 w ha) k.1 rfl rfl ?_
      replace k := k.2
      refine y_s (pc' := 136) (L' := [some (vR (some a)), some (vI l1), some (vI l2), some (vI (zw (s0 + s1))), some (vI (zV h (a + 2) (l1).toNat)), some (vI 0)]) (st' := [vI 9, vI (zV h (a + 3) (l1).toNat), vI (zdiv (zw (s0 + s1)) 2)]) (h' := h) f18_134 rfl ?_
      refine y_mn (pc' := 139) f18_136 ym_2_93 (by omega) rfl rfl ?_
      refine y_s (pc' := 140) (L' := [some (vR (some a)), some (vI l1), some (vI l2), some (vI (zw (s0 + s1))), some (vI (zV h (a + 2) (l1).toNat)), some (vI 0)]) (st' := [vI (zw ((zdiv (zw (s0 + s1)) 2) + (ymin (zV h (a + 3) (l1).toNat) 9)))]) (h' := h) f18_139 rfl ?_
      exact y_ri f18_140 ⟨rfl, k⟩
    replace k := k.2
    have c4 := c
    by_cases c : (zV h (a + 1) (l1).toNat) = 6
    · refine y_tc (pc' := 141) (v := 6) f18_52 c rfl rfl rfl ?_
      replace k := k.1 c
      refine y_s (pc' := 143) (L' := [some (vR (some a)), some (vI l1), some (vI l2), some (vI (zw (s0 + s1))), some (vI (zV h (a + 2) (l1).toNat)), some (vI 0)]) (st' := [vI 0]) (h' := h) f18_141 rfl ?_
      refine y_s (pc' := 144) (L' := [some (vR (some a)), some (vI l1), some (vI l2), some (vI (zw (s0 + s1))), some (vI (zV h (a + 2) (l1).toNat)), some (vI 0)]) (st' := [vR (some a), vI 0]) (h' := h) f18_143 rfl ?_
      refine y_gr (pc' := 147) f18_144 yf_2_24 rfl rfl (ysH0 w ha) (ypH4 w ha) rfl ?_
      refine y_s (pc' := 148) (L' := [some (vR (some a)), some (vI l1), some (vI l2), some (vI (zw (s0 + s1))), some (vI (zV h (a + 2) (l1).toNat)), some (vI 0)]) (st' := [vI l1, vR (some (a + 5)), vI 0]) (h' := h) f18_147 rfl ?_
      refine y_s (pc' := 149) (L' := [some (vR (some a)), some (vI l1), some (vI l2), some (vI (zw (s0 + s1))), some (vI (zV h (a + 2) (l1).toNat)), some (vI 0)]) (st' := [vI 4, vI l1, vR (some (a + 5)), vI 0]) (h' := h) f18_148 rfl ?_
      refine y_s (pc' := 150) (L' := [some (vR (some a)), some (vI l1), some (vI l2), some (vI (zw (s0 + s1))), some (vI (zV h (a + 2) (l1).toNat)), some (vI 0)]) (st' := [vI (zw (l1 * 4)), vR (some (a + 5)), vI 0]) (h' := h) f18_149 rfl ?_
      refine y_s (pc' := 151) (L' := [some (vR (some a)), some (vI l1), some (vI l2), some (vI (zw (s0 + s1))), some (vI (zV h (a + 2) (l1).toNat)), some (vI 0)]) (st' := [vR (some a), vI (zw (l1 * 4)), vR (some (a + 5)), vI 0]) (h' := h) f18_150 rfl ?_
      refine y_gi (pc' := 154) f18_151 yf_2_69 rfl rfl (ysH0 w ha) rfl ?_
      refine y_s (pc' := 155) (L' := [some (vR (some a)), some (vI l1), some (vI l2), some (vI (zw (s0 + s1))), some (vI (zV h (a + 2) (l1).toNat)), some (vI 0)]) (st' := [vI 4, vI (zV h a 11), vI (zw (l1 * 4)), vR (some (a + 5)), vI 0]) (h' := h) f18_154 rfl ?_
      refine y_rm (pc' := 156) f18_155 (by decide) rfl ?_
      refine y_s (pc' := 157) (L' := [some (vR (some a)), some (vI l1), some (vI l2), some (vI (zw (s0 + s1))), some (vI (zV h (a + 2) (l1).toNat)), some (vI 0)]) (st' := [vI (zw ((zw (l1 * 4)) + (zrem (zV h a 11) 4))), vR (some (a + 5)), vI 0]) (h' := h) f18_156 rfl ?_
      refine y_ia (pc' := 158) (x := (zV h (a + 5) ((zw ((zw (l1 * 4)) + (zrem (zV h a 11) 4)))).toNat)) f18_157 (ysH5 w ha) k.1 rfl rfl ?_
      replace k := k.2
      refine y_s (pc' := 159) (L' := [some (vR (some a)), some (vI l1), some (vI l2), some (vI (zw (s0 + s1))), some (vI (zV h (a + 2) (l1).toNat)), some (vI 0)]) (st' := [vI (zw (0 + (zV h (a + 5) ((zw ((zw (l1 * 4)) + (zrem (zV h a 11) 4)))).toNat)))]) (h' := h) f18_158 rfl ?_
      exact y_ri f18_159 ⟨rfl, k⟩
    replace k := k.2
    have c5 := c
    have cc : (zV h (a + 1) (l1).toNat) < 1 ∨ 6 < (zV h (a + 1) (l1).toNat) := by omega
    refine y_td (pc' := 160) f18_52 cc rfl ?_
    replace k := k cc
    refine y_s (pc' := 161) (L' := [some (vR (some a)), some (vI l1), some (vI l2), some (vI (zw (s0 + s1))), some (vI (zV h (a + 2) (l1).toNat)), some (vI 0)]) (st' := [vI (zw (s0 + s1))]) (h' := h) f18_160 rfl ?_
    exact y_ri f18_161 ⟨rfl, k⟩
/-- HatterTunes$House.tuneAsNumber()I -/
theorem E25 {d : Nat} {K : Int → Hp → Prop} (w : yWF zl nl h) {a : Nat} (ha : yHs a) (k : ZW d prog_4_method_16_code 2 4 [some (vR (some a)), some (vI 0), some (vI 0)] [] h (yq 1 (yqI K))) : yI d 25 [vR (some a)] h K := by
  refine y_en (L := [some (vR (some a)), none, none]) rfl rfl ?_
  refine y_s (pc' := 1) (L' := [some (vR (some a)), none, none]) (st' := [vI 0]) (h' := h) f25_0 rfl ?_
  refine y_sto (pc' := 2) (k := 1) (L' := [some (vR (some a)), some (vI 0), none]) f25_1 rfl rfl rfl rfl rfl rfl ?_
  refine y_s (pc' := 3) (L' := [some (vR (some a)), some (vI 0), none]) (st' := [vI 0]) (h' := h) f25_2 rfl ?_
  refine y_sto (pc' := 4) (k := 2) (L' := [some (vR (some a)), some (vI 0), some (vI 0)]) f25_3 rfl rfl rfl rfl rfl rfl ?_
  exact k
theorem W25_4 {d : Nat} {K : Int → Hp → Prop} (w : yWF zl nl h) {a : Nat} (ha : yHs a) {l1 : Int} {l2 : Int} (hd : 1 ≤ d) (k : (((zV h ((a + 7)) 1) ≤ l2 → K l1 h) ∧ (¬ ((zV h ((a + 7)) 1) ≤ l2) → (((0 : Int) ≤ l2 ∧ (0 : Int) ≤ 0 ∧ 4 * l2 + 0 < (32 : Int)) ∧ ZW d prog_4_method_16_code 2 4 [some (vR (some a)), some (vI (zw ((zw (l1 * 10)) + (zV h (((a + 7)) + 1) (4 * l2 + 0).toNat)))), some (vI (zw (l2 + 1)))] [] h (yq 1 (yqI K)))))) : ZW d prog_4_method_16_code 2 4 [some (vR (some a)), some (vI l1), some (vI l2)] [] h (yq 1 (yqI K)) := by
  refine y_s (pc' := 5) (L' := [some (vR (some a)), some (vI l1), some (vI l2)]) (st' := [vI l2]) (h' := h) f25_4 rfl ?_
  refine y_s (pc' := 6) (L' := [some (vR (some a)), some (vI l1), some (vI l2)]) (st' := [vR (some a), vI l2]) (h' := h) f25_5 rfl ?_
  refine y_gr (pc' := 9) f25_6 yf_2_35 rfl rfl (ysH0 w ha) (ypH6 w ha) rfl ?_
  refine y_gi (pc' := 12) f25_9 yf_2_114 rfl rfl (ysR0 w (yR7 ha)) rfl ?_
  refine y_ic (pcT := 36) (pc' := 15) (P := (zV h ((a + 7)) 1) ≤ l2) f25_12 rfl rfl rfl (fun c => ?_) (fun c => ?_)
  · replace k := k.1 c
    refine y_s (pc' := 37) (L' := [some (vR (some a)), some (vI l1), some (vI l2)]) (st' := [vI l1]) (h' := h) f25_36 rfl ?_
    exact y_ri f25_37 ⟨rfl, k⟩
  · replace k := k.2 c
    refine y_s (pc' := 16) (L' := [some (vR (some a)), some (vI l1), some (vI l2)]) (st' := [vI l1]) (h' := h) f25_15 rfl ?_
    refine y_s (pc' := 18) (L' := [some (vR (some a)), some (vI l1), some (vI l2)]) (st' := [vI 10, vI l1]) (h' := h) f25_16 rfl ?_
    refine y_s (pc' := 19) (L' := [some (vR (some a)), some (vI l1), some (vI l2)]) (st' := [vI (zw (l1 * 10))]) (h' := h) f25_18 rfl ?_
    refine y_s (pc' := 20) (L' := [some (vR (some a)), some (vI l1), some (vI l2)]) (st' := [vR (some a), vI (zw (l1 * 10))]) (h' := h) f25_19 rfl ?_
    refine y_gr (pc' := 23) f25_20 yf_2_35 rfl rfl (ysH0 w ha) (ypH6 w ha) rfl ?_
    refine y_s (pc' := 24) (L' := [some (vR (some a)), some (vI l1), some (vI l2)]) (st' := [vI l2, vR (some ((a + 7))), vI (zw (l1 * 10))]) (h' := h) f25_23 rfl ?_
    refine y_s (pc' := 25) (L' := [some (vR (some a)), some (vI l1), some (vI l2)]) (st' := [vI 0, vI l2, vR (some ((a + 7))), vI (zw (l1 * 10))]) (h' := h) f25_24 rfl ?_
    refine y_cI (pc' := 28) (as := [vR (some ((a + 7))), vI l2, vI 0]) (r := [vI (zw (l1 * 10))]) f25_25 (yzv ym_2_126 rfl (ysR0 w (yR7 ha)) rfl rfl) (by omega) rfl ?_
    have p0 := k.1
    replace k := k.2
    refine sp26 w (yR7 ha) p0 ?_
    refine y_s (pc' := 29) (L' := [some (vR (some a)), some (vI l1), some (vI l2)]) (st' := [vI (zw ((zw (l1 * 10)) + (zV h (((a + 7)) + 1) (4 * l2 + 0).toNat)))]) (h' := h) f25_28 rfl ?_
    refine y_sto (pc' := 30) (k := 1) (L' := [some (vR (some a)), some (vI (zw ((zw (l1 * 10)) + (zV h (((a + 7)) + 1) (4 * l2 + 0).toNat)))), some (vI l2)]) f25_29 rfl rfl rfl rfl rfl rfl ?_
    refine y_inc (pc' := 33) (L' := [some (vR (some a)), some (vI (zw ((zw (l1 * 10)) + (zV h (((a + 7)) + 1) (4 * l2 + 0).toNat)))), some (vI (zw (l2 + 1)))]) f25_30 rfl rfl rfl rfl ?_
    refine y_go (pc' := 4) f25_33 rfl ?_
    exact k
/-- HatterTunes.isUnder(II)Z -/
theorem E116 {d : Nat} {K : Int → Hp → Prop} (w : yWF zl nl h) {x0 : Int} {x1 : Int} (k : ZW d prog_1_method_44_code 7 4 [some (vI x0), some (vI x1), some (vI x0), some (vI 0)] [] h (yq 2 (yqI K))) : yI d 116 [vI x0, vI x1] h K := by
  refine y_en (L := [some (vI x0), some (vI x1), none, none]) rfl rfl ?_
  refine y_s (pc' := 1) (L' := [some (vI x0), some (vI x1), none, none]) (st' := [vI x0]) (h' := h) f116_0 rfl ?_
  refine y_sto (pc' := 2) (k := 2) (L' := [some (vI x0), some (vI x1), some (vI x0), none]) f116_1 rfl rfl rfl rfl rfl rfl ?_
  refine y_s (pc' := 3) (L' := [some (vI x0), some (vI x1), some (vI x0), none]) (st' := [vI 0]) (h' := h) f116_2 rfl ?_
  refine y_sto (pc' := 4) (k := 3) (L' := [some (vI x0), some (vI x1), some (vI x0), some (vI 0)]) f116_3 rfl rfl rfl rfl rfl rfl ?_
  exact k
theorem W116_4 {d : Nat} {K : Int → Hp → Prop} (w : yWF zl nl h) {l0 : Int} {l1 : Int} {l2 : Int} {l3 : Int} (hd : 1 ≤ d) (k : ((7 ≤ l3 → K 0 h) ∧ (¬ (7 ≤ l3) → ((((0 : Int) ≤ l2 ∧ l2 < 7) → ((l2 ≠ l1 → ((0 ≤ l2 ∧ l2 < 7) ∧ ZW d prog_1_method_44_code 7 4 [some (vI l0), some (vI l1), some (vI (zV h 2 (l2).toNat)), some (vI (zw (l3 + 1)))] [] h (yq 2 (yqI K)))) ∧ (¬ (l2 ≠ l1) → K 1 h))) ∧ (¬ (((0 : Int) ≤ l2 ∧ l2 < 7)) → K 0 h))))) : ZW d prog_1_method_44_code 7 4 [some (vI l0), some (vI l1), some (vI l2), some (vI l3)] [] h (yq 2 (yqI K)) := by
  refine y_s (pc' := 5) (L' := [some (vI l0), some (vI l1), some (vI l2), some (vI l3)]) (st' := [vI l3]) (h' := h) f116_4 rfl ?_
  refine y_s (pc' := 7) (L' := [some (vI l0), some (vI l1), some (vI l2), some (vI l3)]) (st' := [vI 7, vI l3]) (h' := h) f116_5 rfl ?_
  refine y_ic (pcT := 38) (pc' := 10) (P := 7 ≤ l3) f116_7 rfl rfl rfl (fun c => ?_) (fun c => ?_)
  · replace k := k.1 c
    refine y_s (pc' := 39) (L' := [some (vI l0), some (vI l1), some (vI l2), some (vI l3)]) (st' := [vI 0]) (h' := h) f116_38 rfl ?_
    exact y_ri f116_39 ⟨rfl, k⟩
  · replace k := k.2 c
    refine y_s (pc' := 11) (L' := [some (vI l0), some (vI l1), some (vI l2), some (vI l3)]) (st' := [vI l2]) (h' := h) f116_10 rfl ?_
    refine y_s (pc' := 13) (L' := [some (vI l0), some (vI l1), some (vI l2), some (vI l3)]) (st' := [vI 7, vI l2]) (h' := h) f116_11 rfl ?_
    refine y_cI (pc' := 16) (as := [vI l2, vI 7]) (r := []) f116_13 rfl (by omega) rfl ?_
    refine sp10 w (fun c => ?_) (fun c => ?_)
    · replace k := k.1 c
      refine y_iff (pcT := 38) (pc' := 19) f116_16 rfl rfl rfl ?_
      refine y_s (pc' := 20) (L' := [some (vI l0), some (vI l1), some (vI l2), some (vI l3)]) (st' := [vI l2]) (h' := h) f116_19 rfl ?_
      refine y_s (pc' := 21) (L' := [some (vI l0), some (vI l1), some (vI l2), some (vI l3)]) (st' := [vI l1, vI l2]) (h' := h) f116_20 rfl ?_
      refine y_ic (pcT := 26) (pc' := 24) (P := l2 ≠ l1) f116_21 rfl rfl rfl (fun c => ?_) (fun c => ?_)
      · replace k := k.1 c
        refine y_s (pc' := 29) (L' := [some (vI l0), some (vI l1), some (vI l2), some (vI l3)]) (st' := [vR (some 2)]) (h' := h) f116_26 rfl ?_
        refine y_s (pc' := 30) (L' := [some (vI l0), some (vI l1), some (vI l2), some (vI l3)]) (st' := [vI l2, vR (some 2)]) (h' := h) f116_29 rfl ?_
        refine y_ia (pc' := 31) (x := (zV h 2 (l2).toNat)) f116_30 (ysb2 w) k.1 rfl rfl ?_
        replace k := k.2
        refine y_sto (pc' := 32) (k := 2) (L' := [some (vI l0), some (vI l1), some (vI (zV h 2 (l2).toNat)), some (vI l3)]) f116_31 rfl rfl rfl rfl rfl rfl ?_
        refine y_inc (pc' := 35) (L' := [some (vI l0), some (vI l1), some (vI (zV h 2 (l2).toNat)), some (vI (zw (l3 + 1)))]) f116_32 rfl rfl rfl rfl ?_
        refine y_go (pc' := 4) f116_35 rfl ?_
        exact k
      · replace k := k.2 c
        refine y_s (pc' := 25) (L' := [some (vI l0), some (vI l1), some (vI l2), some (vI l3)]) (st' := [vI 1]) (h' := h) f116_24 rfl ?_
        exact y_ri f116_25 ⟨rfl, k⟩
    · replace k := k.2 c
      refine y_ift (pcT := 38) f116_16 rfl rfl ?_
      refine y_s (pc' := 39) (L' := [some (vI l0), some (vI l1), some (vI l2), some (vI l3)]) (st' := [vI 0]) (h' := h) f116_38 rfl ?_
      exact y_ri f116_39 ⟨rfl, k⟩
/-- HatterTunes$Actor.bodyFrom(II)I -/
theorem E111 {d : Nat} {K : Int → Hp → Prop} (w : yWF zl nl h) {x0 : Int} {x1 : Int} (k : ZW d prog_2_method_6_code 0 4 [some (vI x0), some (vI x1), some (vI x0), some (vI 0), none] [] h (yq 1 (yqI K))) : yI d 111 [vI x0, vI x1] h K := by
  refine y_en (L := [some (vI x0), some (vI x1), none, none, none]) rfl rfl ?_
  refine y_s (pc' := 1) (L' := [some (vI x0), some (vI x1), none, none, none]) (st' := [vI x0]) (h' := h) f111_0 rfl ?_
  refine y_sto (pc' := 2) (k := 2) (L' := [some (vI x0), some (vI x1), some (vI x0), none, none]) f111_1 rfl rfl rfl rfl rfl rfl ?_
  refine y_s (pc' := 3) (L' := [some (vI x0), some (vI x1), some (vI x0), none, none]) (st' := [vI 0]) (h' := h) f111_2 rfl ?_
  refine y_sto (pc' := 4) (k := 3) (L' := [some (vI x0), some (vI x1), some (vI x0), some (vI 0), none]) f111_3 rfl rfl rfl rfl rfl rfl ?_
  exact k
theorem W111_4 {d : Nat} {K : Int → Hp → Prop} (w : yWF zl nl h) {l0 : Int} {l1 : Int} {l2 : Int} {l3 : Int} {l4 : Option Int} (hd : 1 ≤ d) (k : ((7 ≤ l3 → K 0 h) ∧ (¬ (7 ≤ l3) → ((((0 : Int) ≤ l2 ∧ l2 < 7) → ((0 ≤ (zw ((zw (l2 * 3)) + l1)) ∧ (zw ((zw (l2 * 3)) + l1)) < 21) ∧ (((zV h 3 ((zw ((zw (l2 * 3)) + l1))).toNat) = 0 → ((0 ≤ l2 ∧ l2 < 7) ∧ ZW d prog_2_method_6_code 0 4 [some (vI l0), some (vI l1), some (vI (zV h 2 (l2).toNat)), some (vI (zw (l3 + 1))), some (vI (zV h 3 ((zw ((zw (l2 * 3)) + l1))).toNat))] [] h (yq 1 (yqI K)))) ∧ (¬ ((zV h 3 ((zw ((zw (l2 * 3)) + l1))).toNat) = 0) → K (zV h 3 ((zw ((zw (l2 * 3)) + l1))).toNat) h)))) ∧ (¬ (((0 : Int) ≤ l2 ∧ l2 < 7)) → K 0 h))))) : ZW d prog_2_method_6_code 0 4 [some (vI l0), some (vI l1), some (vI l2), some (vI l3), yo l4] [] h (yq 1 (yqI K)) := by
  refine y_s (pc' := 5) (L' := [some (vI l0), some (vI l1), some (vI l2), some (vI l3), yo l4]) (st' := [vI l3]) (h' := h) f111_4 rfl ?_
  refine y_s (pc' := 7) (L' := [some (vI l0), some (vI l1), some (vI l2), some (vI l3), yo l4]) (st' := [vI 7, vI l3]) (h' := h) f111_5 rfl ?_
  refine y_ic (pcT := 50) (pc' := 10) (P := 7 ≤ l3) f111_7 rfl rfl rfl (fun c => ?_) (fun c => ?_)
  · replace k := k.1 c
    refine y_s (pc' := 51) (L' := [some (vI l0), some (vI l1), some (vI l2), some (vI l3), yo l4]) (st' := [vI 0]) (h' := h) f111_50 rfl ?_
    exact y_ri f111_51 ⟨rfl, k⟩
  · replace k := k.2 c
    refine y_s (pc' := 11) (L' := [some (vI l0), some (vI l1), some (vI l2), some (vI l3), yo l4]) (st' := [vI l2]) (h' := h) f111_10 rfl ?_
    refine y_s (pc' := 13) (L' := [some (vI l0), some (vI l1), some (vI l2), some (vI l3), yo l4]) (st' := [vI 7, vI l2]) (h' := h) f111_11 rfl ?_
    refine y_cI (pc' := 16) (as := [vI l2, vI 7]) (r := []) f111_13 rfl (by omega) rfl ?_
    refine sp10 w (fun c => ?_) (fun c => ?_)
    · replace k := k.1 c
      refine y_iff (pcT := 50) (pc' := 19) f111_16 rfl rfl rfl ?_
      refine y_s (pc' := 22) (L' := [some (vI l0), some (vI l1), some (vI l2), some (vI l3), yo l4]) (st' := [vR (some 3)]) (h' := h) f111_19 rfl ?_
      refine y_s (pc' := 23) (L' := [some (vI l0), some (vI l1), some (vI l2), some (vI l3), yo l4]) (st' := [vI l2, vR (some 3)]) (h' := h) f111_22 rfl ?_
      refine y_s (pc' := 24) (L' := [some (vI l0), some (vI l1), some (vI l2), some (vI l3), yo l4]) (st' := [vI 3, vI l2, vR (some 3)]) (h' := h) f111_23 rfl ?_
      refine y_s (pc' := 25) (L' := [some (vI l0), some (vI l1), some (vI l2), some (vI l3), yo l4]) (st' := [vI (zw (l2 * 3)), vR (some 3)]) (h' := h) f111_24 rfl ?_
      refine y_s (pc' := 26) (L' := [some (vI l0), some (vI l1), some (vI l2), some (vI l3), yo l4]) (st' := [vI l1, vI (zw (l2 * 3)), vR (some 3)]) (h' := h) f111_25 rfl ?_
      refine y_s (pc' := 27) (L' := [some (vI l0), some (vI l1), some (vI l2), some (vI l3), yo l4]) (st' := [vI (zw ((zw (l2 * 3)) + l1)), vR (some 3)]) (h' := h) f111_26 rfl ?_
      refine y_ia (pc' := 28) (x := (zV h 3 ((zw ((zw (l2 * 3)) + l1))).toNat)) f111_27 (ysb3 w) k.1 rfl rfl ?_
      replace k := k.2
      refine y_sto (pc' := 30) (k := 4) (L' := [some (vI l0), some (vI l1), some (vI l2), some (vI l3), some (vI (zV h 3 ((zw ((zw (l2 * 3)) + l1))).toNat))]) f111_28 rfl rfl rfl rfl rfl rfl ?_
      refine y_s (pc' := 32) (L' := [some (vI l0), some (vI l1), some (vI l2), some (vI l3), some (vI (zV h 3 ((zw ((zw (l2 * 3)) + l1))).toNat))]) (st' := [vI (zV h 3 ((zw ((zw (l2 * 3)) + l1))).toNat)]) (h' := h) f111_30 rfl ?_
      refine y_if (pcT := 38) (pc' := 35) (P := (zV h 3 ((zw ((zw (l2 * 3)) + l1))).toNat) = 0) f111_32 rfl rfl rfl (fun c => ?_) (fun c => ?_)
      · replace k := k.1 c
        refine y_s (pc' := 41) (L' := [some (vI l0), some (vI l1), some (vI l2), some (vI l3), some (vI (zV h 3 ((zw ((zw (l2 * 3)) + l1))).toNat))]) (st' := [vR (some 2)]) (h' := h) f111_38 rfl ?_
        refine y_s (pc' := 42) (L' := [some (vI l0), some (vI l1), some (vI l2), some (vI l3), some (vI (zV h 3 ((zw ((zw (l2 * 3)) + l1))).toNat))]) (st' := [vI l2, vR (some 2)]) (h' := h) f111_41 rfl ?_
        refine y_ia (pc' := 43) (x := (zV h 2 (l2).toNat)) f111_42 (ysb2 w) k.1 rfl rfl ?_
        replace k := k.2
        refine y_sto (pc' := 44) (k := 2) (L' := [some (vI l0), some (vI l1), some (vI (zV h 2 (l2).toNat)), some (vI l3), some (vI (zV h 3 ((zw ((zw (l2 * 3)) + l1))).toNat))]) f111_43 rfl rfl rfl rfl rfl rfl ?_
        refine y_inc (pc' := 47) (L' := [some (vI l0), some (vI l1), some (vI (zV h 2 (l2).toNat)), some (vI (zw (l3 + 1))), some (vI (zV h 3 ((zw ((zw (l2 * 3)) + l1))).toNat))]) f111_44 rfl rfl rfl rfl ?_
        refine y_go (pc' := 4) f111_47 rfl ?_
        exact k
      · replace k := k.2 c
        refine y_s (pc' := 37) (L' := [some (vI l0), some (vI l1), some (vI l2), some (vI l3), some (vI (zV h 3 ((zw ((zw (l2 * 3)) + l1))).toNat))]) (st' := [vI (zV h 3 ((zw ((zw (l2 * 3)) + l1))).toNat)]) (h' := h) f111_35 rfl ?_
        exact y_ri f111_37 ⟨rfl, k⟩
    · replace k := k.2 c
      refine y_ift (pcT := 50) f111_16 rfl rfl ?_
      refine y_s (pc' := 51) (L' := [some (vI l0), some (vI l1), some (vI l2), some (vI l3), yo l4]) (st' := [vI 0]) (h' := h) f111_50 rfl ?_
      exact y_ri f111_51 ⟨rfl, k⟩
/-- HatterTunes$Actor.keepBody(I)V -/
theorem E112 {d : Nat} {K : Hp → Prop} (w : yWF zl nl h) {x0 : Int} (k : ((20 ≤ (zV h 94 1) → K (zsetV h 94 1 (zw ((zV h 94 1) + 1)))) ∧ (¬ (20 ≤ (zV h 94 1)) → ((0 ≤ (zV h 94 1) ∧ (zV h 94 1) < 20) ∧ (∀ h_29, (zsetV (zsetV h 95 ((zV h 94 1)).toNat x0) 94 1 (zw ((zV (zsetV h 95 ((zV h 94 1)).toNat x0) 94 1) + 1))) = h_29 → K h_29))))) : yU d 112 [vR (some 94), vI x0] h K := by
  refine y_en (L := [some (vR (some 94)), some (vI x0)]) rfl rfl ?_
  refine y_s (pc' := 1) (L' := [some (vR (some 94)), some (vI x0)]) (st' := [vR (some 94)]) (h' := h) f112_0 rfl ?_
  refine y_gi (pc' := 4) f112_1 yf_0_15 rfl rfl (ys94 w) rfl ?_
  refine y_s (pc' := 6) (L' := [some (vR (some 94)), some (vI x0)]) (st' := [vI 20, vI (zV h 94 1)]) (h' := h) f112_4 rfl ?_
  refine y_ic (pcT := 19) (pc' := 9) (P := 20 ≤ (zV h 94 1)) f112_6 rfl rfl rfl (fun c => ?_) (fun c => ?_)
  · replace k := k.1 c
    refine y_s (pc' := 20) (L' := [some (vR (some 94)), some (vI x0)]) (st' := [vR (some 94)]) (h' := h) f112_19 rfl ?_
    refine y_s (pc' := 21) (L' := [some (vR (some 94)), some (vI x0)]) (st' := [vR (some 94), vR (some 94)]) (h' := h) f112_20 rfl ?_
    refine y_gi (pc' := 24) f112_21 yf_0_15 rfl rfl (ys94 w) rfl ?_
    refine y_s (pc' := 25) (L' := [some (vR (some 94)), some (vI x0)]) (st' := [vI 1, vI (zV h 94 1), vR (some 94)]) (h' := h) f112_24 rfl ?_
    refine y_s (pc' := 26) (L' := [some (vR (some 94)), some (vI x0)]) (st' := [vI (zw ((zV h 94 1) + 1)), vR (some 94)]) (h' := h) f112_25 rfl ?_
    refine y_pi (pc' := 29) f112_26 yf_0_15 rfl rfl (ys94 w) (by decide) (Or.inl rfl) rfl ?_
    exact y_ru f112_29 ⟨rfl, k⟩
  · replace k := k.2 c
    refine y_s (pc' := 10) (L' := [some (vR (some 94)), some (vI x0)]) (st' := [vR (some 94)]) (h' := h) f112_9 rfl ?_
    refine y_gr (pc' := 13) f112_10 yf_0_9 rfl rfl (ys94 w) (yp94_0 w) rfl ?_
    refine y_s (pc' := 14) (L' := [some (vR (some 94)), some (vI x0)]) (st' := [vR (some 94), vR (some 95)]) (h' := h) f112_13 rfl ?_
    refine y_gi (pc' := 17) f112_14 yf_0_15 rfl rfl (ys94 w) rfl ?_
    refine y_s (pc' := 18) (L' := [some (vR (some 94)), some (vI x0)]) (st' := [vI x0, vI (zV h 94 1), vR (some 95)]) (h' := h) f112_17 rfl ?_
    refine y_is (pc' := 19) (h' := (zsetV h 95 ((zV h 94 1)).toNat x0)) f112_18 (ys95 w) (by decide) k.1 rfl rfl ?_
    replace k := k.2
    refine y_s (pc' := 20) (L' := [some (vR (some 94)), some (vI x0)]) (st' := [vR (some 94)]) (h' := (zsetV h 95 ((zV h 94 1)).toNat x0)) f112_19 rfl ?_
    refine y_s (pc' := 21) (L' := [some (vR (some 94)), some (vI x0)]) (st' := [vR (some 94), vR (some 94)]) (h' := (zsetV h 95 ((zV h 94 1)).toNat x0)) f112_20 rfl ?_
    refine y_gi (pc' := 24) f112_21 yf_0_15 rfl rfl (ys94 w) rfl ?_
    refine y_s (pc' := 25) (L' := [some (vR (some 94)), some (vI x0)]) (st' := [vI 1, vI (zV (zsetV h 95 ((zV h 94 1)).toNat x0) 94 1), vR (some 94)]) (h' := (zsetV h 95 ((zV h 94 1)).toNat x0)) f112_24 rfl ?_
    refine y_s (pc' := 26) (L' := [some (vR (some 94)), some (vI x0)]) (st' := [vI (zw ((zV (zsetV h 95 ((zV h 94 1)).toNat x0) 94 1) + 1)), vR (some 94)]) (h' := (zsetV h 95 ((zV h 94 1)).toNat x0)) f112_25 rfl ?_
    refine y_pi (pc' := 29) f112_26 yf_0_15 rfl rfl (ys94 w) (by decide) (Or.inl rfl) rfl ?_
    generalize e_29 : (zsetV (zsetV h 95 ((zV h 94 1)).toNat x0) 94 1 (zw ((zV (zsetV h 95 ((zV h 94 1)).toNat x0) 94 1) + 1))) = h_29
    replace k := k _ e_29
    have w : yWF zl nl h_29 := by rw [← e_29]; exact w
    exact y_ru f112_29 ⟨rfl, k⟩
/-- HatterTunes$Actor.keptBodies()I -/
theorem E114 {d : Nat} {K : Int → Hp → Prop} (w : yWF zl nl h) (hd : 1 ≤ d) (k : K (ymin (zV h 94 1) 20) h) : yI d 114 [vR (some 94)] h K := by
  refine y_en (L := [some (vR (some 94))]) rfl rfl ?_
  refine y_s (pc' := 1) (L' := [some (vR (some 94))]) (st' := [vR (some 94)]) (h' := h) f114_0 rfl ?_
  refine y_gi (pc' := 4) f114_1 yf_0_15 rfl rfl (ys94 w) rfl ?_
  refine y_s (pc' := 6) (L' := [some (vR (some 94))]) (st' := [vI 20, vI (zV h 94 1)]) (h' := h) f114_4 rfl ?_
  refine y_mn (pc' := 9) f114_6 ym_0_19 (by omega) rfl rfl ?_
  exact y_ri f114_9 ⟨rfl, k⟩
/-- HatterTunes$Tape.cut(J)J -/
theorem E123 {d : Nat} {K : Int64 → Hp → Prop} (w : yWF zl nl h) {a : Nat} (ha : yTp a) {x0 : Int64} (k : (((zV h a 1) = 0 → K ((zi ((zi (x0.toInt32.toInt)).toInt8.toInt32.toInt)).toInt64) h) ∧ ((zV h a 1) = 1 → K ((zi ((zi (x0.toInt32.toInt)).toInt16.toInt32.toInt)).toInt64) h) ∧ ((zV h a 1) = 2 → K ((zi (x0.toInt32.toInt)).toInt64) h) ∧ ((zV h a 1) = 3 → K x0 h) ∧ ((zV h a 1) < 0 ∨ 3 < (zV h a 1) → ((((lg_cmp x0 0).toInt) = 0 → K 0 h) ∧ (¬ (((lg_cmp x0 0).toInt) = 0) → K 1 h))))) : yJ d 123 [vR (some a), vJ x0] h K := by
  refine y_en (L := [some (vR (some a)), some (vJ x0), none]) rfl rfl ?_
  refine y_s (pc' := 1) (L' := [some (vR (some a)), some (vJ x0), none]) (st' := [vR (some a)]) (h' := h) f123_0 rfl ?_
  refine y_gi (pc' := 4) f123_1 yf_5_15 rfl rfl (ysT0 w ha) rfl ?_
  by_cases c : (zV h a 1) = 0
  · refine y_tc (pc' := 36) (v := 0) f123_4 c rfl rfl rfl ?_
    replace k := k.1 c
    refine y_s (pc' := 37) (L' := [some (vR (some a)), some (vJ x0), none]) (st' := [vJ x0]) (h' := h) f123_36 rfl ?_
    refine y_s (pc' := 38) (L' := [some (vR (some a)), some (vJ x0), none]) (st' := [vI (x0.toInt32.toInt)]) (h' := h) f123_37 rfl ?_
    refine y_s (pc' := 39) (L' := [some (vR (some a)), some (vJ x0), none]) (st' := [vI ((zi (x0.toInt32.toInt)).toInt8.toInt32.toInt)]) (h' := h) f123_38 rfl ?_
    refine y_s (pc' := 40) (L' := [some (vR (some a)), some (vJ x0), none]) (st' := [vJ ((zi ((zi (x0.toInt32.toInt)).toInt8.toInt32.toInt)).toInt64)]) (h' := h) f123_39 rfl ?_
    exact y_rj f123_40 ⟨rfl, k⟩
  replace k := k.2
  have c0 := c
  by_cases c : (zV h a 1) = 1
  · refine y_tc (pc' := 41) (v := 1) f123_4 c rfl rfl rfl ?_
    replace k := k.1 c
    refine y_s (pc' := 42) (L' := [some (vR (some a)), some (vJ x0), none]) (st' := [vJ x0]) (h' := h) f123_41 rfl ?_
    refine y_s (pc' := 43) (L' := [some (vR (some a)), some (vJ x0), none]) (st' := [vI (x0.toInt32.toInt)]) (h' := h) f123_42 rfl ?_
    refine y_s (pc' := 44) (L' := [some (vR (some a)), some (vJ x0), none]) (st' := [vI ((zi (x0.toInt32.toInt)).toInt16.toInt32.toInt)]) (h' := h) f123_43 rfl ?_
    refine y_s (pc' := 45) (L' := [some (vR (some a)), some (vJ x0), none]) (st' := [vJ ((zi ((zi (x0.toInt32.toInt)).toInt16.toInt32.toInt)).toInt64)]) (h' := h) f123_44 rfl ?_
    exact y_rj f123_45 ⟨rfl, k⟩
  replace k := k.2
  have c1 := c
  by_cases c : (zV h a 1) = 2
  · refine y_tc (pc' := 46) (v := 2) f123_4 c rfl rfl rfl ?_
    replace k := k.1 c
    refine y_s (pc' := 47) (L' := [some (vR (some a)), some (vJ x0), none]) (st' := [vJ x0]) (h' := h) f123_46 rfl ?_
    refine y_s (pc' := 48) (L' := [some (vR (some a)), some (vJ x0), none]) (st' := [vI (x0.toInt32.toInt)]) (h' := h) f123_47 rfl ?_
    refine y_s (pc' := 49) (L' := [some (vR (some a)), some (vJ x0), none]) (st' := [vJ ((zi (x0.toInt32.toInt)).toInt64)]) (h' := h) f123_48 rfl ?_
    exact y_rj f123_49 ⟨rfl, k⟩
  replace k := k.2
  have c2 := c
  by_cases c : (zV h a 1) = 3
  · refine y_tc (pc' := 50) (v := 3) f123_4 c rfl rfl rfl ?_
    replace k := k.1 c
    refine y_s (pc' := 51) (L' := [some (vR (some a)), some (vJ x0), none]) (st' := [vJ x0]) (h' := h) f123_50 rfl ?_
    exact y_rj f123_51 ⟨rfl, k⟩
  replace k := k.2
  have c3 := c
  have cc : (zV h a 1) < 0 ∨ 3 < (zV h a 1) := by omega
  refine y_td (pc' := 52) f123_4 cc rfl ?_
  replace k := k cc
  refine y_s (pc' := 53) (L' := [some (vR (some a)), some (vJ x0), none]) (st' := [vJ x0]) (h' := h) f123_52 rfl ?_
  refine y_s (pc' := 54) (L' := [some (vR (some a)), some (vJ x0), none]) (st' := [vJ 0, vJ x0]) (h' := h) f123_53 rfl ?_
  refine y_s (pc' := 55) (L' := [some (vR (some a)), some (vJ x0), none]) (st' := [vI ((lg_cmp x0 0).toInt)]) (h' := h) f123_54 rfl ?_
  refine y_if (pcT := 62) (pc' := 58) (P := ((lg_cmp x0 0).toInt) = 0) f123_55 rfl rfl rfl (fun c => ?_) (fun c => ?_)
  · replace k := k.1 c
    refine y_s (pc' := 63) (L' := [some (vR (some a)), some (vJ x0), none]) (st' := [vJ 0]) (h' := h) f123_62 rfl ?_
    exact y_rj f123_63 ⟨rfl, k⟩
  · replace k := k.2 c
    refine y_s (pc' := 59) (L' := [some (vR (some a)), some (vJ x0), none]) (st' := [vJ 1]) (h' := h) f123_58 rfl ?_
    refine y_go (pc' := 63) f123_59 rfl ?_
    exact y_rj f123_63 ⟨rfl, k⟩
/-- HatterTunes$Tape.set(IJ)I -/
theorem E122 {d : Nat} {K : Int → Hp → Prop} (w : yWF zl nl h) {a : Nat} (ha : yTp a) {x0 : Int} {x1 : Int64} (hd : 1 ≤ d) (k : yJ (d - 1) 123 [vR (some a), vJ x1] h (fun x h' => ZW d prog_7_method_7_code 5 10 [some (vR (some a)), some (vI x0), some (vJ x1), none] [vJ x, vI x0, vR (some (a + 1))] h' (yq 1 (yqI K)))) : yI d 122 [vR (some a), vI x0, vJ x1] h K := by
  refine y_en (L := [some (vR (some a)), some (vI x0), some (vJ x1), none]) rfl rfl ?_
  refine y_s (pc' := 1) (L' := [some (vR (some a)), some (vI x0), some (vJ x1), none]) (st' := [vR (some a)]) (h' := h) f122_0 rfl ?_
  refine y_gr (pc' := 4) f122_1 yf_5_9 rfl rfl (ysT0 w ha) (ypT0 w ha) rfl ?_
  refine y_s (pc' := 5) (L' := [some (vR (some a)), some (vI x0), some (vJ x1), none]) (st' := [vI x0, vR (some (a + 1))]) (h' := h) f122_4 rfl ?_
  refine y_s (pc' := 6) (L' := [some (vR (some a)), some (vI x0), some (vJ x1), none]) (st' := [vR (some a), vI x0, vR (some (a + 1))]) (h' := h) f122_5 rfl ?_
  refine y_s (pc' := 7) (L' := [some (vR (some a)), some (vI x0), some (vJ x1), none]) (st' := [vJ x1, vR (some a), vI x0, vR (some (a + 1))]) (h' := h) f122_6 rfl ?_
  refine y_cJ (pc' := 10) (as := [vR (some a), vJ x1]) (r := [vI x0, vR (some (a + 1))]) f122_7 (yzv ym_5_26 rfl (ysT0 w ha) rfl rfl) (by omega) rfl ?_
  exact k
theorem W122_10 {d : Nat} {K : Int → Hp → Prop} (w : yWF zl nl h) {a : Nat} (ha : yTp a) {l1 : Int} {l2 : Int64} {s1 : Int} {s2 : Int64} (k : ((0 ≤ s1 ∧ s1 < 60) ∧ K 1 (zsetJ h (a + 1) (s1).toNat s2))) : ZW d prog_7_method_7_code 5 10 [some (vR (some a)), some (vI l1), some (vJ l2), none] [vJ s2, vI s1, vR (some (a + 1))] h (yq 1 (yqI K)) := by
  refine y_js (pc' := 11) (h' := (zsetJ h (a + 1) (s1).toNat s2)) f122_10 (ysT1 w ha) (Nat.le_add_right_of_le (yT_32 ha)) k.1 rfl rfl ?_
  replace k := k.2
  refine y_s (pc' := 12) (L' := [some (vR (some a)), some (vI l1), some (vJ l2), none]) (st' := [vI 1]) (h' := (zsetJ h (a + 1) (s1).toNat s2)) f122_11 rfl ?_
  exact y_ri f122_12 ⟨rfl, k⟩
/-- HatterTunes$Tape.drop()I -/
theorem E119 {d : Nat} {K : Int → Hp → Prop} (w : yWF zl nl h) {a : Nat} (ha : yTp a) (k : (∀ h_10, (zsetV (zsetV h a 1 (-1)) a 2 0) = h_10 → K 1 h_10)) : yI d 119 [vR (some a)] h K := by
  refine y_en (L := [some (vR (some a))]) rfl rfl ?_
  refine y_s (pc' := 1) (L' := [some (vR (some a))]) (st' := [vR (some a)]) (h' := h) f119_0 rfl ?_
  refine y_s (pc' := 2) (L' := [some (vR (some a))]) (st' := [vI (-1), vR (some a)]) (h' := h) f119_1 rfl ?_
  refine y_pi (pc' := 5) f119_2 yf_5_15 rfl rfl (ysT0 w ha) (yT_32 ha) (Or.inl rfl) rfl ?_
  refine y_s (pc' := 6) (L' := [some (vR (some a))]) (st' := [vR (some a)]) (h' := (zsetV h a 1 (-1))) f119_5 rfl ?_
  refine y_s (pc' := 7) (L' := [some (vR (some a))]) (st' := [vI 0, vR (some a)]) (h' := (zsetV h a 1 (-1))) f119_6 rfl ?_
  refine y_pi (pc' := 10) f119_7 yf_5_19 rfl rfl (ysT0 w ha) (yT_32 ha) (Or.inl rfl) rfl ?_
  generalize e_10 : (zsetV (zsetV h a 1 (-1)) a 2 0) = h_10
  replace k := k _ e_10
  have w : yWF zl nl h_10 := by rw [← e_10]; exact w
  refine y_s (pc' := 11) (L' := [some (vR (some a))]) (st' := [vI 1]) (h' := h_10) f119_10 rfl ?_
  exact y_ri f119_11 ⟨rfl, k⟩
/-- HatterTunes$Tape.become(II)I -/
theorem E120 {d : Nat} {K : Int → Hp → Prop} (w : yWF zl nl h) {a : Nat} (ha : yTp a) {x0 : Int} {x1 : Int} (k : (∀ h_10, (zsetV (zsetV h a 1 x0) a 2 x1) = h_10 → ZW d prog_7_method_6_code 5 12 [some (vR (some a)), some (vI x0), some (vI x1), some (vI 0)] [] h_10 (yq 1 (yqI K)))) : yI d 120 [vR (some a), vI x0, vI x1] h K := by
  refine y_en (L := [some (vR (some a)), some (vI x0), some (vI x1), none]) rfl rfl ?_
  refine y_s (pc' := 1) (L' := [some (vR (some a)), some (vI x0), some (vI x1), none]) (st' := [vR (some a)]) (h' := h) f120_0 rfl ?_
  refine y_s (pc' := 2) (L' := [some (vR (some a)), some (vI x0), some (vI x1), none]) (st' := [vI x0, vR (some a)]) (h' := h) f120_1 rfl ?_
  refine y_pi (pc' := 5) f120_2 yf_5_15 rfl rfl (ysT0 w ha) (yT_32 ha) (Or.inl rfl) rfl ?_
  refine y_s (pc' := 6) (L' := [some (vR (some a)), some (vI x0), some (vI x1), none]) (st' := [vR (some a)]) (h' := (zsetV h a 1 x0)) f120_5 rfl ?_
  refine y_s (pc' := 7) (L' := [some (vR (some a)), some (vI x0), some (vI x1), none]) (st' := [vI x1, vR (some a)]) (h' := (zsetV h a 1 x0)) f120_6 rfl ?_
  refine y_pi (pc' := 10) f120_7 yf_5_19 rfl rfl (ysT0 w ha) (yT_32 ha) (Or.inl rfl) rfl ?_
  generalize e_10 : (zsetV (zsetV h a 1 x0) a 2 x1) = h_10
  replace k := k _ e_10
  have w : yWF zl nl h_10 := by rw [← e_10]; exact w
  refine y_s (pc' := 11) (L' := [some (vR (some a)), some (vI x0), some (vI x1), none]) (st' := [vI 0]) (h' := h_10) f120_10 rfl ?_
  refine y_sto (pc' := 12) (k := 3) (L' := [some (vR (some a)), some (vI x0), some (vI x1), some (vI 0)]) f120_11 rfl rfl rfl rfl rfl rfl ?_
  exact k
theorem W120_12 {d : Nat} {K : Int → Hp → Prop} (w : yWF zl nl h) {a : Nat} (ha : yTp a) {l1 : Int} {l2 : Int} {l3 : Int} (k : ((l2 ≤ l3 → K 1 h) ∧ (¬ (l2 ≤ l3) → ((0 ≤ l3 ∧ l3 < 60) ∧ ZW d prog_7_method_6_code 5 12 [some (vR (some a)), some (vI l1), some (vI l2), some (vI (zw (l3 + 1)))] [] (zsetJ h (a + 1) (l3).toNat 0) (yq 1 (yqI K)))))) : ZW d prog_7_method_6_code 5 12 [some (vR (some a)), some (vI l1), some (vI l2), some (vI l3)] [] h (yq 1 (yqI K)) := by
  refine y_s (pc' := 13) (L' := [some (vR (some a)), some (vI l1), some (vI l2), some (vI l3)]) (st' := [vI l3]) (h' := h) f120_12 rfl ?_
  refine y_s (pc' := 14) (L' := [some (vR (some a)), some (vI l1), some (vI l2), some (vI l3)]) (st' := [vI l2, vI l3]) (h' := h) f120_13 rfl ?_
  refine y_ic (pcT := 30) (pc' := 17) (P := l2 ≤ l3) f120_14 rfl rfl rfl (fun c => ?_) (fun c => ?_)
  · replace k := k.1 c
    refine y_s (pc' := 31) (L' := [some (vR (some a)), some (vI l1), some (vI l2), some (vI l3)]) (st' := [vI 1]) (h' := h) f120_30 rfl ?_
    exact y_ri f120_31 ⟨rfl, k⟩
  · replace k := k.2 c
    refine y_s (pc' := 18) (L' := [some (vR (some a)), some (vI l1), some (vI l2), some (vI l3)]) (st' := [vR (some a)]) (h' := h) f120_17 rfl ?_
    refine y_gr (pc' := 21) f120_18 yf_5_9 rfl rfl (ysT0 w ha) (ypT0 w ha) rfl ?_
    refine y_s (pc' := 22) (L' := [some (vR (some a)), some (vI l1), some (vI l2), some (vI l3)]) (st' := [vI l3, vR (some (a + 1))]) (h' := h) f120_21 rfl ?_
    refine y_s (pc' := 23) (L' := [some (vR (some a)), some (vI l1), some (vI l2), some (vI l3)]) (st' := [vJ 0, vI l3, vR (some (a + 1))]) (h' := h) f120_22 rfl ?_
    refine y_js (pc' := 24) (h' := (zsetJ h (a + 1) (l3).toNat 0)) f120_23 (ysT1 w ha) (Nat.le_add_right_of_le (yT_32 ha)) k.1 rfl rfl ?_
    replace k := k.2
    refine y_inc (pc' := 27) (L' := [some (vR (some a)), some (vI l1), some (vI l2), some (vI (zw (l3 + 1)))]) f120_24 rfl rfl rfl rfl ?_
    refine y_go (pc' := 12) f120_27 rfl ?_
    exact k
/-- HatterTunesModel.kept(IJ)J -/
theorem E216 {d : Nat} {K : Int64 → Hp → Prop} (w : yWF zl nl h) {x0 : Int} {x1 : Int64} (k : ((x0 = 0 → K ((zi ((zi (x1.toInt32.toInt)).toInt8.toInt32.toInt)).toInt64) h) ∧ (x0 = 1 → K ((zi ((zi (x1.toInt32.toInt)).toInt16.toInt32.toInt)).toInt64) h) ∧ (x0 = 2 → K ((zi (x1.toInt32.toInt)).toInt64) h) ∧ (x0 = 3 → K x1 h) ∧ (x0 < 0 ∨ 3 < x0 → ((((lg_cmp x1 0).toInt) = 0 → K 0 h) ∧ (¬ (((lg_cmp x1 0).toInt) = 0) → K 1 h))))) : yJ d 216 [vI x0, vJ x1] h K := by
  refine y_en (L := [some (vI x0), some (vJ x1), none]) rfl rfl ?_
  refine y_s (pc' := 1) (L' := [some (vI x0), some (vJ x1), none]) (st' := [vI x0]) (h' := h) f216_0 rfl ?_
  by_cases c : x0 = 0
  · refine y_tc (pc' := 32) (v := 0) f216_1 c rfl rfl rfl ?_
    replace k := k.1 c
    refine y_s (pc' := 33) (L' := [some (vI x0), some (vJ x1), none]) (st' := [vJ x1]) (h' := h) f216_32 rfl ?_
    refine y_s (pc' := 34) (L' := [some (vI x0), some (vJ x1), none]) (st' := [vI (x1.toInt32.toInt)]) (h' := h) f216_33 rfl ?_
    refine y_s (pc' := 35) (L' := [some (vI x0), some (vJ x1), none]) (st' := [vI ((zi (x1.toInt32.toInt)).toInt8.toInt32.toInt)]) (h' := h) f216_34 rfl ?_
    refine y_s (pc' := 36) (L' := [some (vI x0), some (vJ x1), none]) (st' := [vJ ((zi ((zi (x1.toInt32.toInt)).toInt8.toInt32.toInt)).toInt64)]) (h' := h) f216_35 rfl ?_
    exact y_rj f216_36 ⟨rfl, k⟩
  replace k := k.2
  have c0 := c
  by_cases c : x0 = 1
  · refine y_tc (pc' := 37) (v := 1) f216_1 c rfl rfl rfl ?_
    replace k := k.1 c
    refine y_s (pc' := 38) (L' := [some (vI x0), some (vJ x1), none]) (st' := [vJ x1]) (h' := h) f216_37 rfl ?_
    refine y_s (pc' := 39) (L' := [some (vI x0), some (vJ x1), none]) (st' := [vI (x1.toInt32.toInt)]) (h' := h) f216_38 rfl ?_
    refine y_s (pc' := 40) (L' := [some (vI x0), some (vJ x1), none]) (st' := [vI ((zi (x1.toInt32.toInt)).toInt16.toInt32.toInt)]) (h' := h) f216_39 rfl ?_
    refine y_s (pc' := 41) (L' := [some (vI x0), some (vJ x1), none]) (st' := [vJ ((zi ((zi (x1.toInt32.toInt)).toInt16.toInt32.toInt)).toInt64)]) (h' := h) f216_40 rfl ?_
    exact y_rj f216_41 ⟨rfl, k⟩
  replace k := k.2
  have c1 := c
  by_cases c : x0 = 2
  · refine y_tc (pc' := 42) (v := 2) f216_1 c rfl rfl rfl ?_
    replace k := k.1 c
    refine y_s (pc' := 43) (L' := [some (vI x0), some (vJ x1), none]) (st' := [vJ x1]) (h' := h) f216_42 rfl ?_
    refine y_s (pc' := 44) (L' := [some (vI x0), some (vJ x1), none]) (st' := [vI (x1.toInt32.toInt)]) (h' := h) f216_43 rfl ?_
    refine y_s (pc' := 45) (L' := [some (vI x0), some (vJ x1), none]) (st' := [vJ ((zi (x1.toInt32.toInt)).toInt64)]) (h' := h) f216_44 rfl ?_
    exact y_rj f216_45 ⟨rfl, k⟩
  replace k := k.2
  have c2 := c
  by_cases c : x0 = 3
  · refine y_tc (pc' := 46) (v := 3) f216_1 c rfl rfl rfl ?_
    replace k := k.1 c
    refine y_s (pc' := 47) (L' := [some (vI x0), some (vJ x1), none]) (st' := [vJ x1]) (h' := h) f216_46 rfl ?_
    exact y_rj f216_47 ⟨rfl, k⟩
  replace k := k.2
  have c3 := c
  have cc : x0 < 0 ∨ 3 < x0 := by omega
  refine y_td (pc' := 48) f216_1 cc rfl ?_
  replace k := k cc
  refine y_s (pc' := 49) (L' := [some (vI x0), some (vJ x1), none]) (st' := [vJ x1]) (h' := h) f216_48 rfl ?_
  refine y_s (pc' := 50) (L' := [some (vI x0), some (vJ x1), none]) (st' := [vJ 0, vJ x1]) (h' := h) f216_49 rfl ?_
  refine y_s (pc' := 51) (L' := [some (vI x0), some (vJ x1), none]) (st' := [vI ((lg_cmp x1 0).toInt)]) (h' := h) f216_50 rfl ?_
  refine y_if (pcT := 58) (pc' := 54) (P := ((lg_cmp x1 0).toInt) = 0) f216_51 rfl rfl rfl (fun c => ?_) (fun c => ?_)
  · replace k := k.1 c
    refine y_s (pc' := 59) (L' := [some (vI x0), some (vJ x1), none]) (st' := [vJ 0]) (h' := h) f216_58 rfl ?_
    exact y_rj f216_59 ⟨rfl, k⟩
  · replace k := k.2 c
    refine y_s (pc' := 55) (L' := [some (vI x0), some (vJ x1), none]) (st' := [vJ 1]) (h' := h) f216_54 rfl ?_
    refine y_go (pc' := 59) f216_55 rfl ?_
    exact y_rj f216_59 ⟨rfl, k⟩
/-- HatterTunesModel.above(I)I -/
theorem E207 {d : Nat} {K : Int → Hp → Prop} (w : yWF zl nl h) {x0 : Int} (k : ((x0 ≠ 4 → ((x0 ≠ 5 → ((x0 ≠ 6 → K 0 h) ∧ (¬ (x0 ≠ 6) → K 3 h))) ∧ (¬ (x0 ≠ 5) → K 2 h))) ∧ (¬ (x0 ≠ 4) → K 1 h))) : yI d 207 [vI x0] h K := by
  refine y_en (L := [some (vI x0)]) rfl rfl ?_
  refine y_s (pc' := 1) (L' := [some (vI x0)]) (st' := [vI x0]) (h' := h) f207_0 rfl ?_
  refine y_s (pc' := 2) (L' := [some (vI x0)]) (st' := [vI 4, vI x0]) (h' := h) f207_1 rfl ?_
  refine y_ic (pcT := 9) (pc' := 5) (P := x0 ≠ 4) f207_2 rfl rfl rfl (fun c => ?_) (fun c => ?_)
  · replace k := k.1 c
    refine y_s (pc' := 10) (L' := [some (vI x0)]) (st' := [vI x0]) (h' := h) f207_9 rfl ?_
    refine y_s (pc' := 11) (L' := [some (vI x0)]) (st' := [vI 5, vI x0]) (h' := h) f207_10 rfl ?_
    refine y_ic (pcT := 18) (pc' := 14) (P := x0 ≠ 5) f207_11 rfl rfl rfl (fun c => ?_) (fun c => ?_)
    · replace k := k.1 c
      refine y_s (pc' := 19) (L' := [some (vI x0)]) (st' := [vI x0]) (h' := h) f207_18 rfl ?_
      refine y_s (pc' := 21) (L' := [some (vI x0)]) (st' := [vI 6, vI x0]) (h' := h) f207_19 rfl ?_
      refine y_ic (pcT := 28) (pc' := 24) (P := x0 ≠ 6) f207_21 rfl rfl rfl (fun c => ?_) (fun c => ?_)
      · replace k := k.1 c
        refine y_s (pc' := 29) (L' := [some (vI x0)]) (st' := [vI 0]) (h' := h) f207_28 rfl ?_
        exact y_ri f207_29 ⟨rfl, k⟩
      · replace k := k.2 c
        refine y_s (pc' := 25) (L' := [some (vI x0)]) (st' := [vI 3]) (h' := h) f207_24 rfl ?_
        refine y_go (pc' := 29) f207_25 rfl ?_
        exact y_ri f207_29 ⟨rfl, k⟩
    · replace k := k.2 c
      refine y_s (pc' := 15) (L' := [some (vI x0)]) (st' := [vI 2]) (h' := h) f207_14 rfl ?_
      refine y_go (pc' := 29) f207_15 rfl ?_
      exact y_ri f207_29 ⟨rfl, k⟩
  · replace k := k.2 c
    refine y_s (pc' := 6) (L' := [some (vI x0)]) (st' := [vI 1]) (h' := h) f207_5 rfl ?_
    refine y_go (pc' := 29) f207_6 rfl ?_
    exact y_ri f207_29 ⟨rfl, k⟩
/-- HatterTunesModel.ran(I)V -/
theorem E206 {d : Nat} {K : Hp → Prop} (w : yWF zl nl h) {x0 : Int} (k : ((20 ≤ (zV h 137 36) → K (zsetV h 137 36 (zw ((zV h 137 36) + 1)))) ∧ (¬ (20 ≤ (zV h 137 36)) → ((0 ≤ (zV h 137 36) ∧ (zV h 137 36) < 20) ∧ (∀ h_29, (zsetV (zsetV h 160 ((zV h 137 36)).toNat x0) 137 36 (zw ((zV (zsetV h 160 ((zV h 137 36)).toNat x0) 137 36) + 1))) = h_29 → K h_29))))) : yU d 206 [vR (some 137), vI x0] h K := by
  refine y_en (L := [some (vR (some 137)), some (vI x0)]) rfl rfl ?_
  refine y_s (pc' := 1) (L' := [some (vR (some 137)), some (vI x0)]) (st' := [vR (some 137)]) (h' := h) f206_0 rfl ?_
  refine y_gi (pc' := 4) f206_1 yf_8_317 rfl rfl (ys137 w) rfl ?_
  refine y_s (pc' := 6) (L' := [some (vR (some 137)), some (vI x0)]) (st' := [vI 20, vI (zV h 137 36)]) (h' := h) f206_4 rfl ?_
  refine y_ic (pcT := 19) (pc' := 9) (P := 20 ≤ (zV h 137 36)) f206_6 rfl rfl rfl (fun c => ?_) (fun c => ?_)
  · replace k := k.1 c
    refine y_s (pc' := 20) (L' := [some (vR (some 137)), some (vI x0)]) (st' := [vR (some 137)]) (h' := h) f206_19 rfl ?_
    refine y_s (pc' := 21) (L' := [some (vR (some 137)), some (vI x0)]) (st' := [vR (some 137), vR (some 137)]) (h' := h) f206_20 rfl ?_
    refine y_gi (pc' := 24) f206_21 yf_8_317 rfl rfl (ys137 w) rfl ?_
    refine y_s (pc' := 25) (L' := [some (vR (some 137)), some (vI x0)]) (st' := [vI 1, vI (zV h 137 36), vR (some 137)]) (h' := h) f206_24 rfl ?_
    refine y_s (pc' := 26) (L' := [some (vR (some 137)), some (vI x0)]) (st' := [vI (zw ((zV h 137 36) + 1)), vR (some 137)]) (h' := h) f206_25 rfl ?_
    refine y_pi (pc' := 29) f206_26 yf_8_317 rfl rfl (ys137 w) (by decide) (Or.inl rfl) rfl ?_
    exact y_ru f206_29 ⟨rfl, k⟩
  · replace k := k.2 c
    refine y_s (pc' := 10) (L' := [some (vR (some 137)), some (vI x0)]) (st' := [vR (some 137)]) (h' := h) f206_9 rfl ?_
    refine y_gr (pc' := 13) f206_10 yf_8_79 rfl rfl (ys137 w) (yp137_37 w) rfl ?_
    refine y_s (pc' := 14) (L' := [some (vR (some 137)), some (vI x0)]) (st' := [vR (some 137), vR (some 160)]) (h' := h) f206_13 rfl ?_
    refine y_gi (pc' := 17) f206_14 yf_8_317 rfl rfl (ys137 w) rfl ?_
    refine y_s (pc' := 18) (L' := [some (vR (some 137)), some (vI x0)]) (st' := [vI x0, vI (zV h 137 36), vR (some 160)]) (h' := h) f206_17 rfl ?_
    refine y_is (pc' := 19) (h' := (zsetV h 160 ((zV h 137 36)).toNat x0)) f206_18 (ys160 w) (by decide) k.1 rfl rfl ?_
    replace k := k.2
    refine y_s (pc' := 20) (L' := [some (vR (some 137)), some (vI x0)]) (st' := [vR (some 137)]) (h' := (zsetV h 160 ((zV h 137 36)).toNat x0)) f206_19 rfl ?_
    refine y_s (pc' := 21) (L' := [some (vR (some 137)), some (vI x0)]) (st' := [vR (some 137), vR (some 137)]) (h' := (zsetV h 160 ((zV h 137 36)).toNat x0)) f206_20 rfl ?_
    refine y_gi (pc' := 24) f206_21 yf_8_317 rfl rfl (ys137 w) rfl ?_
    refine y_s (pc' := 25) (L' := [some (vR (some 137)), some (vI x0)]) (st' := [vI 1, vI (zV (zsetV h 160 ((zV h 137 36)).toNat x0) 137 36), vR (some 137)]) (h' := (zsetV h 160 ((zV h 137 36)).toNat x0)) f206_24 rfl ?_
    refine y_s (pc' := 26) (L' := [some (vR (some 137)), some (vI x0)]) (st' := [vI (zw ((zV (zsetV h 160 ((zV h 137 36)).toNat x0) 137 36) + 1)), vR (some 137)]) (h' := (zsetV h 160 ((zV h 137 36)).toNat x0)) f206_25 rfl ?_
    refine y_pi (pc' := 29) f206_26 yf_8_317 rfl rfl (ys137 w) (by decide) (Or.inl rfl) rfl ?_
    generalize e_29 : (zsetV (zsetV h 160 ((zV h 137 36)).toNat x0) 137 36 (zw ((zV (zsetV h 160 ((zV h 137 36)).toNat x0) 137 36) + 1))) = h_29
    replace k := k _ e_29
    have w : yWF zl nl h_29 := by rw [← e_29]; exact w
    exact y_ru f206_29 ⟨rfl, k⟩
/-- HatterTunesModel.part(JJI)J -/
theorem E194 {d : Nat} {K : Int64 → Hp → Prop} (w : yWF zl nl h) {x0 : Int64} {x1 : Int64} {x2 : Int} (hd : 1 ≤ d) (k : ZW d prog_10_method_49_code 8 9 [some (vJ x0), none, some (vJ x1), none, some (vI x2), some (vJ (yabs x0)), none, some (vJ x1), none, none, none] [] h (yq 4 (yqJ K))) : yJ d 194 [vJ x0, vJ x1, vI x2] h K := by
  refine y_en (L := [some (vJ x0), none, some (vJ x1), none, some (vI x2), none, none, none, none, none, none]) rfl rfl ?_
  refine y_s (pc' := 1) (L' := [some (vJ x0), none, some (vJ x1), none, some (vI x2), none, none, none, none, none, none]) (st' := [vJ x0]) (h' := h) f194_0 rfl ?_
  refine y_ab (pc' := 4) f194_1 ym_8_295 (by omega) rfl rfl ?_
  refine y_s (pc' := 6) (L' := [some (vJ x0), none, some (vJ x1), none, some (vI x2), some (vJ (yabs x0)), none, none, none, none, none]) (st' := []) (h' := h) f194_4 rfl ?_
  refine y_s (pc' := 7) (L' := [some (vJ x0), none, some (vJ x1), none, some (vI x2), some (vJ (yabs x0)), none, none, none, none, none]) (st' := [vJ x1]) (h' := h) f194_6 rfl ?_
  refine y_s (pc' := 9) (L' := [some (vJ x0), none, some (vJ x1), none, some (vI x2), some (vJ (yabs x0)), none, some (vJ x1), none, none, none]) (st' := []) (h' := h) f194_7 rfl ?_
  exact k
theorem W194_9 {d : Nat} {K : Int64 → Hp → Prop} (w : yWF zl nl h) {l0 : Int64} {l2 : Int64} {l4 : Int} {l5 : Int64} {l7 : Int64} {l9 : Option Int64} (k : ((((lg_cmp l7 0).toInt) = 0 → ((l4 ≠ 0 → (l5 ≠ 0 ∧ K (l2 / l5) h)) ∧ (¬ (l4 ≠ 0) → (l5 ≠ 0 ∧ K (l0 / l5) h)))) ∧ (¬ (((lg_cmp l7 0).toInt) = 0) → (l7 ≠ 0 ∧ ZW d prog_10_method_49_code 8 9 [some (vJ l0), none, some (vJ l2), none, some (vI l4), some (vJ l7), none, some (vJ (l5 - l5 / l7 * l7)), none, some (vJ (l5 - l5 / l7 * l7)), none] [] h (yq 4 (yqJ K)))))) : ZW d prog_10_method_49_code 8 9 [some (vJ l0), none, some (vJ l2), none, some (vI l4), some (vJ l5), none, some (vJ l7), none, yoj l9, none] [] h (yq 4 (yqJ K)) := by
  refine y_s (pc' := 11) (L' := [some (vJ l0), none, some (vJ l2), none, some (vI l4), some (vJ l5), none, some (vJ l7), none, yoj l9, none]) (st' := [vJ l7]) (h' := h) f194_9 rfl ?_
  refine y_s (pc' := 12) (L' := [some (vJ l0), none, some (vJ l2), none, some (vI l4), some (vJ l5), none, some (vJ l7), none, yoj l9, none]) (st' := [vJ 0, vJ l7]) (h' := h) f194_11 rfl ?_
  refine y_s (pc' := 13) (L' := [some (vJ l0), none, some (vJ l2), none, some (vI l4), some (vJ l5), none, some (vJ l7), none, yoj l9, none]) (st' := [vI ((lg_cmp l7 0).toInt)]) (h' := h) f194_12 rfl ?_
  refine y_if (pcT := 34) (pc' := 16) (P := ((lg_cmp l7 0).toInt) = 0) f194_13 rfl rfl rfl (fun c => ?_) (fun c => ?_)
  · replace k := k.1 c
    refine y_s (pc' := 36) (L' := [some (vJ l0), none, some (vJ l2), none, some (vI l4), some (vJ l5), none, some (vJ l7), none, yoj l9, none]) (st' := [vI l4]) (h' := h) f194_34 rfl ?_
    refine y_if (pcT := 43) (pc' := 39) (P := l4 ≠ 0) f194_36 rfl rfl rfl (fun c => ?_) (fun c => ?_)
    · replace k := k.1 c
      refine y_s (pc' := 44) (L' := [some (vJ l0), none, some (vJ l2), none, some (vI l4), some (vJ l5), none, some (vJ l7), none, yoj l9, none]) (st' := [vJ l2]) (h' := h) f194_43 rfl ?_
      refine y_s (pc' := 46) (L' := [some (vJ l0), none, some (vJ l2), none, some (vI l4), some (vJ l5), none, some (vJ l7), none, yoj l9, none]) (st' := [vJ l5, vJ l2]) (h' := h) f194_44 rfl ?_
      refine y_jd (pc' := 47) f194_46 k.1 rfl ?_
      replace k := k.2
      exact y_rj f194_47 ⟨rfl, k⟩
    · replace k := k.2 c
      refine y_s (pc' := 40) (L' := [some (vJ l0), none, some (vJ l2), none, some (vI l4), some (vJ l5), none, some (vJ l7), none, yoj l9, none]) (st' := [vJ l0]) (h' := h) f194_39 rfl ?_
      refine y_go (pc' := 44) f194_40 rfl ?_
      refine y_s (pc' := 46) (L' := [some (vJ l0), none, some (vJ l2), none, some (vI l4), some (vJ l5), none, some (vJ l7), none, yoj l9, none]) (st' := [vJ l5, vJ l0]) (h' := h) f194_44 rfl ?_
      refine y_jd (pc' := 47) f194_46 k.1 rfl ?_
      replace k := k.2
      exact y_rj f194_47 ⟨rfl, k⟩
  · replace k := k.2 c
    refine y_s (pc' := 18) (L' := [some (vJ l0), none, some (vJ l2), none, some (vI l4), some (vJ l5), none, some (vJ l7), none, yoj l9, none]) (st' := [vJ l5]) (h' := h) f194_16 rfl ?_
    refine y_s (pc' := 20) (L' := [some (vJ l0), none, some (vJ l2), none, some (vI l4), some (vJ l5), none, some (vJ l7), none, yoj l9, none]) (st' := [vJ l7, vJ l5]) (h' := h) f194_18 rfl ?_
    refine y_jr (pc' := 21) f194_20 k.1 rfl ?_
    replace k := k.2
    refine y_s (pc' := 23) (L' := [some (vJ l0), none, some (vJ l2), none, some (vI l4), some (vJ l5), none, some (vJ l7), none, some (vJ (l5 - l5 / l7 * l7)), none]) (st' := []) (h' := h) f194_21 rfl ?_
    refine y_s (pc' := 25) (L' := [some (vJ l0), none, some (vJ l2), none, some (vI l4), some (vJ l5), none, some (vJ l7), none, some (vJ (l5 - l5 / l7 * l7)), none]) (st' := [vJ l7]) (h' := h) f194_23 rfl ?_
    refine y_s (pc' := 27) (L' := [some (vJ l0), none, some (vJ l2), none, some (vI l4), some (vJ l7), none, some (vJ l7), none, some (vJ (l5 - l5 / l7 * l7)), none]) (st' := []) (h' := h) f194_25 rfl ?_
    refine y_s (pc' := 29) (L' := [some (vJ l0), none, some (vJ l2), none, some (vI l4), some (vJ l7), none, some (vJ l7), none, some (vJ (l5 - l5 / l7 * l7)), none]) (st' := [vJ (l5 - l5 / l7 * l7)]) (h' := h) f194_27 rfl ?_
    refine y_s (pc' := 31) (L' := [some (vJ l0), none, some (vJ l2), none, some (vI l4), some (vJ l7), none, some (vJ (l5 - l5 / l7 * l7)), none, some (vJ (l5 - l5 / l7 * l7)), none]) (st' := []) (h' := h) f194_29 rfl ?_
    refine y_go (pc' := 9) f194_31 rfl ?_
    exact k
end YD
