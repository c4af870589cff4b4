/-! SEGMENTS M: the model (printed by wip/whole/gen_dec.py) -/
theorem yf_8_21 : zfld 8 21 = some (8, 4) := rfl
theorem yf_8_24 : zfld 8 24 = some (8, 5) := rfl
theorem yf_8_27 : zfld 8 27 = some (8, 7) := rfl
theorem yf_8_33 : zfld 8 33 = some (8, 17) := rfl
theorem yf_8_36 : zfld 8 36 = some (8, 18) := rfl
theorem yf_8_39 : zfld 8 39 = some (8, 19) := rfl
theorem yf_8_42 : zfld 8 42 = some (8, 20) := rfl
theorem yf_8_45 : zfld 8 45 = some (8, 21) := rfl
theorem yf_8_51 : zfld 8 51 = some (8, 24) := rfl
theorem yf_8_55 : zfld 8 55 = some (8, 26) := rfl
theorem yf_8_58 : zfld 8 58 = some (8, 27) := rfl
theorem yf_8_61 : zfld 8 61 = some (8, 28) := rfl
theorem yf_8_64 : zfld 8 64 = some (8, 29) := rfl
theorem yf_8_67 : zfld 8 67 = some (8, 31) := rfl
theorem yf_8_70 : zfld 8 70 = some (8, 32) := rfl
theorem yf_8_73 : zfld 8 73 = some (8, 34) := rfl
theorem yf_8_76 : zfld 8 76 = some (8, 35) := rfl
theorem yf_8_82 : zfld 8 82 = some (8, 39) := rfl
theorem yf_8_88 : zfld 8 88 = some (8, 41) := rfl
theorem yf_8_91 : zfld 8 91 = some (8, 42) := rfl
theorem yf_8_100 : zfld 8 100 = some (8, 46) := rfl
theorem yf_8_103 : zfld 8 103 = some (8, 47) := rfl
theorem yf_8_106 : zfld 8 106 = some (8, 48) := rfl
theorem yf_8_110 : zfld 8 110 = some (8, 16) := rfl
theorem yf_8_154 : zfld 8 154 = some (8, 6) := rfl
theorem yf_8_201 : zfld 8 201 = some (8, 14) := rfl
theorem yf_8_229 : zfld 8 229 = some (8, 15) := rfl
theorem yf_8_286 : zfld 8 286 = some (8, 25) := rfl
theorem yf_8_307 : zfld 8 307 = some (8, 30) := rfl
theorem yf_8_310 : zfld 8 310 = some (8, 33) := rfl
theorem yf_8_313 : zfld 8 313 = some (8, 38) := rfl
theorem ym_8_121 : zmth 8 121 = some (0, 131) := rfl
theorem ym_8_125 : zmth 8 125 = some (2, 132) := rfl
theorem ym_8_142 : zmth 8 142 = some (0, 146) := rfl
theorem ym_8_151 : zmth 8 151 = some (2, 151) := rfl
theorem ym_8_182 : zmth 8 182 = some (0, 158) := rfl
theorem ym_8_198 : zmth 8 198 = some (0, 165) := rfl
theorem ym_8_204 : zmth 8 204 = some (0, 164) := rfl
theorem ym_8_207 : zmth 8 207 = some (0, 163) := rfl
theorem ym_8_210 : zmth 8 210 = some (0, 161) := rfl
theorem ym_8_213 : zmth 8 213 = some (0, 166) := rfl
theorem ym_8_216 : zmth 8 216 = some (0, 162) := rfl
theorem ym_8_238 : zmth 8 238 = some (0, 137) := rfl
theorem ym_8_242 : zmth 8 242 = some (0, 136) := rfl
theorem ym_8_245 : zmth 8 245 = some (0, 135) := rfl
theorem ym_8_248 : zmth 8 248 = some (11, 22) := rfl
theorem ym_8_253 : zmth 8 253 = some (0, 147) := rfl
theorem ym_8_257 : zmth 8 257 = some (0, 143) := rfl
theorem ym_8_269 : zmth 8 269 = some (0, 141) := rfl
theorem ym_8_273 : zmth 8 273 = some (0, 145) := rfl
theorem ym_8_320 : zmth 8 320 = some (0, 206) := rfl
theorem ym_8_324 : zmth 8 324 = some (0, 205) := rfl
theorem ym_8_327 : zmth 8 327 = some (2, 207) := rfl
theorem ym_8_330 : zmth 8 330 = some (0, 208) := rfl
theorem ym_8_333 : zmth 8 333 = some (0, 209) := rfl
theorem ym_8_336 : zmth 8 336 = some (2, 214) := rfl
theorem ym_8_339 : zmth 8 339 = some (2, 216) := rfl
theorem f128_0 : decode prog_10_method_6_code 0 = .ok (.iload_n 1, 1) := by decide +kernel
theorem f128_1 : decode prog_10_method_6_code 1 = .ok (.iconst 0, 1) := by decide +kernel
theorem f128_2 : decode prog_10_method_6_code 2 = .ok (.bipush 6, 2) := by decide +kernel
theorem f128_4 : decode prog_10_method_6_code 4 = .ok (.invokestatic 117, 3) := by decide +kernel
theorem f128_7 : decode prog_10_method_6_code 7 = .ok (.ifCond .ne 5, 3) := by decide +kernel
theorem f128_10 : decode prog_10_method_6_code 10 = .ok (.iconst (-1), 1) := by decide +kernel
theorem f128_11 : decode prog_10_method_6_code 11 = .ok (.ireturn, 1) := by decide +kernel
theorem f128_12 : decode prog_10_method_6_code 12 = .ok (.iload_n 2, 1) := by decide +kernel
theorem f128_13 : decode prog_10_method_6_code 13 = .ok (.iconst 0, 1) := by decide +kernel
theorem f128_14 : decode prog_10_method_6_code 14 = .ok (.bipush 9, 2) := by decide +kernel
theorem f128_16 : decode prog_10_method_6_code 16 = .ok (.invokestatic 117, 3) := by decide +kernel
theorem f128_19 : decode prog_10_method_6_code 19 = .ok (.ifCond .ne 6, 3) := by decide +kernel
theorem f128_22 : decode prog_10_method_6_code 22 = .ok (.bipush (-2), 2) := by decide +kernel
theorem f128_24 : decode prog_10_method_6_code 24 = .ok (.ireturn, 1) := by decide +kernel
theorem f128_25 : decode prog_10_method_6_code 25 = .ok (.aload_n 0, 1) := by decide +kernel
theorem f128_26 : decode prog_10_method_6_code 26 = .ok (.getfield 114, 3) := by decide +kernel
theorem f128_29 : decode prog_10_method_6_code 29 = .ok (.bipush 6, 2) := by decide +kernel
theorem f128_31 : decode prog_10_method_6_code 31 = .ok (.if_icmp .ne 6, 3) := by decide +kernel
theorem f128_34 : decode prog_10_method_6_code 34 = .ok (.bipush (-4), 2) := by decide +kernel
theorem f128_36 : decode prog_10_method_6_code 36 = .ok (.ireturn, 1) := by decide +kernel
theorem f128_37 : decode prog_10_method_6_code 37 = .ok (.aload_n 0, 1) := by decide +kernel
theorem f128_38 : decode prog_10_method_6_code 38 = .ok (.getfield 9, 3) := by decide +kernel
theorem f128_41 : decode prog_10_method_6_code 41 = .ok (.aload_n 0, 1) := by decide +kernel
theorem f128_42 : decode prog_10_method_6_code 42 = .ok (.getfield 114, 3) := by decide +kernel
theorem f128_45 : decode prog_10_method_6_code 45 = .ok (.iload_n 1, 1) := by decide +kernel
theorem f128_46 : decode prog_10_method_6_code 46 = .ok (.iastore, 1) := by decide +kernel
theorem f128_47 : decode prog_10_method_6_code 47 = .ok (.aload_n 0, 1) := by decide +kernel
theorem f128_48 : decode prog_10_method_6_code 48 = .ok (.getfield 15, 3) := by decide +kernel
theorem f128_51 : decode prog_10_method_6_code 51 = .ok (.aload_n 0, 1) := by decide +kernel
theorem f128_52 : decode prog_10_method_6_code 52 = .ok (.getfield 114, 3) := by decide +kernel
theorem f128_55 : decode prog_10_method_6_code 55 = .ok (.iload_n 2, 1) := by decide +kernel
theorem f128_56 : decode prog_10_method_6_code 56 = .ok (.iastore, 1) := by decide +kernel
theorem f128_57 : decode prog_10_method_6_code 57 = .ok (.aload_n 0, 1) := by decide +kernel
theorem f128_58 : decode prog_10_method_6_code 58 = .ok (.getfield 21, 3) := by decide +kernel
theorem f128_61 : decode prog_10_method_6_code 61 = .ok (.aload_n 0, 1) := by decide +kernel
theorem f128_62 : decode prog_10_method_6_code 62 = .ok (.getfield 114, 3) := by decide +kernel
theorem f128_65 : decode prog_10_method_6_code 65 = .ok (.iconst 0, 1) := by decide +kernel
theorem f128_66 : decode prog_10_method_6_code 66 = .ok (.iastore, 1) := by decide +kernel
theorem f128_67 : decode prog_10_method_6_code 67 = .ok (.iconst 0, 1) := by decide +kernel
theorem f128_68 : decode prog_10_method_6_code 68 = .ok (.istore_n 3, 1) := by decide +kernel
theorem f128_69 : decode prog_10_method_6_code 69 = .ok (.iload_n 3, 1) := by decide +kernel
theorem f128_70 : decode prog_10_method_6_code 70 = .ok (.bipush 6, 2) := by decide +kernel
theorem f128_72 : decode prog_10_method_6_code 72 = .ok (.if_icmp .ge 24, 3) := by decide +kernel
theorem f128_75 : decode prog_10_method_6_code 75 = .ok (.aload_n 0, 1) := by decide +kernel
theorem f128_76 : decode prog_10_method_6_code 76 = .ok (.getfield 18, 3) := by decide +kernel
theorem f128_79 : decode prog_10_method_6_code 79 = .ok (.bipush 6, 2) := by decide +kernel
theorem f128_81 : decode prog_10_method_6_code 81 = .ok (.aload_n 0, 1) := by decide +kernel
theorem f128_82 : decode prog_10_method_6_code 82 = .ok (.getfield 114, 3) := by decide +kernel
theorem f128_85 : decode prog_10_method_6_code 85 = .ok (.imul, 1) := by decide +kernel
theorem f128_86 : decode prog_10_method_6_code 86 = .ok (.iload_n 3, 1) := by decide +kernel
theorem f128_87 : decode prog_10_method_6_code 87 = .ok (.iadd, 1) := by decide +kernel
theorem f128_88 : decode prog_10_method_6_code 88 = .ok (.iconst 0, 1) := by decide +kernel
theorem f128_89 : decode prog_10_method_6_code 89 = .ok (.iastore, 1) := by decide +kernel
theorem f128_90 : decode prog_10_method_6_code 90 = .ok (.iinc 3 1, 3) := by decide +kernel
theorem f128_93 : decode prog_10_method_6_code 93 = .ok (.goto (-24), 3) := by decide +kernel
theorem f128_96 : decode prog_10_method_6_code 96 = .ok (.iconst 0, 1) := by decide +kernel
theorem f128_97 : decode prog_10_method_6_code 97 = .ok (.istore_n 3, 1) := by decide +kernel
theorem f128_98 : decode prog_10_method_6_code 98 = .ok (.iload_n 3, 1) := by decide +kernel
theorem f128_99 : decode prog_10_method_6_code 99 = .ok (.iconst 4, 1) := by decide +kernel
theorem f128_100 : decode prog_10_method_6_code 100 = .ok (.if_icmp .ge 23, 3) := by decide +kernel
theorem f128_103 : decode prog_10_method_6_code 103 = .ok (.aload_n 0, 1) := by decide +kernel
theorem f128_104 : decode prog_10_method_6_code 104 = .ok (.getfield 24, 3) := by decide +kernel
theorem f128_107 : decode prog_10_method_6_code 107 = .ok (.iconst 4, 1) := by decide +kernel
theorem f128_108 : decode prog_10_method_6_code 108 = .ok (.aload_n 0, 1) := by decide +kernel
theorem f128_109 : decode prog_10_method_6_code 109 = .ok (.getfield 114, 3) := by decide +kernel
theorem f128_112 : decode prog_10_method_6_code 112 = .ok (.imul, 1) := by decide +kernel
theorem f128_113 : decode prog_10_method_6_code 113 = .ok (.iload_n 3, 1) := by decide +kernel
theorem f128_114 : decode prog_10_method_6_code 114 = .ok (.iadd, 1) := by decide +kernel
theorem f128_115 : decode prog_10_method_6_code 115 = .ok (.iconst 0, 1) := by decide +kernel
theorem f128_116 : decode prog_10_method_6_code 116 = .ok (.iastore, 1) := by decide +kernel
theorem f128_117 : decode prog_10_method_6_code 117 = .ok (.iinc 3 1, 3) := by decide +kernel
theorem f128_120 : decode prog_10_method_6_code 120 = .ok (.goto (-22), 3) := by decide +kernel
theorem f128_123 : decode prog_10_method_6_code 123 = .ok (.aload_n 0, 1) := by decide +kernel
theorem f128_124 : decode prog_10_method_6_code 124 = .ok (.dup, 1) := by decide +kernel
theorem f128_125 : decode prog_10_method_6_code 125 = .ok (.getfield 114, 3) := by decide +kernel
theorem f128_128 : decode prog_10_method_6_code 128 = .ok (.dup_x1, 1) := by decide +kernel
theorem f128_129 : decode prog_10_method_6_code 129 = .ok (.iconst 1, 1) := by decide +kernel
theorem f128_130 : decode prog_10_method_6_code 130 = .ok (.iadd, 1) := by decide +kernel
theorem f128_131 : decode prog_10_method_6_code 131 = .ok (.putfield 114, 3) := by decide +kernel
theorem f128_134 : decode prog_10_method_6_code 134 = .ok (.ireturn, 1) := by decide +kernel
theorem f134_0 : decode prog_10_method_28_code 0 = .ok (.aload_n 0, 1) := by decide +kernel
theorem f134_1 : decode prog_10_method_28_code 1 = .ok (.iload_n 1, 1) := by decide +kernel
theorem f134_2 : decode prog_10_method_28_code 2 = .ok (.iload_n 2, 1) := by decide +kernel
theorem f134_3 : decode prog_10_method_28_code 3 = .ok (.invokevirtual 245, 3) := by decide +kernel
theorem f134_6 : decode prog_10_method_28_code 6 = .ok (.istore_n 3, 1) := by decide +kernel
theorem f134_7 : decode prog_10_method_28_code 7 = .ok (.iload_n 2, 1) := by decide +kernel
theorem f134_8 : decode prog_10_method_28_code 8 = .ok (.aload_n 0, 1) := by decide +kernel
theorem f134_9 : decode prog_10_method_28_code 9 = .ok (.getfield 15, 3) := by decide +kernel
theorem f134_12 : decode prog_10_method_28_code 12 = .ok (.iload_n 1, 1) := by decide +kernel
theorem f134_13 : decode prog_10_method_28_code 13 = .ok (.iaload, 1) := by decide +kernel
theorem f134_14 : decode prog_10_method_28_code 14 = .ok (.if_icmp .ne 7, 3) := by decide +kernel
theorem f134_17 : decode prog_10_method_28_code 17 = .ok (.iconst 0, 1) := by decide +kernel
theorem f134_18 : decode prog_10_method_28_code 18 = .ok (.goto 4, 3) := by decide +kernel
theorem f134_21 : decode prog_10_method_28_code 21 = .ok (.iload_n 3, 1) := by decide +kernel
theorem f134_22 : decode prog_10_method_28_code 22 = .ok (.istore 4, 2) := by decide +kernel
theorem f134_24 : decode prog_10_method_28_code 24 = .ok (.aload_n 0, 1) := by decide +kernel
theorem f134_25 : decode prog_10_method_28_code 25 = .ok (.getfield 9, 3) := by decide +kernel
theorem f134_28 : decode prog_10_method_28_code 28 = .ok (.iload_n 1, 1) := by decide +kernel
theorem f134_29 : decode prog_10_method_28_code 29 = .ok (.iaload, 1) := by decide +kernel
theorem f134_30 : decode prog_10_method_28_code 30 = .ok (.tableswitch 118 1 6 #[38, 47, 51, 54, 83, 99], 38) := by decide +kernel
theorem f134_68 : decode prog_10_method_28_code 68 = .ok (.iload_n 3, 1) := by decide +kernel
theorem f134_69 : decode prog_10_method_28_code 69 = .ok (.aload_n 0, 1) := by decide +kernel
theorem f134_70 : decode prog_10_method_28_code 70 = .ok (.getfield 15, 3) := by decide +kernel
theorem f134_73 : decode prog_10_method_28_code 73 = .ok (.iload_n 1, 1) := by decide +kernel
theorem f134_74 : decode prog_10_method_28_code 74 = .ok (.iaload, 1) := by decide +kernel
theorem f134_75 : decode prog_10_method_28_code 75 = .ok (.iadd, 1) := by decide +kernel
theorem f134_76 : decode prog_10_method_28_code 76 = .ok (.ireturn, 1) := by decide +kernel
theorem f134_77 : decode prog_10_method_28_code 77 = .ok (.iload_n 3, 1) := by decide +kernel
theorem f134_78 : decode prog_10_method_28_code 78 = .ok (.iconst 2, 1) := by decide +kernel
theorem f134_79 : decode prog_10_method_28_code 79 = .ok (.idiv, 1) := by decide +kernel
theorem f134_80 : decode prog_10_method_28_code 80 = .ok (.ireturn, 1) := by decide +kernel
theorem f134_81 : decode prog_10_method_28_code 81 = .ok (.iload 4, 2) := by decide +kernel
theorem f134_83 : decode prog_10_method_28_code 83 = .ok (.ireturn, 1) := by decide +kernel
theorem f134_84 : decode prog_10_method_28_code 84 = .ok (.iload_n 2, 1) := by decide +kernel
theorem f134_85 : decode prog_10_method_28_code 85 = .ok (.iconst 2, 1) := by decide +kernel
theorem f134_86 : decode prog_10_method_28_code 86 = .ok (.irem, 1) := by decide +kernel
theorem f134_87 : decode prog_10_method_28_code 87 = .ok (.iconst 1, 1) := by decide +kernel
theorem f134_88 : decode prog_10_method_28_code 88 = .ok (.if_icmp .ne 16, 3) := by decide +kernel
theorem f134_91 : decode prog_10_method_28_code 91 = .ok (.iconst 2, 1) := by decide +kernel
theorem f134_92 : decode prog_10_method_28_code 92 = .ok (.iload_n 3, 1) := by decide +kernel
theorem f134_93 : decode prog_10_method_28_code 93 = .ok (.aload_n 0, 1) := by decide +kernel
theorem f134_94 : decode prog_10_method_28_code 94 = .ok (.getfield 15, 3) := by decide +kernel
theorem f134_97 : decode prog_10_method_28_code 97 = .ok (.iload_n 1, 1) := by decide +kernel
theorem f134_98 : decode prog_10_method_28_code 98 = .ok (.iaload, 1) := by decide +kernel
theorem f134_99 : decode prog_10_method_28_code 99 = .ok (.iadd, 1) := by decide +kernel
theorem f134_100 : decode prog_10_method_28_code 100 = .ok (.imul, 1) := by decide +kernel
theorem f134_101 : decode prog_10_method_28_code 101 = .ok (.goto 11, 3) := by decide +kernel
theorem f134_104 : decode prog_10_method_28_code 104 = .ok (.iload_n 3, 1) := by decide +kernel
theorem f134_105 : decode prog_10_method_28_code 105 = .ok (.aload_n 0, 1) := by decide +kernel
theorem f134_106 : decode prog_10_method_28_code 106 = .ok (.getfield 15, 3) := by decide +kernel
theorem f134_109 : decode prog_10_method_28_code 109 = .ok (.iload_n 1, 1) := by decide +kernel
theorem f134_110 : decode prog_10_method_28_code 110 = .ok (.iaload, 1) := by decide +kernel
theorem f134_111 : decode prog_10_method_28_code 111 = .ok (.iadd, 1) := by decide +kernel
theorem f134_112 : decode prog_10_method_28_code 112 = .ok (.ireturn, 1) := by decide +kernel
theorem f134_113 : decode prog_10_method_28_code 113 = .ok (.iload_n 3, 1) := by decide +kernel
theorem f134_114 : decode prog_10_method_28_code 114 = .ok (.iconst 2, 1) := by decide +kernel
theorem f134_115 : decode prog_10_method_28_code 115 = .ok (.idiv, 1) := by decide +kernel
theorem f134_116 : decode prog_10_method_28_code 116 = .ok (.bipush 9, 2) := by decide +kernel
theorem f134_118 : decode prog_10_method_28_code 118 = .ok (.aload_n 0, 1) := by decide +kernel
theorem f134_119 : decode prog_10_method_28_code 119 = .ok (.getfield 21, 3) := by decide +kernel
theorem f134_122 : decode prog_10_method_28_code 122 = .ok (.iload_n 1, 1) := by decide +kernel
theorem f134_123 : decode prog_10_method_28_code 123 = .ok (.iaload, 1) := by decide +kernel
theorem f134_124 : decode prog_10_method_28_code 124 = .ok (.invokestatic 248, 3) := by decide +kernel
theorem f134_127 : decode prog_10_method_28_code 127 = .ok (.iadd, 1) := by decide +kernel
theorem f134_128 : decode prog_10_method_28_code 128 = .ok (.ireturn, 1) := by decide +kernel
theorem f134_129 : decode prog_10_method_28_code 129 = .ok (.iload 4, 2) := by decide +kernel
theorem f134_131 : decode prog_10_method_28_code 131 = .ok (.aload_n 0, 1) := by decide +kernel
theorem f134_132 : decode prog_10_method_28_code 132 = .ok (.getfield 24, 3) := by decide +kernel
theorem f134_135 : decode prog_10_method_28_code 135 = .ok (.iconst 4, 1) := by decide +kernel
theorem f134_136 : decode prog_10_method_28_code 136 = .ok (.iload_n 1, 1) := by decide +kernel
theorem f134_137 : decode prog_10_method_28_code 137 = .ok (.imul, 1) := by decide +kernel
theorem f134_138 : decode prog_10_method_28_code 138 = .ok (.aload_n 0, 1) := by decide +kernel
theorem f134_139 : decode prog_10_method_28_code 139 = .ok (.getfield 235, 3) := by decide +kernel
theorem f134_142 : decode prog_10_method_28_code 142 = .ok (.iconst 4, 1) := by decide +kernel
theorem f134_143 : decode prog_10_method_28_code 143 = .ok (.irem, 1) := by decide +kernel
theorem f134_144 : decode prog_10_method_28_code 144 = .ok (.iadd, 1) := by decide +kernel
theorem f134_145 : decode prog_10_method_28_code 145 = .ok (.iaload, 1) := by decide +kernel
theorem f134_146 : decode prog_10_method_28_code 146 = .ok (.iadd, 1) := by decide +kernel
theorem f134_147 : decode prog_10_method_28_code 147 = .ok (.ireturn, 1) := by decide +kernel
theorem f134_148 : decode prog_10_method_28_code 148 = .ok (.iload_n 3, 1) := by decide +kernel
theorem f134_149 : decode prog_10_method_28_code 149 = .ok (.ireturn, 1) := by decide +kernel
theorem f135_0 : decode prog_10_method_26_code 0 = .ok (.aload_n 0, 1) := by decide +kernel
theorem f135_1 : decode prog_10_method_26_code 1 = .ok (.getfield 18, 3) := by decide +kernel
theorem f135_4 : decode prog_10_method_26_code 4 = .ok (.bipush 6, 2) := by decide +kernel
theorem f135_6 : decode prog_10_method_26_code 6 = .ok (.iload_n 1, 1) := by decide +kernel
theorem f135_7 : decode prog_10_method_26_code 7 = .ok (.imul, 1) := by decide +kernel
theorem f135_8 : decode prog_10_method_26_code 8 = .ok (.iload_n 2, 1) := by decide +kernel
theorem f135_9 : decode prog_10_method_26_code 9 = .ok (.iadd, 1) := by decide +kernel
theorem f135_10 : decode prog_10_method_26_code 10 = .ok (.iaload, 1) := by decide +kernel
theorem f135_11 : decode prog_10_method_26_code 11 = .ok (.istore_n 3, 1) := by decide +kernel
theorem f135_12 : decode prog_10_method_26_code 12 = .ok (.iconst 0, 1) := by decide +kernel
theorem f135_13 : decode prog_10_method_26_code 13 = .ok (.istore 4, 2) := by decide +kernel
theorem f135_15 : decode prog_10_method_26_code 15 = .ok (.aload_n 0, 1) := by decide +kernel
theorem f135_16 : decode prog_10_method_26_code 16 = .ok (.getfield 110, 3) := by decide +kernel
theorem f135_19 : decode prog_10_method_26_code 19 = .ok (.iconst (-1), 1) := by decide +kernel
theorem f135_20 : decode prog_10_method_26_code 20 = .ok (.if_icmp .eq 88, 3) := by decide +kernel
theorem f135_23 : decode prog_10_method_26_code 23 = .ok (.iload 4, 2) := by decide +kernel
theorem f135_25 : decode prog_10_method_26_code 25 = .ok (.aload_n 0, 1) := by decide +kernel
theorem f135_26 : decode prog_10_method_26_code 26 = .ok (.getfield 33, 3) := by decide +kernel
theorem f135_29 : decode prog_10_method_26_code 29 = .ok (.aload_n 0, 1) := by decide +kernel
theorem f135_30 : decode prog_10_method_26_code 30 = .ok (.getfield 110, 3) := by decide +kernel
theorem f135_33 : decode prog_10_method_26_code 33 = .ok (.iaload, 1) := by decide +kernel
theorem f135_34 : decode prog_10_method_26_code 34 = .ok (.if_icmp .ge 74, 3) := by decide +kernel
theorem f135_37 : decode prog_10_method_26_code 37 = .ok (.bipush 10, 2) := by decide +kernel
theorem f135_39 : decode prog_10_method_26_code 39 = .ok (.aload_n 0, 1) := by decide +kernel
theorem f135_40 : decode prog_10_method_26_code 40 = .ok (.getfield 110, 3) := by decide +kernel
theorem f135_43 : decode prog_10_method_26_code 43 = .ok (.imul, 1) := by decide +kernel
theorem f135_44 : decode prog_10_method_26_code 44 = .ok (.iload 4, 2) := by decide +kernel
theorem f135_46 : decode prog_10_method_26_code 46 = .ok (.iadd, 1) := by decide +kernel
theorem f135_47 : decode prog_10_method_26_code 47 = .ok (.istore 5, 2) := by decide +kernel
theorem f135_49 : decode prog_10_method_26_code 49 = .ok (.aload_n 0, 1) := by decide +kernel
theorem f135_50 : decode prog_10_method_26_code 50 = .ok (.getfield 36, 3) := by decide +kernel
theorem f135_53 : decode prog_10_method_26_code 53 = .ok (.iload 5, 2) := by decide +kernel
theorem f135_55 : decode prog_10_method_26_code 55 = .ok (.iaload, 1) := by decide +kernel
theorem f135_56 : decode prog_10_method_26_code 56 = .ok (.iconst 2, 1) := by decide +kernel
theorem f135_57 : decode prog_10_method_26_code 57 = .ok (.if_icmp .ge 45, 3) := by decide +kernel
theorem f135_60 : decode prog_10_method_26_code 60 = .ok (.aload_n 0, 1) := by decide +kernel
theorem f135_61 : decode prog_10_method_26_code 61 = .ok (.iload_n 1, 1) := by decide +kernel
theorem f135_62 : decode prog_10_method_26_code 62 = .ok (.iload_n 2, 1) := by decide +kernel
theorem f135_63 : decode prog_10_method_26_code 63 = .ok (.iload 5, 2) := by decide +kernel
theorem f135_65 : decode prog_10_method_26_code 65 = .ok (.invokevirtual 242, 3) := by decide +kernel
theorem f135_68 : decode prog_10_method_26_code 68 = .ok (.ifCond .eq 34, 3) := by decide +kernel
theorem f135_71 : decode prog_10_method_26_code 71 = .ok (.iload_n 3, 1) := by decide +kernel
theorem f135_72 : decode prog_10_method_26_code 72 = .ok (.aload_n 0, 1) := by decide +kernel
theorem f135_73 : decode prog_10_method_26_code 73 = .ok (.getfield 36, 3) := by decide +kernel
theorem f135_76 : decode prog_10_method_26_code 76 = .ok (.iload 5, 2) := by decide +kernel
theorem f135_78 : decode prog_10_method_26_code 78 = .ok (.iaload, 1) := by decide +kernel
theorem f135_79 : decode prog_10_method_26_code 79 = .ok (.ifCond .ne 13, 3) := by decide +kernel
theorem f135_82 : decode prog_10_method_26_code 82 = .ok (.aload_n 0, 1) := by decide +kernel
theorem f135_83 : decode prog_10_method_26_code 83 = .ok (.getfield 39, 3) := by decide +kernel
theorem f135_86 : decode prog_10_method_26_code 86 = .ok (.iload 5, 2) := by decide +kernel
theorem f135_88 : decode prog_10_method_26_code 88 = .ok (.iaload, 1) := by decide +kernel
theorem f135_89 : decode prog_10_method_26_code 89 = .ok (.goto 11, 3) := by decide +kernel
theorem f135_92 : decode prog_10_method_26_code 92 = .ok (.aload_n 0, 1) := by decide +kernel
theorem f135_93 : decode prog_10_method_26_code 93 = .ok (.getfield 39, 3) := by decide +kernel
theorem f135_96 : decode prog_10_method_26_code 96 = .ok (.iload 5, 2) := by decide +kernel
theorem f135_98 : decode prog_10_method_26_code 98 = .ok (.iaload, 1) := by decide +kernel
theorem f135_99 : decode prog_10_method_26_code 99 = .ok (.ineg, 1) := by decide +kernel
theorem f135_100 : decode prog_10_method_26_code 100 = .ok (.iadd, 1) := by decide +kernel
theorem f135_101 : decode prog_10_method_26_code 101 = .ok (.istore_n 3, 1) := by decide +kernel
theorem f135_102 : decode prog_10_method_26_code 102 = .ok (.iinc 4 1, 3) := by decide +kernel
theorem f135_105 : decode prog_10_method_26_code 105 = .ok (.goto (-90), 3) := by decide +kernel
theorem f135_108 : decode prog_10_method_26_code 108 = .ok (.iload_n 3, 1) := by decide +kernel
theorem f135_109 : decode prog_10_method_26_code 109 = .ok (.ireturn, 1) := by decide +kernel
theorem f136_0 : decode prog_10_method_25_code 0 = .ok (.iconst 0, 1) := by decide +kernel
theorem f136_1 : decode prog_10_method_25_code 1 = .ok (.istore 4, 2) := by decide +kernel
theorem f136_3 : decode prog_10_method_25_code 3 = .ok (.aload_n 0, 1) := by decide +kernel
theorem f136_4 : decode prog_10_method_25_code 4 = .ok (.getfield 42, 3) := by decide +kernel
theorem f136_7 : decode prog_10_method_25_code 7 = .ok (.iload_n 3, 1) := by decide +kernel
theorem f136_8 : decode prog_10_method_25_code 8 = .ok (.iaload, 1) := by decide +kernel
theorem f136_9 : decode prog_10_method_25_code 9 = .ok (.istore 5, 2) := by decide +kernel
theorem f136_11 : decode prog_10_method_25_code 11 = .ok (.iload 5, 2) := by decide +kernel
theorem f136_13 : decode prog_10_method_25_code 13 = .ok (.aload_n 0, 1) := by decide +kernel
theorem f136_14 : decode prog_10_method_25_code 14 = .ok (.getfield 42, 3) := by decide +kernel
theorem f136_17 : decode prog_10_method_25_code 17 = .ok (.iload_n 3, 1) := by decide +kernel
theorem f136_18 : decode prog_10_method_25_code 18 = .ok (.iaload, 1) := by decide +kernel
theorem f136_19 : decode prog_10_method_25_code 19 = .ok (.aload_n 0, 1) := by decide +kernel
theorem f136_20 : decode prog_10_method_25_code 20 = .ok (.getfield 45, 3) := by decide +kernel
theorem f136_23 : decode prog_10_method_25_code 23 = .ok (.iload_n 3, 1) := by decide +kernel
theorem f136_24 : decode prog_10_method_25_code 24 = .ok (.iaload, 1) := by decide +kernel
theorem f136_25 : decode prog_10_method_25_code 25 = .ok (.iadd, 1) := by decide +kernel
theorem f136_26 : decode prog_10_method_25_code 26 = .ok (.if_icmp .ge 235, 3) := by decide +kernel
theorem f136_29 : decode prog_10_method_25_code 29 = .ok (.aload_n 0, 1) := by decide +kernel
theorem f136_30 : decode prog_10_method_25_code 30 = .ok (.getfield 48, 3) := by decide +kernel
theorem f136_33 : decode prog_10_method_25_code 33 = .ok (.iload 5, 2) := by decide +kernel
theorem f136_35 : decode prog_10_method_25_code 35 = .ok (.iaload, 1) := by decide +kernel
theorem f136_36 : decode prog_10_method_25_code 36 = .ok (.istore 6, 2) := by decide +kernel
theorem f136_38 : decode prog_10_method_25_code 38 = .ok (.iload 6, 2) := by decide +kernel
theorem f136_40 : decode prog_10_method_25_code 40 = .ok (.iconst 3, 1) := by decide +kernel
theorem f136_41 : decode prog_10_method_25_code 41 = .ok (.if_icmp .lt 105, 3) := by decide +kernel
theorem f136_44 : decode prog_10_method_25_code 44 = .ok (.aload_n 0, 1) := by decide +kernel
theorem f136_45 : decode prog_10_method_25_code 45 = .ok (.iload_n 1, 1) := by decide +kernel
theorem f136_46 : decode prog_10_method_25_code 46 = .ok (.iload_n 2, 1) := by decide +kernel
theorem f136_47 : decode prog_10_method_25_code 47 = .ok (.iload 6, 2) := by decide +kernel
theorem f136_49 : decode prog_10_method_25_code 49 = .ok (.iconst 3, 1) := by decide +kernel
theorem f136_50 : decode prog_10_method_25_code 50 = .ok (.isub, 1) := by decide +kernel
theorem f136_51 : decode prog_10_method_25_code 51 = .ok (.sipush 300, 3) := by decide +kernel
theorem f136_54 : decode prog_10_method_25_code 54 = .ok (.idiv, 1) := by decide +kernel
theorem f136_55 : decode prog_10_method_25_code 55 = .ok (.invokevirtual 238, 3) := by decide +kernel
theorem f136_58 : decode prog_10_method_25_code 58 = .ok (.istore 7, 2) := by decide +kernel
theorem f136_60 : decode prog_10_method_25_code 60 = .ok (.iload 6, 2) := by decide +kernel
theorem f136_62 : decode prog_10_method_25_code 62 = .ok (.iconst 3, 1) := by decide +kernel
theorem f136_63 : decode prog_10_method_25_code 63 = .ok (.isub, 1) := by decide +kernel
theorem f136_64 : decode prog_10_method_25_code 64 = .ok (.bipush 100, 2) := by decide +kernel
theorem f136_66 : decode prog_10_method_25_code 66 = .ok (.irem, 1) := by decide +kernel
theorem f136_67 : decode prog_10_method_25_code 67 = .ok (.istore 8, 2) := by decide +kernel
theorem f136_69 : decode prog_10_method_25_code 69 = .ok (.iload 6, 2) := by decide +kernel
theorem f136_71 : decode prog_10_method_25_code 71 = .ok (.iconst 3, 1) := by decide +kernel
theorem f136_72 : decode prog_10_method_25_code 72 = .ok (.isub, 1) := by decide +kernel
theorem f136_73 : decode prog_10_method_25_code 73 = .ok (.bipush 100, 2) := by decide +kernel
theorem f136_75 : decode prog_10_method_25_code 75 = .ok (.idiv, 1) := by decide +kernel
theorem f136_76 : decode prog_10_method_25_code 76 = .ok (.iconst 3, 1) := by decide +kernel
theorem f136_77 : decode prog_10_method_25_code 77 = .ok (.irem, 1) := by decide +kernel
theorem f136_78 : decode prog_10_method_25_code 78 = .ok (.istore 9, 2) := by decide +kernel
theorem f136_80 : decode prog_10_method_25_code 80 = .ok (.aload_n 0, 1) := by decide +kernel
theorem f136_81 : decode prog_10_method_25_code 81 = .ok (.getfield 51, 3) := by decide +kernel
theorem f136_84 : decode prog_10_method_25_code 84 = .ok (.iload 4, 2) := by decide +kernel
theorem f136_86 : decode prog_10_method_25_code 86 = .ok (.iinc 4 1, 3) := by decide +kernel
theorem f136_89 : decode prog_10_method_25_code 89 = .ok (.iload 9, 2) := by decide +kernel
theorem f136_91 : decode prog_10_method_25_code 91 = .ok (.ifCond .ne 18, 3) := by decide +kernel
theorem f136_94 : decode prog_10_method_25_code 94 = .ok (.iload 7, 2) := by decide +kernel
theorem f136_96 : decode prog_10_method_25_code 96 = .ok (.iload 8, 2) := by decide +kernel
theorem f136_98 : decode prog_10_method_25_code 98 = .ok (.if_icmp .ge 7, 3) := by decide +kernel
theorem f136_101 : decode prog_10_method_25_code 101 = .ok (.iconst 1, 1) := by decide +kernel
theorem f136_102 : decode prog_10_method_25_code 102 = .ok (.goto 40, 3) := by decide +kernel
theorem f136_105 : decode prog_10_method_25_code 105 = .ok (.iconst 0, 1) := by decide +kernel
theorem f136_106 : decode prog_10_method_25_code 106 = .ok (.goto 36, 3) := by decide +kernel
theorem f136_109 : decode prog_10_method_25_code 109 = .ok (.iload 9, 2) := by decide +kernel
theorem f136_111 : decode prog_10_method_25_code 111 = .ok (.iconst 1, 1) := by decide +kernel
theorem f136_112 : decode prog_10_method_25_code 112 = .ok (.if_icmp .ne 18, 3) := by decide +kernel
theorem f136_115 : decode prog_10_method_25_code 115 = .ok (.iload 7, 2) := by decide +kernel
theorem f136_117 : decode prog_10_method_25_code 117 = .ok (.iload 8, 2) := by decide +kernel
theorem f136_119 : decode prog_10_method_25_code 119 = .ok (.if_icmp .ne 7, 3) := by decide +kernel
theorem f136_122 : decode prog_10_method_25_code 122 = .ok (.iconst 1, 1) := by decide +kernel
theorem f136_123 : decode prog_10_method_25_code 123 = .ok (.goto 19, 3) := by decide +kernel
theorem f136_126 : decode prog_10_method_25_code 126 = .ok (.iconst 0, 1) := by decide +kernel
theorem f136_127 : decode prog_10_method_25_code 127 = .ok (.goto 15, 3) := by decide +kernel
theorem f136_130 : decode prog_10_method_25_code 130 = .ok (.iload 7, 2) := by decide +kernel
theorem f136_132 : decode prog_10_method_25_code 132 = .ok (.iload 8, 2) := by decide +kernel
theorem f136_134 : decode prog_10_method_25_code 134 = .ok (.if_icmp .le 7, 3) := by decide +kernel
theorem f136_137 : decode prog_10_method_25_code 137 = .ok (.iconst 1, 1) := by decide +kernel
theorem f136_138 : decode prog_10_method_25_code 138 = .ok (.goto 4, 3) := by decide +kernel
theorem f136_141 : decode prog_10_method_25_code 141 = .ok (.iconst 0, 1) := by decide +kernel
theorem f136_142 : decode prog_10_method_25_code 142 = .ok (.bastore, 1) := by decide +kernel
theorem f136_143 : decode prog_10_method_25_code 143 = .ok (.goto 112, 3) := by decide +kernel
theorem f136_146 : decode prog_10_method_25_code 146 = .ok (.iload 6, 2) := by decide +kernel
theorem f136_148 : decode prog_10_method_25_code 148 = .ok (.ifCond .ne 32, 3) := by decide +kernel
theorem f136_151 : decode prog_10_method_25_code 151 = .ok (.aload_n 0, 1) := by decide +kernel
theorem f136_152 : decode prog_10_method_25_code 152 = .ok (.getfield 51, 3) := by decide +kernel
theorem f136_155 : decode prog_10_method_25_code 155 = .ok (.iload 4, 2) := by decide +kernel
theorem f136_157 : decode prog_10_method_25_code 157 = .ok (.iconst 1, 1) := by decide +kernel
theorem f136_158 : decode prog_10_method_25_code 158 = .ok (.isub, 1) := by decide +kernel
theorem f136_159 : decode prog_10_method_25_code 159 = .ok (.aload_n 0, 1) := by decide +kernel
theorem f136_160 : decode prog_10_method_25_code 160 = .ok (.getfield 51, 3) := by decide +kernel
theorem f136_163 : decode prog_10_method_25_code 163 = .ok (.iload 4, 2) := by decide +kernel
theorem f136_165 : decode prog_10_method_25_code 165 = .ok (.iconst 1, 1) := by decide +kernel
theorem f136_166 : decode prog_10_method_25_code 166 = .ok (.isub, 1) := by decide +kernel
theorem f136_167 : decode prog_10_method_25_code 167 = .ok (.baload, 1) := by decide +kernel
theorem f136_168 : decode prog_10_method_25_code 168 = .ok (.ifCond .ne 7, 3) := by decide +kernel
theorem f136_171 : decode prog_10_method_25_code 171 = .ok (.iconst 1, 1) := by decide +kernel
theorem f136_172 : decode prog_10_method_25_code 172 = .ok (.goto 4, 3) := by decide +kernel
theorem f136_175 : decode prog_10_method_25_code 175 = .ok (.iconst 0, 1) := by decide +kernel
theorem f136_176 : decode prog_10_method_25_code 176 = .ok (.bastore, 1) := by decide +kernel
theorem f136_177 : decode prog_10_method_25_code 177 = .ok (.goto 78, 3) := by decide +kernel
theorem f136_180 : decode prog_10_method_25_code 180 = .ok (.iinc 4 (-1), 3) := by decide +kernel
theorem f136_183 : decode prog_10_method_25_code 183 = .ok (.aload_n 0, 1) := by decide +kernel
theorem f136_184 : decode prog_10_method_25_code 184 = .ok (.getfield 51, 3) := by decide +kernel
theorem f136_187 : decode prog_10_method_25_code 187 = .ok (.iload 4, 2) := by decide +kernel
theorem f136_189 : decode prog_10_method_25_code 189 = .ok (.iconst 1, 1) := by decide +kernel
theorem f136_190 : decode prog_10_method_25_code 190 = .ok (.isub, 1) := by decide +kernel
theorem f136_191 : decode prog_10_method_25_code 191 = .ok (.iload 6, 2) := by decide +kernel
theorem f136_193 : decode prog_10_method_25_code 193 = .ok (.iconst 1, 1) := by decide +kernel
theorem f136_194 : decode prog_10_method_25_code 194 = .ok (.if_icmp .ne 33, 3) := by decide +kernel
theorem f136_197 : decode prog_10_method_25_code 197 = .ok (.aload_n 0, 1) := by decide +kernel
theorem f136_198 : decode prog_10_method_25_code 198 = .ok (.getfield 51, 3) := by decide +kernel
theorem f136_201 : decode prog_10_method_25_code 201 = .ok (.iload 4, 2) := by decide +kernel
theorem f136_203 : decode prog_10_method_25_code 203 = .ok (.iconst 1, 1) := by decide +kernel
theorem f136_204 : decode prog_10_method_25_code 204 = .ok (.isub, 1) := by decide +kernel
theorem f136_205 : decode prog_10_method_25_code 205 = .ok (.baload, 1) := by decide +kernel
theorem f136_206 : decode prog_10_method_25_code 206 = .ok (.ifCond .eq 17, 3) := by decide +kernel
theorem f136_209 : decode prog_10_method_25_code 209 = .ok (.aload_n 0, 1) := by decide +kernel
theorem f136_210 : decode prog_10_method_25_code 210 = .ok (.getfield 51, 3) := by decide +kernel
theorem f136_213 : decode prog_10_method_25_code 213 = .ok (.iload 4, 2) := by decide +kernel
theorem f136_215 : decode prog_10_method_25_code 215 = .ok (.baload, 1) := by decide +kernel
theorem f136_216 : decode prog_10_method_25_code 216 = .ok (.ifCond .eq 7, 3) := by decide +kernel
theorem f136_219 : decode prog_10_method_25_code 219 = .ok (.iconst 1, 1) := by decide +kernel
theorem f136_220 : decode prog_10_method_25_code 220 = .ok (.goto 34, 3) := by decide +kernel
theorem f136_223 : decode prog_10_method_25_code 223 = .ok (.iconst 0, 1) := by decide +kernel
theorem f136_224 : decode prog_10_method_25_code 224 = .ok (.goto 30, 3) := by decide +kernel
theorem f136_227 : decode prog_10_method_25_code 227 = .ok (.aload_n 0, 1) := by decide +kernel
theorem f136_228 : decode prog_10_method_25_code 228 = .ok (.getfield 51, 3) := by decide +kernel
theorem f136_231 : decode prog_10_method_25_code 231 = .ok (.iload 4, 2) := by decide +kernel
theorem f136_233 : decode prog_10_method_25_code 233 = .ok (.iconst 1, 1) := by decide +kernel
theorem f136_234 : decode prog_10_method_25_code 234 = .ok (.isub, 1) := by decide +kernel
theorem f136_235 : decode prog_10_method_25_code 235 = .ok (.baload, 1) := by decide +kernel
theorem f136_236 : decode prog_10_method_25_code 236 = .ok (.ifCond .ne 13, 3) := by decide +kernel
theorem f136_239 : decode prog_10_method_25_code 239 = .ok (.aload_n 0, 1) := by decide +kernel
theorem f136_240 : decode prog_10_method_25_code 240 = .ok (.getfield 51, 3) := by decide +kernel
theorem f136_243 : decode prog_10_method_25_code 243 = .ok (.iload 4, 2) := by decide +kernel
theorem f136_245 : decode prog_10_method_25_code 245 = .ok (.baload, 1) := by decide +kernel
theorem f136_246 : decode prog_10_method_25_code 246 = .ok (.ifCond .eq 7, 3) := by decide +kernel
theorem f136_249 : decode prog_10_method_25_code 249 = .ok (.iconst 1, 1) := by decide +kernel
theorem f136_250 : decode prog_10_method_25_code 250 = .ok (.goto 4, 3) := by decide +kernel
theorem f136_253 : decode prog_10_method_25_code 253 = .ok (.iconst 0, 1) := by decide +kernel
theorem f136_254 : decode prog_10_method_25_code 254 = .ok (.bastore, 1) := by decide +kernel
theorem f136_255 : decode prog_10_method_25_code 255 = .ok (.iinc 5 1, 3) := by decide +kernel
theorem f136_258 : decode prog_10_method_25_code 258 = .ok (.goto (-247), 3) := by decide +kernel
theorem f136_261 : decode prog_10_method_25_code 261 = .ok (.aload_n 0, 1) := by decide +kernel
theorem f136_262 : decode prog_10_method_25_code 262 = .ok (.getfield 51, 3) := by decide +kernel
theorem f136_265 : decode prog_10_method_25_code 265 = .ok (.iconst 0, 1) := by decide +kernel
theorem f136_266 : decode prog_10_method_25_code 266 = .ok (.baload, 1) := by decide +kernel
theorem f136_267 : decode prog_10_method_25_code 267 = .ok (.ireturn, 1) := by decide +kernel
theorem f141_0 : decode prog_10_method_57_code 0 = .ok (.iconst 0, 1) := by decide +kernel
theorem f141_1 : decode prog_10_method_57_code 1 = .ok (.istore_n 2, 1) := by decide +kernel
theorem f141_2 : decode prog_10_method_57_code 2 = .ok (.iload_n 2, 1) := by decide +kernel
theorem f141_3 : decode prog_10_method_57_code 3 = .ok (.bipush 6, 2) := by decide +kernel
theorem f141_5 : decode prog_10_method_57_code 5 = .ok (.if_icmp .ge 42, 3) := by decide +kernel
theorem f141_8 : decode prog_10_method_57_code 8 = .ok (.aload_n 1, 1) := by decide +kernel
theorem f141_9 : decode prog_10_method_57_code 9 = .ok (.iload_n 2, 1) := by decide +kernel
theorem f141_10 : decode prog_10_method_57_code 10 = .ok (.aload_n 0, 1) := by decide +kernel
theorem f141_11 : decode prog_10_method_57_code 11 = .ok (.getfield 9, 3) := by decide +kernel
theorem f141_14 : decode prog_10_method_57_code 14 = .ok (.iload_n 2, 1) := by decide +kernel
theorem f141_15 : decode prog_10_method_57_code 15 = .ok (.iaload, 1) := by decide +kernel
theorem f141_16 : decode prog_10_method_57_code 16 = .ok (.iastore, 1) := by decide +kernel
theorem f141_17 : decode prog_10_method_57_code 17 = .ok (.aload_n 1, 1) := by decide +kernel
theorem f141_18 : decode prog_10_method_57_code 18 = .ok (.bipush 6, 2) := by decide +kernel
theorem f141_20 : decode prog_10_method_57_code 20 = .ok (.iload_n 2, 1) := by decide +kernel
theorem f141_21 : decode prog_10_method_57_code 21 = .ok (.iadd, 1) := by decide +kernel
theorem f141_22 : decode prog_10_method_57_code 22 = .ok (.aload_n 0, 1) := by decide +kernel
theorem f141_23 : decode prog_10_method_57_code 23 = .ok (.getfield 15, 3) := by decide +kernel
theorem f141_26 : decode prog_10_method_57_code 26 = .ok (.iload_n 2, 1) := by decide +kernel
theorem f141_27 : decode prog_10_method_57_code 27 = .ok (.iaload, 1) := by decide +kernel
theorem f141_28 : decode prog_10_method_57_code 28 = .ok (.iastore, 1) := by decide +kernel
theorem f141_29 : decode prog_10_method_57_code 29 = .ok (.aload_n 1, 1) := by decide +kernel
theorem f141_30 : decode prog_10_method_57_code 30 = .ok (.bipush 12, 2) := by decide +kernel
theorem f141_32 : decode prog_10_method_57_code 32 = .ok (.iload_n 2, 1) := by decide +kernel
theorem f141_33 : decode prog_10_method_57_code 33 = .ok (.iadd, 1) := by decide +kernel
theorem f141_34 : decode prog_10_method_57_code 34 = .ok (.aload_n 0, 1) := by decide +kernel
theorem f141_35 : decode prog_10_method_57_code 35 = .ok (.getfield 21, 3) := by decide +kernel
theorem f141_38 : decode prog_10_method_57_code 38 = .ok (.iload_n 2, 1) := by decide +kernel
theorem f141_39 : decode prog_10_method_57_code 39 = .ok (.iaload, 1) := by decide +kernel
theorem f141_40 : decode prog_10_method_57_code 40 = .ok (.iastore, 1) := by decide +kernel
theorem f141_41 : decode prog_10_method_57_code 41 = .ok (.iinc 2 1, 3) := by decide +kernel
theorem f141_44 : decode prog_10_method_57_code 44 = .ok (.goto (-42), 3) := by decide +kernel
theorem f141_47 : decode prog_10_method_57_code 47 = .ok (.iconst 0, 1) := by decide +kernel
theorem f141_48 : decode prog_10_method_57_code 48 = .ok (.istore_n 2, 1) := by decide +kernel
theorem f141_49 : decode prog_10_method_57_code 49 = .ok (.iload_n 2, 1) := by decide +kernel
theorem f141_50 : decode prog_10_method_57_code 50 = .ok (.bipush 36, 2) := by decide +kernel
theorem f141_52 : decode prog_10_method_57_code 52 = .ok (.if_icmp .ge 21, 3) := by decide +kernel
theorem f141_55 : decode prog_10_method_57_code 55 = .ok (.aload_n 1, 1) := by decide +kernel
theorem f141_56 : decode prog_10_method_57_code 56 = .ok (.bipush 18, 2) := by decide +kernel
theorem f141_58 : decode prog_10_method_57_code 58 = .ok (.iload_n 2, 1) := by decide +kernel
theorem f141_59 : decode prog_10_method_57_code 59 = .ok (.iadd, 1) := by decide +kernel
theorem f141_60 : decode prog_10_method_57_code 60 = .ok (.aload_n 0, 1) := by decide +kernel
theorem f141_61 : decode prog_10_method_57_code 61 = .ok (.getfield 18, 3) := by decide +kernel
theorem f141_64 : decode prog_10_method_57_code 64 = .ok (.iload_n 2, 1) := by decide +kernel
theorem f141_65 : decode prog_10_method_57_code 65 = .ok (.iaload, 1) := by decide +kernel
theorem f141_66 : decode prog_10_method_57_code 66 = .ok (.iastore, 1) := by decide +kernel
theorem f141_67 : decode prog_10_method_57_code 67 = .ok (.iinc 2 1, 3) := by decide +kernel
theorem f141_70 : decode prog_10_method_57_code 70 = .ok (.goto (-21), 3) := by decide +kernel
theorem f141_73 : decode prog_10_method_57_code 73 = .ok (.iconst 0, 1) := by decide +kernel
theorem f141_74 : decode prog_10_method_57_code 74 = .ok (.istore_n 2, 1) := by decide +kernel
theorem f141_75 : decode prog_10_method_57_code 75 = .ok (.iload_n 2, 1) := by decide +kernel
theorem f141_76 : decode prog_10_method_57_code 76 = .ok (.bipush 24, 2) := by decide +kernel
theorem f141_78 : decode prog_10_method_57_code 78 = .ok (.if_icmp .ge 21, 3) := by decide +kernel
theorem f141_81 : decode prog_10_method_57_code 81 = .ok (.aload_n 1, 1) := by decide +kernel
theorem f141_82 : decode prog_10_method_57_code 82 = .ok (.bipush 54, 2) := by decide +kernel
theorem f141_84 : decode prog_10_method_57_code 84 = .ok (.iload_n 2, 1) := by decide +kernel
theorem f141_85 : decode prog_10_method_57_code 85 = .ok (.iadd, 1) := by decide +kernel
theorem f141_86 : decode prog_10_method_57_code 86 = .ok (.aload_n 0, 1) := by decide +kernel
theorem f141_87 : decode prog_10_method_57_code 87 = .ok (.getfield 24, 3) := by decide +kernel
theorem f141_90 : decode prog_10_method_57_code 90 = .ok (.iload_n 2, 1) := by decide +kernel
theorem f141_91 : decode prog_10_method_57_code 91 = .ok (.iaload, 1) := by decide +kernel
theorem f141_92 : decode prog_10_method_57_code 92 = .ok (.iastore, 1) := by decide +kernel
theorem f141_93 : decode prog_10_method_57_code 93 = .ok (.iinc 2 1, 3) := by decide +kernel
theorem f141_96 : decode prog_10_method_57_code 96 = .ok (.goto (-21), 3) := by decide +kernel
theorem f141_99 : decode prog_10_method_57_code 99 = .ok (.iconst 0, 1) := by decide +kernel
theorem f141_100 : decode prog_10_method_57_code 100 = .ok (.istore_n 2, 1) := by decide +kernel
theorem f141_101 : decode prog_10_method_57_code 101 = .ok (.iload_n 2, 1) := by decide +kernel
theorem f141_102 : decode prog_10_method_57_code 102 = .ok (.bipush 8, 2) := by decide +kernel
theorem f141_104 : decode prog_10_method_57_code 104 = .ok (.if_icmp .ge 45, 3) := by decide +kernel
theorem f141_107 : decode prog_10_method_57_code 107 = .ok (.aload_n 1, 1) := by decide +kernel
theorem f141_108 : decode prog_10_method_57_code 108 = .ok (.bipush 78, 2) := by decide +kernel
theorem f141_110 : decode prog_10_method_57_code 110 = .ok (.iload_n 2, 1) := by decide +kernel
theorem f141_111 : decode prog_10_method_57_code 111 = .ok (.iadd, 1) := by decide +kernel
theorem f141_112 : decode prog_10_method_57_code 112 = .ok (.aload_n 0, 1) := by decide +kernel
theorem f141_113 : decode prog_10_method_57_code 113 = .ok (.getfield 27, 3) := by decide +kernel
theorem f141_116 : decode prog_10_method_57_code 116 = .ok (.iload_n 2, 1) := by decide +kernel
theorem f141_117 : decode prog_10_method_57_code 117 = .ok (.iaload, 1) := by decide +kernel
theorem f141_118 : decode prog_10_method_57_code 118 = .ok (.iastore, 1) := by decide +kernel
theorem f141_119 : decode prog_10_method_57_code 119 = .ok (.aload_n 1, 1) := by decide +kernel
theorem f141_120 : decode prog_10_method_57_code 120 = .ok (.bipush 86, 2) := by decide +kernel
theorem f141_122 : decode prog_10_method_57_code 122 = .ok (.iload_n 2, 1) := by decide +kernel
theorem f141_123 : decode prog_10_method_57_code 123 = .ok (.iadd, 1) := by decide +kernel
theorem f141_124 : decode prog_10_method_57_code 124 = .ok (.aload_n 0, 1) := by decide +kernel
theorem f141_125 : decode prog_10_method_57_code 125 = .ok (.getfield 73, 3) := by decide +kernel
theorem f141_128 : decode prog_10_method_57_code 128 = .ok (.iload_n 2, 1) := by decide +kernel
theorem f141_129 : decode prog_10_method_57_code 129 = .ok (.iaload, 1) := by decide +kernel
theorem f141_130 : decode prog_10_method_57_code 130 = .ok (.iastore, 1) := by decide +kernel
theorem f141_131 : decode prog_10_method_57_code 131 = .ok (.aload_n 1, 1) := by decide +kernel
theorem f141_132 : decode prog_10_method_57_code 132 = .ok (.bipush 94, 2) := by decide +kernel
theorem f141_134 : decode prog_10_method_57_code 134 = .ok (.iload_n 2, 1) := by decide +kernel
theorem f141_135 : decode prog_10_method_57_code 135 = .ok (.iadd, 1) := by decide +kernel
theorem f141_136 : decode prog_10_method_57_code 136 = .ok (.aload_n 0, 1) := by decide +kernel
theorem f141_137 : decode prog_10_method_57_code 137 = .ok (.getfield 76, 3) := by decide +kernel
theorem f141_140 : decode prog_10_method_57_code 140 = .ok (.iload_n 2, 1) := by decide +kernel
theorem f141_141 : decode prog_10_method_57_code 141 = .ok (.iaload, 1) := by decide +kernel
theorem f141_142 : decode prog_10_method_57_code 142 = .ok (.iastore, 1) := by decide +kernel
theorem f141_143 : decode prog_10_method_57_code 143 = .ok (.iinc 2 1, 3) := by decide +kernel
theorem f141_146 : decode prog_10_method_57_code 146 = .ok (.goto (-45), 3) := by decide +kernel
theorem f141_149 : decode prog_10_method_57_code 149 = .ok (.iconst 0, 1) := by decide +kernel
theorem f141_150 : decode prog_10_method_57_code 150 = .ok (.istore_n 2, 1) := by decide +kernel
theorem f141_151 : decode prog_10_method_57_code 151 = .ok (.iload_n 2, 1) := by decide +kernel
theorem f141_152 : decode prog_10_method_57_code 152 = .ok (.iconst 5, 1) := by decide +kernel
theorem f141_153 : decode prog_10_method_57_code 153 = .ok (.if_icmp .ge 57, 3) := by decide +kernel
theorem f141_156 : decode prog_10_method_57_code 156 = .ok (.aload_n 1, 1) := by decide +kernel
theorem f141_157 : decode prog_10_method_57_code 157 = .ok (.bipush 102, 2) := by decide +kernel
theorem f141_159 : decode prog_10_method_57_code 159 = .ok (.iload_n 2, 1) := by decide +kernel
theorem f141_160 : decode prog_10_method_57_code 160 = .ok (.iadd, 1) := by decide +kernel
theorem f141_161 : decode prog_10_method_57_code 161 = .ok (.aload_n 0, 1) := by decide +kernel
theorem f141_162 : decode prog_10_method_57_code 162 = .ok (.getfield 55, 3) := by decide +kernel
theorem f141_165 : decode prog_10_method_57_code 165 = .ok (.iload_n 2, 1) := by decide +kernel
theorem f141_166 : decode prog_10_method_57_code 166 = .ok (.iaload, 1) := by decide +kernel
theorem f141_167 : decode prog_10_method_57_code 167 = .ok (.iastore, 1) := by decide +kernel
theorem f141_168 : decode prog_10_method_57_code 168 = .ok (.aload_n 1, 1) := by decide +kernel
theorem f141_169 : decode prog_10_method_57_code 169 = .ok (.bipush 107, 2) := by decide +kernel
theorem f141_171 : decode prog_10_method_57_code 171 = .ok (.iload_n 2, 1) := by decide +kernel
theorem f141_172 : decode prog_10_method_57_code 172 = .ok (.iadd, 1) := by decide +kernel
theorem f141_173 : decode prog_10_method_57_code 173 = .ok (.aload_n 0, 1) := by decide +kernel
theorem f141_174 : decode prog_10_method_57_code 174 = .ok (.getfield 58, 3) := by decide +kernel
theorem f141_177 : decode prog_10_method_57_code 177 = .ok (.iload_n 2, 1) := by decide +kernel
theorem f141_178 : decode prog_10_method_57_code 178 = .ok (.iaload, 1) := by decide +kernel
theorem f141_179 : decode prog_10_method_57_code 179 = .ok (.iastore, 1) := by decide +kernel
theorem f141_180 : decode prog_10_method_57_code 180 = .ok (.aload_n 1, 1) := by decide +kernel
theorem f141_181 : decode prog_10_method_57_code 181 = .ok (.bipush 112, 2) := by decide +kernel
theorem f141_183 : decode prog_10_method_57_code 183 = .ok (.iload_n 2, 1) := by decide +kernel
theorem f141_184 : decode prog_10_method_57_code 184 = .ok (.iadd, 1) := by decide +kernel
theorem f141_185 : decode prog_10_method_57_code 185 = .ok (.aload_n 0, 1) := by decide +kernel
theorem f141_186 : decode prog_10_method_57_code 186 = .ok (.getfield 61, 3) := by decide +kernel
theorem f141_189 : decode prog_10_method_57_code 189 = .ok (.iload_n 2, 1) := by decide +kernel
theorem f141_190 : decode prog_10_method_57_code 190 = .ok (.iaload, 1) := by decide +kernel
theorem f141_191 : decode prog_10_method_57_code 191 = .ok (.iastore, 1) := by decide +kernel
theorem f141_192 : decode prog_10_method_57_code 192 = .ok (.aload_n 1, 1) := by decide +kernel
theorem f141_193 : decode prog_10_method_57_code 193 = .ok (.bipush 117, 2) := by decide +kernel
theorem f141_195 : decode prog_10_method_57_code 195 = .ok (.iload_n 2, 1) := by decide +kernel
theorem f141_196 : decode prog_10_method_57_code 196 = .ok (.iadd, 1) := by decide +kernel
theorem f141_197 : decode prog_10_method_57_code 197 = .ok (.aload_n 0, 1) := by decide +kernel
theorem f141_198 : decode prog_10_method_57_code 198 = .ok (.getfield 64, 3) := by decide +kernel
theorem f141_201 : decode prog_10_method_57_code 201 = .ok (.iload_n 2, 1) := by decide +kernel
theorem f141_202 : decode prog_10_method_57_code 202 = .ok (.iaload, 1) := by decide +kernel
theorem f141_203 : decode prog_10_method_57_code 203 = .ok (.iastore, 1) := by decide +kernel
theorem f141_204 : decode prog_10_method_57_code 204 = .ok (.iinc 2 1, 3) := by decide +kernel
theorem f141_207 : decode prog_10_method_57_code 207 = .ok (.goto (-56), 3) := by decide +kernel
theorem f141_210 : decode prog_10_method_57_code 210 = .ok (.iconst 0, 1) := by decide +kernel
theorem f141_211 : decode prog_10_method_57_code 211 = .ok (.istore_n 2, 1) := by decide +kernel
theorem f141_212 : decode prog_10_method_57_code 212 = .ok (.iload_n 2, 1) := by decide +kernel
theorem f141_213 : decode prog_10_method_57_code 213 = .ok (.bipush 10, 2) := by decide +kernel
theorem f141_215 : decode prog_10_method_57_code 215 = .ok (.if_icmp .ge 34, 3) := by decide +kernel
theorem f141_218 : decode prog_10_method_57_code 218 = .ok (.aload_n 1, 1) := by decide +kernel
theorem f141_219 : decode prog_10_method_57_code 219 = .ok (.bipush 122, 2) := by decide +kernel
theorem f141_221 : decode prog_10_method_57_code 221 = .ok (.iload_n 2, 1) := by decide +kernel
theorem f141_222 : decode prog_10_method_57_code 222 = .ok (.iadd, 1) := by decide +kernel
theorem f141_223 : decode prog_10_method_57_code 223 = .ok (.aload_n 0, 1) := by decide +kernel
theorem f141_224 : decode prog_10_method_57_code 224 = .ok (.getfield 67, 3) := by decide +kernel
theorem f141_227 : decode prog_10_method_57_code 227 = .ok (.iload_n 2, 1) := by decide +kernel
theorem f141_228 : decode prog_10_method_57_code 228 = .ok (.iaload, 1) := by decide +kernel
theorem f141_229 : decode prog_10_method_57_code 229 = .ok (.iastore, 1) := by decide +kernel
theorem f141_230 : decode prog_10_method_57_code 230 = .ok (.aload_n 1, 1) := by decide +kernel
theorem f141_231 : decode prog_10_method_57_code 231 = .ok (.sipush 132, 3) := by decide +kernel
theorem f141_234 : decode prog_10_method_57_code 234 = .ok (.iload_n 2, 1) := by decide +kernel
theorem f141_235 : decode prog_10_method_57_code 235 = .ok (.iadd, 1) := by decide +kernel
theorem f141_236 : decode prog_10_method_57_code 236 = .ok (.aload_n 0, 1) := by decide +kernel
theorem f141_237 : decode prog_10_method_57_code 237 = .ok (.getfield 70, 3) := by decide +kernel
theorem f141_240 : decode prog_10_method_57_code 240 = .ok (.iload_n 2, 1) := by decide +kernel
theorem f141_241 : decode prog_10_method_57_code 241 = .ok (.iaload, 1) := by decide +kernel
theorem f141_242 : decode prog_10_method_57_code 242 = .ok (.iastore, 1) := by decide +kernel
theorem f141_243 : decode prog_10_method_57_code 243 = .ok (.iinc 2 1, 3) := by decide +kernel
theorem f141_246 : decode prog_10_method_57_code 246 = .ok (.goto (-34), 3) := by decide +kernel
theorem f141_249 : decode prog_10_method_57_code 249 = .ok (.aload_n 1, 1) := by decide +kernel
theorem f141_250 : decode prog_10_method_57_code 250 = .ok (.sipush 142, 3) := by decide +kernel
theorem f141_253 : decode prog_10_method_57_code 253 = .ok (.aload_n 0, 1) := by decide +kernel
theorem f141_254 : decode prog_10_method_57_code 254 = .ok (.getfield 114, 3) := by decide +kernel
theorem f141_257 : decode prog_10_method_57_code 257 = .ok (.iastore, 1) := by decide +kernel
theorem f141_258 : decode prog_10_method_57_code 258 = .ok (.aload_n 1, 1) := by decide +kernel
theorem f141_259 : decode prog_10_method_57_code 259 = .ok (.sipush 143, 3) := by decide +kernel
theorem f141_262 : decode prog_10_method_57_code 262 = .ok (.aload_n 0, 1) := by decide +kernel
theorem f141_263 : decode prog_10_method_57_code 263 = .ok (.getfield 154, 3) := by decide +kernel
theorem f141_266 : decode prog_10_method_57_code 266 = .ok (.iastore, 1) := by decide +kernel
theorem f141_267 : decode prog_10_method_57_code 267 = .ok (.aload_n 1, 1) := by decide +kernel
theorem f141_268 : decode prog_10_method_57_code 268 = .ok (.sipush 144, 3) := by decide +kernel
theorem f141_271 : decode prog_10_method_57_code 271 = .ok (.aload_n 0, 1) := by decide +kernel
theorem f141_272 : decode prog_10_method_57_code 272 = .ok (.getfield 235, 3) := by decide +kernel
theorem f141_275 : decode prog_10_method_57_code 275 = .ok (.iastore, 1) := by decide +kernel
theorem f141_276 : decode prog_10_method_57_code 276 = .ok (.aload_n 1, 1) := by decide +kernel
theorem f141_277 : decode prog_10_method_57_code 277 = .ok (.sipush 145, 3) := by decide +kernel
theorem f141_280 : decode prog_10_method_57_code 280 = .ok (.aload_n 0, 1) := by decide +kernel
theorem f141_281 : decode prog_10_method_57_code 281 = .ok (.getfield 286, 3) := by decide +kernel
theorem f141_284 : decode prog_10_method_57_code 284 = .ok (.iastore, 1) := by decide +kernel
theorem f141_285 : decode prog_10_method_57_code 285 = .ok (.aload_n 1, 1) := by decide +kernel
theorem f141_286 : decode prog_10_method_57_code 286 = .ok (.sipush 146, 3) := by decide +kernel
theorem f141_289 : decode prog_10_method_57_code 289 = .ok (.aload_n 0, 1) := by decide +kernel
theorem f141_290 : decode prog_10_method_57_code 290 = .ok (.getfield 307, 3) := by decide +kernel
theorem f141_293 : decode prog_10_method_57_code 293 = .ok (.iastore, 1) := by decide +kernel
theorem f141_294 : decode prog_10_method_57_code 294 = .ok (.aload_n 1, 1) := by decide +kernel
theorem f141_295 : decode prog_10_method_57_code 295 = .ok (.sipush 147, 3) := by decide +kernel
theorem f141_298 : decode prog_10_method_57_code 298 = .ok (.aload_n 0, 1) := by decide +kernel
theorem f141_299 : decode prog_10_method_57_code 299 = .ok (.getfield 310, 3) := by decide +kernel
theorem f141_302 : decode prog_10_method_57_code 302 = .ok (.iastore, 1) := by decide +kernel
theorem f141_303 : decode prog_10_method_57_code 303 = .ok (.aload_n 1, 1) := by decide +kernel
theorem f141_304 : decode prog_10_method_57_code 304 = .ok (.sipush 148, 3) := by decide +kernel
theorem f141_307 : decode prog_10_method_57_code 307 = .ok (.aload_n 0, 1) := by decide +kernel
theorem f141_308 : decode prog_10_method_57_code 308 = .ok (.getfield 110, 3) := by decide +kernel
theorem f141_311 : decode prog_10_method_57_code 311 = .ok (.iastore, 1) := by decide +kernel
theorem f141_312 : decode prog_10_method_57_code 312 = .ok (.return_, 1) := by decide +kernel
theorem f142_0 : decode prog_10_method_35_code 0 = .ok (.aload_n 0, 1) := by decide +kernel
theorem f142_1 : decode prog_10_method_35_code 1 = .ok (.invokevirtual 257, 3) := by decide +kernel
theorem f142_4 : decode prog_10_method_35_code 4 = .ok (.istore_n 1, 1) := by decide +kernel
theorem f142_5 : decode prog_10_method_35_code 5 = .ok (.iconst 0, 1) := by decide +kernel
theorem f142_6 : decode prog_10_method_35_code 6 = .ok (.istore_n 2, 1) := by decide +kernel
theorem f142_7 : decode prog_10_method_35_code 7 = .ok (.iload_n 2, 1) := by decide +kernel
theorem f142_8 : decode prog_10_method_35_code 8 = .ok (.aload_n 0, 1) := by decide +kernel
theorem f142_9 : decode prog_10_method_35_code 9 = .ok (.getfield 114, 3) := by decide +kernel
theorem f142_12 : decode prog_10_method_35_code 12 = .ok (.if_icmp .ge 64, 3) := by decide +kernel
theorem f142_15 : decode prog_10_method_35_code 15 = .ok (.bipush 6, 2) := by decide +kernel
theorem f142_17 : decode prog_10_method_35_code 17 = .ok (.iload_n 2, 1) := by decide +kernel
theorem f142_18 : decode prog_10_method_35_code 18 = .ok (.imul, 1) := by decide +kernel
theorem f142_19 : decode prog_10_method_35_code 19 = .ok (.aload_n 0, 1) := by decide +kernel
theorem f142_20 : decode prog_10_method_35_code 20 = .ok (.getfield 235, 3) := by decide +kernel
theorem f142_23 : decode prog_10_method_35_code 23 = .ok (.iload_n 2, 1) := by decide +kernel
theorem f142_24 : decode prog_10_method_35_code 24 = .ok (.iadd, 1) := by decide +kernel
theorem f142_25 : decode prog_10_method_35_code 25 = .ok (.bipush 6, 2) := by decide +kernel
theorem f142_27 : decode prog_10_method_35_code 27 = .ok (.irem, 1) := by decide +kernel
theorem f142_28 : decode prog_10_method_35_code 28 = .ok (.iadd, 1) := by decide +kernel
theorem f142_29 : decode prog_10_method_35_code 29 = .ok (.istore_n 3, 1) := by decide +kernel
theorem f142_30 : decode prog_10_method_35_code 30 = .ok (.iload_n 1, 1) := by decide +kernel
theorem f142_31 : decode prog_10_method_35_code 31 = .ok (.ifCond .le 29, 3) := by decide +kernel
theorem f142_34 : decode prog_10_method_35_code 34 = .ok (.aload_n 0, 1) := by decide +kernel
theorem f142_35 : decode prog_10_method_35_code 35 = .ok (.getfield 235, 3) := by decide +kernel
theorem f142_38 : decode prog_10_method_35_code 38 = .ok (.iload_n 1, 1) := by decide +kernel
theorem f142_39 : decode prog_10_method_35_code 39 = .ok (.irem, 1) := by decide +kernel
theorem f142_40 : decode prog_10_method_35_code 40 = .ok (.ifCond .ne 20, 3) := by decide +kernel
theorem f142_43 : decode prog_10_method_35_code 43 = .ok (.aload_n 0, 1) := by decide +kernel
theorem f142_44 : decode prog_10_method_35_code 44 = .ok (.getfield 18, 3) := by decide +kernel
theorem f142_47 : decode prog_10_method_35_code 47 = .ok (.iload_n 3, 1) := by decide +kernel
theorem f142_48 : decode prog_10_method_35_code 48 = .ok (.aload_n 0, 1) := by decide +kernel
theorem f142_49 : decode prog_10_method_35_code 49 = .ok (.getfield 18, 3) := by decide +kernel
theorem f142_52 : decode prog_10_method_35_code 52 = .ok (.iload_n 3, 1) := by decide +kernel
theorem f142_53 : decode prog_10_method_35_code 53 = .ok (.iaload, 1) := by decide +kernel
theorem f142_54 : decode prog_10_method_35_code 54 = .ok (.iconst 1, 1) := by decide +kernel
theorem f142_55 : decode prog_10_method_35_code 55 = .ok (.iadd, 1) := by decide +kernel
theorem f142_56 : decode prog_10_method_35_code 56 = .ok (.bipush 10, 2) := by decide +kernel
theorem f142_58 : decode prog_10_method_35_code 58 = .ok (.irem, 1) := by decide +kernel
theorem f142_59 : decode prog_10_method_35_code 59 = .ok (.iastore, 1) := by decide +kernel
theorem f142_60 : decode prog_10_method_35_code 60 = .ok (.aload_n 0, 1) := by decide +kernel
theorem f142_61 : decode prog_10_method_35_code 61 = .ok (.getfield 21, 3) := by decide +kernel
theorem f142_64 : decode prog_10_method_35_code 64 = .ok (.iload_n 2, 1) := by decide +kernel
theorem f142_65 : decode prog_10_method_35_code 65 = .ok (.dup2, 1) := by decide +kernel
theorem f142_66 : decode prog_10_method_35_code 66 = .ok (.iaload, 1) := by decide +kernel
theorem f142_67 : decode prog_10_method_35_code 67 = .ok (.iconst 1, 1) := by decide +kernel
theorem f142_68 : decode prog_10_method_35_code 68 = .ok (.iadd, 1) := by decide +kernel
theorem f142_69 : decode prog_10_method_35_code 69 = .ok (.iastore, 1) := by decide +kernel
theorem f142_70 : decode prog_10_method_35_code 70 = .ok (.iinc 2 1, 3) := by decide +kernel
theorem f142_73 : decode prog_10_method_35_code 73 = .ok (.goto (-66), 3) := by decide +kernel
theorem f142_76 : decode prog_10_method_35_code 76 = .ok (.aload_n 0, 1) := by decide +kernel
theorem f142_77 : decode prog_10_method_35_code 77 = .ok (.dup, 1) := by decide +kernel
theorem f142_78 : decode prog_10_method_35_code 78 = .ok (.getfield 235, 3) := by decide +kernel
theorem f142_81 : decode prog_10_method_35_code 81 = .ok (.iconst 1, 1) := by decide +kernel
theorem f142_82 : decode prog_10_method_35_code 82 = .ok (.iadd, 1) := by decide +kernel
theorem f142_83 : decode prog_10_method_35_code 83 = .ok (.putfield 235, 3) := by decide +kernel
theorem f142_86 : decode prog_10_method_35_code 86 = .ok (.return_, 1) := by decide +kernel
theorem f143_0 : decode prog_10_method_27_code 0 = .ok (.iconst 0, 1) := by decide +kernel
theorem f143_1 : decode prog_10_method_27_code 1 = .ok (.istore_n 1, 1) := by decide +kernel
theorem f143_2 : decode prog_10_method_27_code 2 = .ok (.iconst 0, 1) := by decide +kernel
theorem f143_3 : decode prog_10_method_27_code 3 = .ok (.istore_n 2, 1) := by decide +kernel
theorem f143_4 : decode prog_10_method_27_code 4 = .ok (.aload_n 0, 1) := by decide +kernel
theorem f143_5 : decode prog_10_method_27_code 5 = .ok (.getfield 110, 3) := by decide +kernel
theorem f143_8 : decode prog_10_method_27_code 8 = .ok (.iconst (-1), 1) := by decide +kernel
theorem f143_9 : decode prog_10_method_27_code 9 = .ok (.if_icmp .eq 55, 3) := by decide +kernel
theorem f143_12 : decode prog_10_method_27_code 12 = .ok (.iload_n 2, 1) := by decide +kernel
theorem f143_13 : decode prog_10_method_27_code 13 = .ok (.aload_n 0, 1) := by decide +kernel
theorem f143_14 : decode prog_10_method_27_code 14 = .ok (.getfield 33, 3) := by decide +kernel
theorem f143_17 : decode prog_10_method_27_code 17 = .ok (.aload_n 0, 1) := by decide +kernel
theorem f143_18 : decode prog_10_method_27_code 18 = .ok (.getfield 110, 3) := by decide +kernel
theorem f143_21 : decode prog_10_method_27_code 21 = .ok (.iaload, 1) := by decide +kernel
theorem f143_22 : decode prog_10_method_27_code 22 = .ok (.if_icmp .ge 42, 3) := by decide +kernel
theorem f143_25 : decode prog_10_method_27_code 25 = .ok (.aload_n 0, 1) := by decide +kernel
theorem f143_26 : decode prog_10_method_27_code 26 = .ok (.getfield 36, 3) := by decide +kernel
theorem f143_29 : decode prog_10_method_27_code 29 = .ok (.bipush 10, 2) := by decide +kernel
theorem f143_31 : decode prog_10_method_27_code 31 = .ok (.aload_n 0, 1) := by decide +kernel
theorem f143_32 : decode prog_10_method_27_code 32 = .ok (.getfield 110, 3) := by decide +kernel
theorem f143_35 : decode prog_10_method_27_code 35 = .ok (.imul, 1) := by decide +kernel
theorem f143_36 : decode prog_10_method_27_code 36 = .ok (.iload_n 2, 1) := by decide +kernel
theorem f143_37 : decode prog_10_method_27_code 37 = .ok (.iadd, 1) := by decide +kernel
theorem f143_38 : decode prog_10_method_27_code 38 = .ok (.iaload, 1) := by decide +kernel
theorem f143_39 : decode prog_10_method_27_code 39 = .ok (.iconst 2, 1) := by decide +kernel
theorem f143_40 : decode prog_10_method_27_code 40 = .ok (.if_icmp .ne 18, 3) := by decide +kernel
theorem f143_43 : decode prog_10_method_27_code 43 = .ok (.aload_n 0, 1) := by decide +kernel
theorem f143_44 : decode prog_10_method_27_code 44 = .ok (.getfield 39, 3) := by decide +kernel
theorem f143_47 : decode prog_10_method_27_code 47 = .ok (.bipush 10, 2) := by decide +kernel
theorem f143_49 : decode prog_10_method_27_code 49 = .ok (.aload_n 0, 1) := by decide +kernel
theorem f143_50 : decode prog_10_method_27_code 50 = .ok (.getfield 110, 3) := by decide +kernel
theorem f143_53 : decode prog_10_method_27_code 53 = .ok (.imul, 1) := by decide +kernel
theorem f143_54 : decode prog_10_method_27_code 54 = .ok (.iload_n 2, 1) := by decide +kernel
theorem f143_55 : decode prog_10_method_27_code 55 = .ok (.iadd, 1) := by decide +kernel
theorem f143_56 : decode prog_10_method_27_code 56 = .ok (.iaload, 1) := by decide +kernel
theorem f143_57 : decode prog_10_method_27_code 57 = .ok (.istore_n 1, 1) := by decide +kernel
theorem f143_58 : decode prog_10_method_27_code 58 = .ok (.iinc 2 1, 3) := by decide +kernel
theorem f143_61 : decode prog_10_method_27_code 61 = .ok (.goto (-57), 3) := by decide +kernel
theorem f143_64 : decode prog_10_method_27_code 64 = .ok (.iload_n 1, 1) := by decide +kernel
theorem f143_65 : decode prog_10_method_27_code 65 = .ok (.ireturn, 1) := by decide +kernel
theorem f145_0 : decode prog_10_method_58_code 0 = .ok (.iconst 0, 1) := by decide +kernel
theorem f145_1 : decode prog_10_method_58_code 1 = .ok (.istore_n 2, 1) := by decide +kernel
theorem f145_2 : decode prog_10_method_58_code 2 = .ok (.iload_n 2, 1) := by decide +kernel
theorem f145_3 : decode prog_10_method_58_code 3 = .ok (.bipush 6, 2) := by decide +kernel
theorem f145_5 : decode prog_10_method_58_code 5 = .ok (.if_icmp .ge 42, 3) := by decide +kernel
theorem f145_8 : decode prog_10_method_58_code 8 = .ok (.aload_n 0, 1) := by decide +kernel
theorem f145_9 : decode prog_10_method_58_code 9 = .ok (.getfield 9, 3) := by decide +kernel
theorem f145_12 : decode prog_10_method_58_code 12 = .ok (.iload_n 2, 1) := by decide +kernel
theorem f145_13 : decode prog_10_method_58_code 13 = .ok (.aload_n 1, 1) := by decide +kernel
theorem f145_14 : decode prog_10_method_58_code 14 = .ok (.iload_n 2, 1) := by decide +kernel
theorem f145_15 : decode prog_10_method_58_code 15 = .ok (.iaload, 1) := by decide +kernel
theorem f145_16 : decode prog_10_method_58_code 16 = .ok (.iastore, 1) := by decide +kernel
theorem f145_17 : decode prog_10_method_58_code 17 = .ok (.aload_n 0, 1) := by decide +kernel
theorem f145_18 : decode prog_10_method_58_code 18 = .ok (.getfield 15, 3) := by decide +kernel
theorem f145_21 : decode prog_10_method_58_code 21 = .ok (.iload_n 2, 1) := by decide +kernel
theorem f145_22 : decode prog_10_method_58_code 22 = .ok (.aload_n 1, 1) := by decide +kernel
theorem f145_23 : decode prog_10_method_58_code 23 = .ok (.bipush 6, 2) := by decide +kernel
theorem f145_25 : decode prog_10_method_58_code 25 = .ok (.iload_n 2, 1) := by decide +kernel
theorem f145_26 : decode prog_10_method_58_code 26 = .ok (.iadd, 1) := by decide +kernel
theorem f145_27 : decode prog_10_method_58_code 27 = .ok (.iaload, 1) := by decide +kernel
theorem f145_28 : decode prog_10_method_58_code 28 = .ok (.iastore, 1) := by decide +kernel
theorem f145_29 : decode prog_10_method_58_code 29 = .ok (.aload_n 0, 1) := by decide +kernel
theorem f145_30 : decode prog_10_method_58_code 30 = .ok (.getfield 21, 3) := by decide +kernel
theorem f145_33 : decode prog_10_method_58_code 33 = .ok (.iload_n 2, 1) := by decide +kernel
theorem f145_34 : decode prog_10_method_58_code 34 = .ok (.aload_n 1, 1) := by decide +kernel
theorem f145_35 : decode prog_10_method_58_code 35 = .ok (.bipush 12, 2) := by decide +kernel
theorem f145_37 : decode prog_10_method_58_code 37 = .ok (.iload_n 2, 1) := by decide +kernel
theorem f145_38 : decode prog_10_method_58_code 38 = .ok (.iadd, 1) := by decide +kernel
theorem f145_39 : decode prog_10_method_58_code 39 = .ok (.iaload, 1) := by decide +kernel
theorem f145_40 : decode prog_10_method_58_code 40 = .ok (.iastore, 1) := by decide +kernel
theorem f145_41 : decode prog_10_method_58_code 41 = .ok (.iinc 2 1, 3) := by decide +kernel
theorem f145_44 : decode prog_10_method_58_code 44 = .ok (.goto (-42), 3) := by decide +kernel
theorem f145_47 : decode prog_10_method_58_code 47 = .ok (.iconst 0, 1) := by decide +kernel
theorem f145_48 : decode prog_10_method_58_code 48 = .ok (.istore_n 2, 1) := by decide +kernel
theorem f145_49 : decode prog_10_method_58_code 49 = .ok (.iload_n 2, 1) := by decide +kernel
theorem f145_50 : decode prog_10_method_58_code 50 = .ok (.bipush 36, 2) := by decide +kernel
theorem f145_52 : decode prog_10_method_58_code 52 = .ok (.if_icmp .ge 21, 3) := by decide +kernel
theorem f145_55 : decode prog_10_method_58_code 55 = .ok (.aload_n 0, 1) := by decide +kernel
theorem f145_56 : decode prog_10_method_58_code 56 = .ok (.getfield 18, 3) := by decide +kernel
theorem f145_59 : decode prog_10_method_58_code 59 = .ok (.iload_n 2, 1) := by decide +kernel
theorem f145_60 : decode prog_10_method_58_code 60 = .ok (.aload_n 1, 1) := by decide +kernel
theorem f145_61 : decode prog_10_method_58_code 61 = .ok (.bipush 18, 2) := by decide +kernel
theorem f145_63 : decode prog_10_method_58_code 63 = .ok (.iload_n 2, 1) := by decide +kernel
theorem f145_64 : decode prog_10_method_58_code 64 = .ok (.iadd, 1) := by decide +kernel
theorem f145_65 : decode prog_10_method_58_code 65 = .ok (.iaload, 1) := by decide +kernel
theorem f145_66 : decode prog_10_method_58_code 66 = .ok (.iastore, 1) := by decide +kernel
theorem f145_67 : decode prog_10_method_58_code 67 = .ok (.iinc 2 1, 3) := by decide +kernel
theorem f145_70 : decode prog_10_method_58_code 70 = .ok (.goto (-21), 3) := by decide +kernel
theorem f145_73 : decode prog_10_method_58_code 73 = .ok (.iconst 0, 1) := by decide +kernel
theorem f145_74 : decode prog_10_method_58_code 74 = .ok (.istore_n 2, 1) := by decide +kernel
theorem f145_75 : decode prog_10_method_58_code 75 = .ok (.iload_n 2, 1) := by decide +kernel
theorem f145_76 : decode prog_10_method_58_code 76 = .ok (.bipush 24, 2) := by decide +kernel
theorem f145_78 : decode prog_10_method_58_code 78 = .ok (.if_icmp .ge 21, 3) := by decide +kernel
theorem f145_81 : decode prog_10_method_58_code 81 = .ok (.aload_n 0, 1) := by decide +kernel
theorem f145_82 : decode prog_10_method_58_code 82 = .ok (.getfield 24, 3) := by decide +kernel
theorem f145_85 : decode prog_10_method_58_code 85 = .ok (.iload_n 2, 1) := by decide +kernel
theorem f145_86 : decode prog_10_method_58_code 86 = .ok (.aload_n 1, 1) := by decide +kernel
theorem f145_87 : decode prog_10_method_58_code 87 = .ok (.bipush 54, 2) := by decide +kernel
theorem f145_89 : decode prog_10_method_58_code 89 = .ok (.iload_n 2, 1) := by decide +kernel
theorem f145_90 : decode prog_10_method_58_code 90 = .ok (.iadd, 1) := by decide +kernel
theorem f145_91 : decode prog_10_method_58_code 91 = .ok (.iaload, 1) := by decide +kernel
theorem f145_92 : decode prog_10_method_58_code 92 = .ok (.iastore, 1) := by decide +kernel
theorem f145_93 : decode prog_10_method_58_code 93 = .ok (.iinc 2 1, 3) := by decide +kernel
theorem f145_96 : decode prog_10_method_58_code 96 = .ok (.goto (-21), 3) := by decide +kernel
theorem f145_99 : decode prog_10_method_58_code 99 = .ok (.iconst 0, 1) := by decide +kernel
theorem f145_100 : decode prog_10_method_58_code 100 = .ok (.istore_n 2, 1) := by decide +kernel
theorem f145_101 : decode prog_10_method_58_code 101 = .ok (.iload_n 2, 1) := by decide +kernel
theorem f145_102 : decode prog_10_method_58_code 102 = .ok (.bipush 8, 2) := by decide +kernel
theorem f145_104 : decode prog_10_method_58_code 104 = .ok (.if_icmp .ge 45, 3) := by decide +kernel
theorem f145_107 : decode prog_10_method_58_code 107 = .ok (.aload_n 0, 1) := by decide +kernel
theorem f145_108 : decode prog_10_method_58_code 108 = .ok (.getfield 27, 3) := by decide +kernel
theorem f145_111 : decode prog_10_method_58_code 111 = .ok (.iload_n 2, 1) := by decide +kernel
theorem f145_112 : decode prog_10_method_58_code 112 = .ok (.aload_n 1, 1) := by decide +kernel
theorem f145_113 : decode prog_10_method_58_code 113 = .ok (.bipush 78, 2) := by decide +kernel
theorem f145_115 : decode prog_10_method_58_code 115 = .ok (.iload_n 2, 1) := by decide +kernel
theorem f145_116 : decode prog_10_method_58_code 116 = .ok (.iadd, 1) := by decide +kernel
theorem f145_117 : decode prog_10_method_58_code 117 = .ok (.iaload, 1) := by decide +kernel
theorem f145_118 : decode prog_10_method_58_code 118 = .ok (.iastore, 1) := by decide +kernel
theorem f145_119 : decode prog_10_method_58_code 119 = .ok (.aload_n 0, 1) := by decide +kernel
theorem f145_120 : decode prog_10_method_58_code 120 = .ok (.getfield 73, 3) := by decide +kernel
theorem f145_123 : decode prog_10_method_58_code 123 = .ok (.iload_n 2, 1) := by decide +kernel
theorem f145_124 : decode prog_10_method_58_code 124 = .ok (.aload_n 1, 1) := by decide +kernel
theorem f145_125 : decode prog_10_method_58_code 125 = .ok (.bipush 86, 2) := by decide +kernel
theorem f145_127 : decode prog_10_method_58_code 127 = .ok (.iload_n 2, 1) := by decide +kernel
theorem f145_128 : decode prog_10_method_58_code 128 = .ok (.iadd, 1) := by decide +kernel
theorem f145_129 : decode prog_10_method_58_code 129 = .ok (.iaload, 1) := by decide +kernel
theorem f145_130 : decode prog_10_method_58_code 130 = .ok (.iastore, 1) := by decide +kernel
theorem f145_131 : decode prog_10_method_58_code 131 = .ok (.aload_n 0, 1) := by decide +kernel
theorem f145_132 : decode prog_10_method_58_code 132 = .ok (.getfield 76, 3) := by decide +kernel
theorem f145_135 : decode prog_10_method_58_code 135 = .ok (.iload_n 2, 1) := by decide +kernel
theorem f145_136 : decode prog_10_method_58_code 136 = .ok (.aload_n 1, 1) := by decide +kernel
theorem f145_137 : decode prog_10_method_58_code 137 = .ok (.bipush 94, 2) := by decide +kernel
theorem f145_139 : decode prog_10_method_58_code 139 = .ok (.iload_n 2, 1) := by decide +kernel
theorem f145_140 : decode prog_10_method_58_code 140 = .ok (.iadd, 1) := by decide +kernel
theorem f145_141 : decode prog_10_method_58_code 141 = .ok (.iaload, 1) := by decide +kernel
theorem f145_142 : decode prog_10_method_58_code 142 = .ok (.iastore, 1) := by decide +kernel
theorem f145_143 : decode prog_10_method_58_code 143 = .ok (.iinc 2 1, 3) := by decide +kernel
theorem f145_146 : decode prog_10_method_58_code 146 = .ok (.goto (-45), 3) := by decide +kernel
theorem f145_149 : decode prog_10_method_58_code 149 = .ok (.iconst 0, 1) := by decide +kernel
theorem f145_150 : decode prog_10_method_58_code 150 = .ok (.istore_n 2, 1) := by decide +kernel
theorem f145_151 : decode prog_10_method_58_code 151 = .ok (.iload_n 2, 1) := by decide +kernel
theorem f145_152 : decode prog_10_method_58_code 152 = .ok (.iconst 5, 1) := by decide +kernel
theorem f145_153 : decode prog_10_method_58_code 153 = .ok (.if_icmp .ge 57, 3) := by decide +kernel
theorem f145_156 : decode prog_10_method_58_code 156 = .ok (.aload_n 0, 1) := by decide +kernel
theorem f145_157 : decode prog_10_method_58_code 157 = .ok (.getfield 55, 3) := by decide +kernel
theorem f145_160 : decode prog_10_method_58_code 160 = .ok (.iload_n 2, 1) := by decide +kernel
theorem f145_161 : decode prog_10_method_58_code 161 = .ok (.aload_n 1, 1) := by decide +kernel
theorem f145_162 : decode prog_10_method_58_code 162 = .ok (.bipush 102, 2) := by decide +kernel
theorem f145_164 : decode prog_10_method_58_code 164 = .ok (.iload_n 2, 1) := by decide +kernel
theorem f145_165 : decode prog_10_method_58_code 165 = .ok (.iadd, 1) := by decide +kernel
theorem f145_166 : decode prog_10_method_58_code 166 = .ok (.iaload, 1) := by decide +kernel
theorem f145_167 : decode prog_10_method_58_code 167 = .ok (.iastore, 1) := by decide +kernel
theorem f145_168 : decode prog_10_method_58_code 168 = .ok (.aload_n 0, 1) := by decide +kernel
theorem f145_169 : decode prog_10_method_58_code 169 = .ok (.getfield 58, 3) := by decide +kernel
theorem f145_172 : decode prog_10_method_58_code 172 = .ok (.iload_n 2, 1) := by decide +kernel
theorem f145_173 : decode prog_10_method_58_code 173 = .ok (.aload_n 1, 1) := by decide +kernel
theorem f145_174 : decode prog_10_method_58_code 174 = .ok (.bipush 107, 2) := by decide +kernel
theorem f145_176 : decode prog_10_method_58_code 176 = .ok (.iload_n 2, 1) := by decide +kernel
theorem f145_177 : decode prog_10_method_58_code 177 = .ok (.iadd, 1) := by decide +kernel
theorem f145_178 : decode prog_10_method_58_code 178 = .ok (.iaload, 1) := by decide +kernel
theorem f145_179 : decode prog_10_method_58_code 179 = .ok (.iastore, 1) := by decide +kernel
theorem f145_180 : decode prog_10_method_58_code 180 = .ok (.aload_n 0, 1) := by decide +kernel
theorem f145_181 : decode prog_10_method_58_code 181 = .ok (.getfield 61, 3) := by decide +kernel
theorem f145_184 : decode prog_10_method_58_code 184 = .ok (.iload_n 2, 1) := by decide +kernel
theorem f145_185 : decode prog_10_method_58_code 185 = .ok (.aload_n 1, 1) := by decide +kernel
theorem f145_186 : decode prog_10_method_58_code 186 = .ok (.bipush 112, 2) := by decide +kernel
theorem f145_188 : decode prog_10_method_58_code 188 = .ok (.iload_n 2, 1) := by decide +kernel
theorem f145_189 : decode prog_10_method_58_code 189 = .ok (.iadd, 1) := by decide +kernel
theorem f145_190 : decode prog_10_method_58_code 190 = .ok (.iaload, 1) := by decide +kernel
theorem f145_191 : decode prog_10_method_58_code 191 = .ok (.iastore, 1) := by decide +kernel
theorem f145_192 : decode prog_10_method_58_code 192 = .ok (.aload_n 0, 1) := by decide +kernel
theorem f145_193 : decode prog_10_method_58_code 193 = .ok (.getfield 64, 3) := by decide +kernel
theorem f145_196 : decode prog_10_method_58_code 196 = .ok (.iload_n 2, 1) := by decide +kernel
theorem f145_197 : decode prog_10_method_58_code 197 = .ok (.aload_n 1, 1) := by decide +kernel
theorem f145_198 : decode prog_10_method_58_code 198 = .ok (.bipush 117, 2) := by decide +kernel
theorem f145_200 : decode prog_10_method_58_code 200 = .ok (.iload_n 2, 1) := by decide +kernel
theorem f145_201 : decode prog_10_method_58_code 201 = .ok (.iadd, 1) := by decide +kernel
theorem f145_202 : decode prog_10_method_58_code 202 = .ok (.iaload, 1) := by decide +kernel
theorem f145_203 : decode prog_10_method_58_code 203 = .ok (.iastore, 1) := by decide +kernel
theorem f145_204 : decode prog_10_method_58_code 204 = .ok (.iinc 2 1, 3) := by decide +kernel
theorem f145_207 : decode prog_10_method_58_code 207 = .ok (.goto (-56), 3) := by decide +kernel
theorem f145_210 : decode prog_10_method_58_code 210 = .ok (.iconst 0, 1) := by decide +kernel
theorem f145_211 : decode prog_10_method_58_code 211 = .ok (.istore_n 2, 1) := by decide +kernel
theorem f145_212 : decode prog_10_method_58_code 212 = .ok (.iload_n 2, 1) := by decide +kernel
theorem f145_213 : decode prog_10_method_58_code 213 = .ok (.bipush 10, 2) := by decide +kernel
theorem f145_215 : decode prog_10_method_58_code 215 = .ok (.if_icmp .ge 34, 3) := by decide +kernel
theorem f145_218 : decode prog_10_method_58_code 218 = .ok (.aload_n 0, 1) := by decide +kernel
theorem f145_219 : decode prog_10_method_58_code 219 = .ok (.getfield 67, 3) := by decide +kernel
theorem f145_222 : decode prog_10_method_58_code 222 = .ok (.iload_n 2, 1) := by decide +kernel
theorem f145_223 : decode prog_10_method_58_code 223 = .ok (.aload_n 1, 1) := by decide +kernel
theorem f145_224 : decode prog_10_method_58_code 224 = .ok (.bipush 122, 2) := by decide +kernel
theorem f145_226 : decode prog_10_method_58_code 226 = .ok (.iload_n 2, 1) := by decide +kernel
theorem f145_227 : decode prog_10_method_58_code 227 = .ok (.iadd, 1) := by decide +kernel
theorem f145_228 : decode prog_10_method_58_code 228 = .ok (.iaload, 1) := by decide +kernel
theorem f145_229 : decode prog_10_method_58_code 229 = .ok (.iastore, 1) := by decide +kernel
theorem f145_230 : decode prog_10_method_58_code 230 = .ok (.aload_n 0, 1) := by decide +kernel
theorem f145_231 : decode prog_10_method_58_code 231 = .ok (.getfield 70, 3) := by decide +kernel
theorem f145_234 : decode prog_10_method_58_code 234 = .ok (.iload_n 2, 1) := by decide +kernel
theorem f145_235 : decode prog_10_method_58_code 235 = .ok (.aload_n 1, 1) := by decide +kernel
theorem f145_236 : decode prog_10_method_58_code 236 = .ok (.sipush 132, 3) := by decide +kernel
theorem f145_239 : decode prog_10_method_58_code 239 = .ok (.iload_n 2, 1) := by decide +kernel
theorem f145_240 : decode prog_10_method_58_code 240 = .ok (.iadd, 1) := by decide +kernel
theorem f145_241 : decode prog_10_method_58_code 241 = .ok (.iaload, 1) := by decide +kernel
theorem f145_242 : decode prog_10_method_58_code 242 = .ok (.iastore, 1) := by decide +kernel
theorem f145_243 : decode prog_10_method_58_code 243 = .ok (.iinc 2 1, 3) := by decide +kernel
theorem f145_246 : decode prog_10_method_58_code 246 = .ok (.goto (-34), 3) := by decide +kernel
theorem f145_249 : decode prog_10_method_58_code 249 = .ok (.aload_n 0, 1) := by decide +kernel
theorem f145_250 : decode prog_10_method_58_code 250 = .ok (.aload_n 1, 1) := by decide +kernel
theorem f145_251 : decode prog_10_method_58_code 251 = .ok (.sipush 142, 3) := by decide +kernel
theorem f145_254 : decode prog_10_method_58_code 254 = .ok (.iaload, 1) := by decide +kernel
theorem f145_255 : decode prog_10_method_58_code 255 = .ok (.putfield 114, 3) := by decide +kernel
theorem f145_258 : decode prog_10_method_58_code 258 = .ok (.aload_n 0, 1) := by decide +kernel
theorem f145_259 : decode prog_10_method_58_code 259 = .ok (.aload_n 1, 1) := by decide +kernel
theorem f145_260 : decode prog_10_method_58_code 260 = .ok (.sipush 143, 3) := by decide +kernel
theorem f145_263 : decode prog_10_method_58_code 263 = .ok (.iaload, 1) := by decide +kernel
theorem f145_264 : decode prog_10_method_58_code 264 = .ok (.putfield 154, 3) := by decide +kernel
theorem f145_267 : decode prog_10_method_58_code 267 = .ok (.aload_n 0, 1) := by decide +kernel
theorem f145_268 : decode prog_10_method_58_code 268 = .ok (.aload_n 1, 1) := by decide +kernel
theorem f145_269 : decode prog_10_method_58_code 269 = .ok (.sipush 144, 3) := by decide +kernel
theorem f145_272 : decode prog_10_method_58_code 272 = .ok (.iaload, 1) := by decide +kernel
theorem f145_273 : decode prog_10_method_58_code 273 = .ok (.putfield 235, 3) := by decide +kernel
theorem f145_276 : decode prog_10_method_58_code 276 = .ok (.aload_n 0, 1) := by decide +kernel
theorem f145_277 : decode prog_10_method_58_code 277 = .ok (.aload_n 1, 1) := by decide +kernel
theorem f145_278 : decode prog_10_method_58_code 278 = .ok (.sipush 145, 3) := by decide +kernel
theorem f145_281 : decode prog_10_method_58_code 281 = .ok (.iaload, 1) := by decide +kernel
theorem f145_282 : decode prog_10_method_58_code 282 = .ok (.putfield 286, 3) := by decide +kernel
theorem f145_285 : decode prog_10_method_58_code 285 = .ok (.aload_n 0, 1) := by decide +kernel
theorem f145_286 : decode prog_10_method_58_code 286 = .ok (.aload_n 1, 1) := by decide +kernel
theorem f145_287 : decode prog_10_method_58_code 287 = .ok (.sipush 146, 3) := by decide +kernel
theorem f145_290 : decode prog_10_method_58_code 290 = .ok (.iaload, 1) := by decide +kernel
theorem f145_291 : decode prog_10_method_58_code 291 = .ok (.putfield 307, 3) := by decide +kernel
theorem f145_294 : decode prog_10_method_58_code 294 = .ok (.aload_n 0, 1) := by decide +kernel
theorem f145_295 : decode prog_10_method_58_code 295 = .ok (.aload_n 1, 1) := by decide +kernel
theorem f145_296 : decode prog_10_method_58_code 296 = .ok (.sipush 147, 3) := by decide +kernel
theorem f145_299 : decode prog_10_method_58_code 299 = .ok (.iaload, 1) := by decide +kernel
theorem f145_300 : decode prog_10_method_58_code 300 = .ok (.putfield 310, 3) := by decide +kernel
theorem f145_303 : decode prog_10_method_58_code 303 = .ok (.aload_n 0, 1) := by decide +kernel
theorem f145_304 : decode prog_10_method_58_code 304 = .ok (.aload_n 1, 1) := by decide +kernel
theorem f145_305 : decode prog_10_method_58_code 305 = .ok (.sipush 148, 3) := by decide +kernel
theorem f145_308 : decode prog_10_method_58_code 308 = .ok (.iaload, 1) := by decide +kernel
theorem f145_309 : decode prog_10_method_58_code 309 = .ok (.putfield 110, 3) := by decide +kernel
theorem f145_312 : decode prog_10_method_58_code 312 = .ok (.return_, 1) := by decide +kernel
theorem f146_0 : decode prog_10_method_32_code 0 = .ok (.aload_n 0, 1) := by decide +kernel
theorem f146_1 : decode prog_10_method_32_code 1 = .ok (.iload_n 1, 1) := by decide +kernel
theorem f146_2 : decode prog_10_method_32_code 2 = .ok (.aload_n 0, 1) := by decide +kernel
theorem f146_3 : decode prog_10_method_32_code 3 = .ok (.getfield 88, 3) := by decide +kernel
theorem f146_6 : decode prog_10_method_32_code 6 = .ok (.invokevirtual 253, 3) := by decide +kernel
theorem f146_9 : decode prog_10_method_32_code 9 = .ok (.iconst 0, 1) := by decide +kernel
theorem f146_10 : decode prog_10_method_32_code 10 = .ok (.istore_n 2, 1) := by decide +kernel
theorem f146_11 : decode prog_10_method_32_code 11 = .ok (.iload_n 2, 1) := by decide +kernel
theorem f146_12 : decode prog_10_method_32_code 12 = .ok (.ifCond .eq 20, 3) := by decide +kernel
theorem f146_15 : decode prog_10_method_32_code 15 = .ok (.iload_n 2, 1) := by decide +kernel
theorem f146_16 : decode prog_10_method_32_code 16 = .ok (.aload_n 0, 1) := by decide +kernel
theorem f146_17 : decode prog_10_method_32_code 17 = .ok (.getfield 154, 3) := by decide +kernel
theorem f146_20 : decode prog_10_method_32_code 20 = .ok (.iadd, 1) := by decide +kernel
theorem f146_21 : decode prog_10_method_32_code 21 = .ok (.bipush 6, 2) := by decide +kernel
theorem f146_23 : decode prog_10_method_32_code 23 = .ok (.if_icmp .gt 85, 3) := by decide +kernel
theorem f146_26 : decode prog_10_method_32_code 26 = .ok (.iload_n 2, 1) := by decide +kernel
theorem f146_27 : decode prog_10_method_32_code 27 = .ok (.bipush 6, 2) := by decide +kernel
theorem f146_29 : decode prog_10_method_32_code 29 = .ok (.if_icmp .ge 79, 3) := by decide +kernel
theorem f146_32 : decode prog_10_method_32_code 32 = .ok (.iload_n 2, 1) := by decide +kernel
theorem f146_33 : decode prog_10_method_32_code 33 = .ok (.aload_n 0, 1) := by decide +kernel
theorem f146_34 : decode prog_10_method_32_code 34 = .ok (.getfield 154, 3) := by decide +kernel
theorem f146_37 : decode prog_10_method_32_code 37 = .ok (.iadd, 1) := by decide +kernel
theorem f146_38 : decode prog_10_method_32_code 38 = .ok (.bipush 6, 2) := by decide +kernel
theorem f146_40 : decode prog_10_method_32_code 40 = .ok (.if_icmp .gt 7, 3) := by decide +kernel
theorem f146_43 : decode prog_10_method_32_code 43 = .ok (.iconst 1, 1) := by decide +kernel
theorem f146_44 : decode prog_10_method_32_code 44 = .ok (.goto 4, 3) := by decide +kernel
theorem f146_47 : decode prog_10_method_32_code 47 = .ok (.iconst 0, 1) := by decide +kernel
theorem f146_48 : decode prog_10_method_32_code 48 = .ok (.istore_n 3, 1) := by decide +kernel
theorem f146_49 : decode prog_10_method_32_code 49 = .ok (.iconst 0, 1) := by decide +kernel
theorem f146_50 : decode prog_10_method_32_code 50 = .ok (.istore 4, 2) := by decide +kernel
theorem f146_52 : decode prog_10_method_32_code 52 = .ok (.iload 4, 2) := by decide +kernel
theorem f146_54 : decode prog_10_method_32_code 54 = .ok (.aload_n 0, 1) := by decide +kernel
theorem f146_55 : decode prog_10_method_32_code 55 = .ok (.getfield 154, 3) := by decide +kernel
theorem f146_58 : decode prog_10_method_32_code 58 = .ok (.if_icmp .ge 38, 3) := by decide +kernel
theorem f146_61 : decode prog_10_method_32_code 61 = .ok (.iload_n 3, 1) := by decide +kernel
theorem f146_62 : decode prog_10_method_32_code 62 = .ok (.ifCond .eq 34, 3) := by decide +kernel
theorem f146_65 : decode prog_10_method_32_code 65 = .ok (.aload_n 0, 1) := by decide +kernel
theorem f146_66 : decode prog_10_method_32_code 66 = .ok (.getfield 88, 3) := by decide +kernel
theorem f146_69 : decode prog_10_method_32_code 69 = .ok (.iload_n 2, 1) := by decide +kernel
theorem f146_70 : decode prog_10_method_32_code 70 = .ok (.iload 4, 2) := by decide +kernel
theorem f146_72 : decode prog_10_method_32_code 72 = .ok (.iadd, 1) := by decide +kernel
theorem f146_73 : decode prog_10_method_32_code 73 = .ok (.iaload, 1) := by decide +kernel
theorem f146_74 : decode prog_10_method_32_code 74 = .ok (.aload_n 0, 1) := by decide +kernel
theorem f146_75 : decode prog_10_method_32_code 75 = .ok (.getfield 27, 3) := by decide +kernel
theorem f146_78 : decode prog_10_method_32_code 78 = .ok (.iload 4, 2) := by decide +kernel
theorem f146_80 : decode prog_10_method_32_code 80 = .ok (.iaload, 1) := by decide +kernel
theorem f146_81 : decode prog_10_method_32_code 81 = .ok (.if_icmp .ne 7, 3) := by decide +kernel
theorem f146_84 : decode prog_10_method_32_code 84 = .ok (.iconst 1, 1) := by decide +kernel
theorem f146_85 : decode prog_10_method_32_code 85 = .ok (.goto 4, 3) := by decide +kernel
theorem f146_88 : decode prog_10_method_32_code 88 = .ok (.iconst 0, 1) := by decide +kernel
theorem f146_89 : decode prog_10_method_32_code 89 = .ok (.istore_n 3, 1) := by decide +kernel
theorem f146_90 : decode prog_10_method_32_code 90 = .ok (.iinc 4 1, 3) := by decide +kernel
theorem f146_93 : decode prog_10_method_32_code 93 = .ok (.goto (-41), 3) := by decide +kernel
theorem f146_96 : decode prog_10_method_32_code 96 = .ok (.iload_n 3, 1) := by decide +kernel
theorem f146_97 : decode prog_10_method_32_code 97 = .ok (.ifCond .eq 5, 3) := by decide +kernel
theorem f146_100 : decode prog_10_method_32_code 100 = .ok (.iload_n 2, 1) := by decide +kernel
theorem f146_101 : decode prog_10_method_32_code 101 = .ok (.ireturn, 1) := by decide +kernel
theorem f146_102 : decode prog_10_method_32_code 102 = .ok (.iinc 2 1, 3) := by decide +kernel
theorem f146_105 : decode prog_10_method_32_code 105 = .ok (.goto (-94), 3) := by decide +kernel
theorem f146_108 : decode prog_10_method_32_code 108 = .ok (.bipush (-5), 2) := by decide +kernel
theorem f146_110 : decode prog_10_method_32_code 110 = .ok (.ireturn, 1) := by decide +kernel
theorem f147_0 : decode prog_10_method_30_code 0 = .ok (.iconst 0, 1) := by decide +kernel
theorem f147_1 : decode prog_10_method_30_code 1 = .ok (.istore_n 3, 1) := by decide +kernel
theorem f147_2 : decode prog_10_method_30_code 2 = .ok (.iload_n 3, 1) := by decide +kernel
theorem f147_3 : decode prog_10_method_30_code 3 = .ok (.bipush 6, 2) := by decide +kernel
theorem f147_5 : decode prog_10_method_30_code 5 = .ok (.if_icmp .ge 18, 3) := by decide +kernel
theorem f147_8 : decode prog_10_method_30_code 8 = .ok (.aload_n 2, 1) := by decide +kernel
theorem f147_9 : decode prog_10_method_30_code 9 = .ok (.iload_n 3, 1) := by decide +kernel
theorem f147_10 : decode prog_10_method_30_code 10 = .ok (.aload_n 0, 1) := by decide +kernel
theorem f147_11 : decode prog_10_method_30_code 11 = .ok (.iload_n 1, 1) := by decide +kernel
theorem f147_12 : decode prog_10_method_30_code 12 = .ok (.iload_n 3, 1) := by decide +kernel
theorem f147_13 : decode prog_10_method_30_code 13 = .ok (.invokevirtual 128, 3) := by decide +kernel
theorem f147_16 : decode prog_10_method_30_code 16 = .ok (.iastore, 1) := by decide +kernel
theorem f147_17 : decode prog_10_method_30_code 17 = .ok (.iinc 3 1, 3) := by decide +kernel
theorem f147_20 : decode prog_10_method_30_code 20 = .ok (.goto (-18), 3) := by decide +kernel
theorem f147_23 : decode prog_10_method_30_code 23 = .ok (.return_, 1) := by decide +kernel
theorem f150_0 : decode prog_10_method_8_code 0 = .ok (.aload_n 0, 1) := by decide +kernel
theorem f150_1 : decode prog_10_method_8_code 1 = .ok (.iload_n 1, 1) := by decide +kernel
theorem f150_2 : decode prog_10_method_8_code 2 = .ok (.invokevirtual 121, 3) := by decide +kernel
theorem f150_5 : decode prog_10_method_8_code 5 = .ok (.ifCond .eq 10, 3) := by decide +kernel
theorem f150_8 : decode prog_10_method_8_code 8 = .ok (.iload_n 2, 1) := by decide +kernel
theorem f150_9 : decode prog_10_method_8_code 9 = .ok (.invokestatic 125, 3) := by decide +kernel
theorem f150_12 : decode prog_10_method_8_code 12 = .ok (.ifCond .ne 5, 3) := by decide +kernel
theorem f150_15 : decode prog_10_method_8_code 15 = .ok (.iconst (-1), 1) := by decide +kernel
theorem f150_16 : decode prog_10_method_8_code 16 = .ok (.ireturn, 1) := by decide +kernel
theorem f150_17 : decode prog_10_method_8_code 17 = .ok (.iload_n 3, 1) := by decide +kernel
theorem f150_18 : decode prog_10_method_8_code 18 = .ok (.invokestatic 151, 3) := by decide +kernel
theorem f150_21 : decode prog_10_method_8_code 21 = .ok (.ifCond .ne 6, 3) := by decide +kernel
theorem f150_24 : decode prog_10_method_8_code 24 = .ok (.bipush (-2), 2) := by decide +kernel
theorem f150_26 : decode prog_10_method_8_code 26 = .ok (.ireturn, 1) := by decide +kernel
theorem f150_27 : decode prog_10_method_8_code 27 = .ok (.aload_n 0, 1) := by decide +kernel
theorem f150_28 : decode prog_10_method_8_code 28 = .ok (.getfield 18, 3) := by decide +kernel
theorem f150_31 : decode prog_10_method_8_code 31 = .ok (.bipush 6, 2) := by decide +kernel
theorem f150_33 : decode prog_10_method_8_code 33 = .ok (.iload_n 1, 1) := by decide +kernel
theorem f150_34 : decode prog_10_method_8_code 34 = .ok (.imul, 1) := by decide +kernel
theorem f150_35 : decode prog_10_method_8_code 35 = .ok (.iload_n 2, 1) := by decide +kernel
theorem f150_36 : decode prog_10_method_8_code 36 = .ok (.iadd, 1) := by decide +kernel
theorem f150_37 : decode prog_10_method_8_code 37 = .ok (.iaload, 1) := by decide +kernel
theorem f150_38 : decode prog_10_method_8_code 38 = .ok (.istore 4, 2) := by decide +kernel
theorem f150_40 : decode prog_10_method_8_code 40 = .ok (.aload_n 0, 1) := by decide +kernel
theorem f150_41 : decode prog_10_method_8_code 41 = .ok (.getfield 18, 3) := by decide +kernel
theorem f150_44 : decode prog_10_method_8_code 44 = .ok (.bipush 6, 2) := by decide +kernel
theorem f150_46 : decode prog_10_method_8_code 46 = .ok (.iload_n 1, 1) := by decide +kernel
theorem f150_47 : decode prog_10_method_8_code 47 = .ok (.imul, 1) := by decide +kernel
theorem f150_48 : decode prog_10_method_8_code 48 = .ok (.iload_n 2, 1) := by decide +kernel
theorem f150_49 : decode prog_10_method_8_code 49 = .ok (.iadd, 1) := by decide +kernel
theorem f150_50 : decode prog_10_method_8_code 50 = .ok (.iload_n 3, 1) := by decide +kernel
theorem f150_51 : decode prog_10_method_8_code 51 = .ok (.iastore, 1) := by decide +kernel
theorem f150_52 : decode prog_10_method_8_code 52 = .ok (.iload 4, 2) := by decide +kernel
theorem f150_54 : decode prog_10_method_8_code 54 = .ok (.ireturn, 1) := by decide +kernel
theorem f152_0 : decode prog_10_method_9_code 0 = .ok (.iload_n 1, 1) := by decide +kernel
theorem f152_1 : decode prog_10_method_9_code 1 = .ok (.iconst (-1), 1) := by decide +kernel
theorem f152_2 : decode prog_10_method_9_code 2 = .ok (.if_icmp .ne 10, 3) := by decide +kernel
theorem f152_5 : decode prog_10_method_9_code 5 = .ok (.aload_n 0, 1) := by decide +kernel
theorem f152_6 : decode prog_10_method_9_code 6 = .ok (.iconst 0, 1) := by decide +kernel
theorem f152_7 : decode prog_10_method_9_code 7 = .ok (.putfield 154, 3) := by decide +kernel
theorem f152_10 : decode prog_10_method_9_code 10 = .ok (.iconst 0, 1) := by decide +kernel
theorem f152_11 : decode prog_10_method_9_code 11 = .ok (.ireturn, 1) := by decide +kernel
theorem f152_12 : decode prog_10_method_9_code 12 = .ok (.iload_n 1, 1) := by decide +kernel
theorem f152_13 : decode prog_10_method_9_code 13 = .ok (.invokestatic 151, 3) := by decide +kernel
theorem f152_16 : decode prog_10_method_9_code 16 = .ok (.ifCond .ne 6, 3) := by decide +kernel
theorem f152_19 : decode prog_10_method_9_code 19 = .ok (.bipush (-2), 2) := by decide +kernel
theorem f152_21 : decode prog_10_method_9_code 21 = .ok (.ireturn, 1) := by decide +kernel
theorem f152_22 : decode prog_10_method_9_code 22 = .ok (.aload_n 0, 1) := by decide +kernel
theorem f152_23 : decode prog_10_method_9_code 23 = .ok (.getfield 154, 3) := by decide +kernel
theorem f152_26 : decode prog_10_method_9_code 26 = .ok (.bipush 8, 2) := by decide +kernel
theorem f152_28 : decode prog_10_method_9_code 28 = .ok (.if_icmp .ne 6, 3) := by decide +kernel
theorem f152_31 : decode prog_10_method_9_code 31 = .ok (.bipush (-4), 2) := by decide +kernel
theorem f152_33 : decode prog_10_method_9_code 33 = .ok (.ireturn, 1) := by decide +kernel
theorem f152_34 : decode prog_10_method_9_code 34 = .ok (.aload_n 0, 1) := by decide +kernel
theorem f152_35 : decode prog_10_method_9_code 35 = .ok (.getfield 27, 3) := by decide +kernel
theorem f152_38 : decode prog_10_method_9_code 38 = .ok (.aload_n 0, 1) := by decide +kernel
theorem f152_39 : decode prog_10_method_9_code 39 = .ok (.dup, 1) := by decide +kernel
theorem f152_40 : decode prog_10_method_9_code 40 = .ok (.getfield 154, 3) := by decide +kernel
theorem f152_43 : decode prog_10_method_9_code 43 = .ok (.dup_x1, 1) := by decide +kernel
theorem f152_44 : decode prog_10_method_9_code 44 = .ok (.iconst 1, 1) := by decide +kernel
theorem f152_45 : decode prog_10_method_9_code 45 = .ok (.iadd, 1) := by decide +kernel
theorem f152_46 : decode prog_10_method_9_code 46 = .ok (.putfield 154, 3) := by decide +kernel
theorem f152_49 : decode prog_10_method_9_code 49 = .ok (.iload_n 1, 1) := by decide +kernel
theorem f152_50 : decode prog_10_method_9_code 50 = .ok (.iastore, 1) := by decide +kernel
theorem f152_51 : decode prog_10_method_9_code 51 = .ok (.aload_n 0, 1) := by decide +kernel
theorem f152_52 : decode prog_10_method_9_code 52 = .ok (.getfield 154, 3) := by decide +kernel
theorem f152_55 : decode prog_10_method_9_code 55 = .ok (.ireturn, 1) := by decide +kernel
theorem f153_0 : decode prog_10_method_10_code 0 = .ok (.aload_n 0, 1) := by decide +kernel
theorem f153_1 : decode prog_10_method_10_code 1 = .ok (.iload_n 1, 1) := by decide +kernel
theorem f153_2 : decode prog_10_method_10_code 2 = .ok (.invokevirtual 121, 3) := by decide +kernel
theorem f153_5 : decode prog_10_method_10_code 5 = .ok (.ifCond .eq 12, 3) := by decide +kernel
theorem f153_8 : decode prog_10_method_10_code 8 = .ok (.iload_n 2, 1) := by decide +kernel
theorem f153_9 : decode prog_10_method_10_code 9 = .ok (.iconst 0, 1) := by decide +kernel
theorem f153_10 : decode prog_10_method_10_code 10 = .ok (.iconst 3, 1) := by decide +kernel
theorem f153_11 : decode prog_10_method_10_code 11 = .ok (.invokestatic 117, 3) := by decide +kernel
theorem f153_14 : decode prog_10_method_10_code 14 = .ok (.ifCond .ne 5, 3) := by decide +kernel
theorem f153_17 : decode prog_10_method_10_code 17 = .ok (.iconst (-1), 1) := by decide +kernel
theorem f153_18 : decode prog_10_method_10_code 18 = .ok (.ireturn, 1) := by decide +kernel
theorem f153_19 : decode prog_10_method_10_code 19 = .ok (.iload_n 3, 1) := by decide +kernel
theorem f153_20 : decode prog_10_method_10_code 20 = .ok (.iconst 0, 1) := by decide +kernel
theorem f153_21 : decode prog_10_method_10_code 21 = .ok (.bipush 9, 2) := by decide +kernel
theorem f153_23 : decode prog_10_method_10_code 23 = .ok (.invokestatic 117, 3) := by decide +kernel
theorem f153_26 : decode prog_10_method_10_code 26 = .ok (.ifCond .ne 6, 3) := by decide +kernel
theorem f153_29 : decode prog_10_method_10_code 29 = .ok (.bipush (-2), 2) := by decide +kernel
theorem f153_31 : decode prog_10_method_10_code 31 = .ok (.ireturn, 1) := by decide +kernel
theorem f153_32 : decode prog_10_method_10_code 32 = .ok (.aload_n 0, 1) := by decide +kernel
theorem f153_33 : decode prog_10_method_10_code 33 = .ok (.getfield 9, 3) := by decide +kernel
theorem f153_36 : decode prog_10_method_10_code 36 = .ok (.iload_n 1, 1) := by decide +kernel
theorem f153_37 : decode prog_10_method_10_code 37 = .ok (.iaload, 1) := by decide +kernel
theorem f153_38 : decode prog_10_method_10_code 38 = .ok (.bipush 6, 2) := by decide +kernel
theorem f153_40 : decode prog_10_method_10_code 40 = .ok (.if_icmp .eq 6, 3) := by decide +kernel
theorem f153_43 : decode prog_10_method_10_code 43 = .ok (.bipush (-3), 2) := by decide +kernel
theorem f153_45 : decode prog_10_method_10_code 45 = .ok (.ireturn, 1) := by decide +kernel
theorem f153_46 : decode prog_10_method_10_code 46 = .ok (.aload_n 0, 1) := by decide +kernel
theorem f153_47 : decode prog_10_method_10_code 47 = .ok (.getfield 24, 3) := by decide +kernel
theorem f153_50 : decode prog_10_method_10_code 50 = .ok (.iconst 4, 1) := by decide +kernel
theorem f153_51 : decode prog_10_method_10_code 51 = .ok (.iload_n 1, 1) := by decide +kernel
theorem f153_52 : decode prog_10_method_10_code 52 = .ok (.imul, 1) := by decide +kernel
theorem f153_53 : decode prog_10_method_10_code 53 = .ok (.iload_n 2, 1) := by decide +kernel
theorem f153_54 : decode prog_10_method_10_code 54 = .ok (.iadd, 1) := by decide +kernel
theorem f153_55 : decode prog_10_method_10_code 55 = .ok (.iaload, 1) := by decide +kernel
theorem f153_56 : decode prog_10_method_10_code 56 = .ok (.istore 4, 2) := by decide +kernel
theorem f153_58 : decode prog_10_method_10_code 58 = .ok (.aload_n 0, 1) := by decide +kernel
theorem f153_59 : decode prog_10_method_10_code 59 = .ok (.getfield 24, 3) := by decide +kernel
theorem f153_62 : decode prog_10_method_10_code 62 = .ok (.iconst 4, 1) := by decide +kernel
theorem f153_63 : decode prog_10_method_10_code 63 = .ok (.iload_n 1, 1) := by decide +kernel
theorem f153_64 : decode prog_10_method_10_code 64 = .ok (.imul, 1) := by decide +kernel
theorem f153_65 : decode prog_10_method_10_code 65 = .ok (.iload_n 2, 1) := by decide +kernel
theorem f153_66 : decode prog_10_method_10_code 66 = .ok (.iadd, 1) := by decide +kernel
theorem f153_67 : decode prog_10_method_10_code 67 = .ok (.iload_n 3, 1) := by decide +kernel
theorem f153_68 : decode prog_10_method_10_code 68 = .ok (.iastore, 1) := by decide +kernel
theorem f153_69 : decode prog_10_method_10_code 69 = .ok (.iload 4, 2) := by decide +kernel
theorem f153_71 : decode prog_10_method_10_code 71 = .ok (.ireturn, 1) := by decide +kernel
theorem f154_0 : decode prog_10_method_11_code 0 = .ok (.iload_n 1, 1) := by decide +kernel
theorem f154_1 : decode prog_10_method_11_code 1 = .ok (.iconst 0, 1) := by decide +kernel
theorem f154_2 : decode prog_10_method_11_code 2 = .ok (.bipush 127, 2) := by decide +kernel
theorem f154_4 : decode prog_10_method_11_code 4 = .ok (.invokestatic 117, 3) := by decide +kernel
theorem f154_7 : decode prog_10_method_11_code 7 = .ok (.ifCond .ne 6, 3) := by decide +kernel
theorem f154_10 : decode prog_10_method_11_code 10 = .ok (.bipush (-2), 2) := by decide +kernel
theorem f154_12 : decode prog_10_method_11_code 12 = .ok (.ireturn, 1) := by decide +kernel
theorem f154_13 : decode prog_10_method_11_code 13 = .ok (.aload_n 0, 1) := by decide +kernel
theorem f154_14 : decode prog_10_method_11_code 14 = .ok (.getfield 157, 3) := by decide +kernel
theorem f154_17 : decode prog_10_method_11_code 17 = .ok (.bipush 100, 2) := by decide +kernel
theorem f154_19 : decode prog_10_method_11_code 19 = .ok (.if_icmp .ne 6, 3) := by decide +kernel
theorem f154_22 : decode prog_10_method_11_code 22 = .ok (.bipush (-4), 2) := by decide +kernel
theorem f154_24 : decode prog_10_method_11_code 24 = .ok (.ireturn, 1) := by decide +kernel
theorem f154_25 : decode prog_10_method_11_code 25 = .ok (.aload_n 0, 1) := by decide +kernel
theorem f154_26 : decode prog_10_method_11_code 26 = .ok (.getfield 30, 3) := by decide +kernel
theorem f154_29 : decode prog_10_method_11_code 29 = .ok (.aload_n 0, 1) := by decide +kernel
theorem f154_30 : decode prog_10_method_11_code 30 = .ok (.dup, 1) := by decide +kernel
theorem f154_31 : decode prog_10_method_11_code 31 = .ok (.getfield 157, 3) := by decide +kernel
theorem f154_34 : decode prog_10_method_11_code 34 = .ok (.dup_x1, 1) := by decide +kernel
theorem f154_35 : decode prog_10_method_11_code 35 = .ok (.iconst 1, 1) := by decide +kernel
theorem f154_36 : decode prog_10_method_11_code 36 = .ok (.iadd, 1) := by decide +kernel
theorem f154_37 : decode prog_10_method_11_code 37 = .ok (.putfield 157, 3) := by decide +kernel
theorem f154_40 : decode prog_10_method_11_code 40 = .ok (.iload_n 1, 1) := by decide +kernel
theorem f154_41 : decode prog_10_method_11_code 41 = .ok (.iastore, 1) := by decide +kernel
theorem f154_42 : decode prog_10_method_11_code 42 = .ok (.aload_n 0, 1) := by decide +kernel
theorem f154_43 : decode prog_10_method_11_code 43 = .ok (.getfield 157, 3) := by decide +kernel
theorem f154_46 : decode prog_10_method_11_code 46 = .ok (.ireturn, 1) := by decide +kernel
theorem f161_0 : decode prog_10_method_21_code 0 = .ok (.aload_n 0, 1) := by decide +kernel
theorem f161_1 : decode prog_10_method_21_code 1 = .ok (.invokevirtual 216, 3) := by decide +kernel
theorem f161_4 : decode prog_10_method_21_code 4 = .ok (.ifCond .ne 5, 3) := by decide +kernel
theorem f161_7 : decode prog_10_method_21_code 7 = .ok (.iconst 0, 1) := by decide +kernel
theorem f161_8 : decode prog_10_method_21_code 8 = .ok (.ireturn, 1) := by decide +kernel
theorem f161_9 : decode prog_10_method_21_code 9 = .ok (.aload_n 0, 1) := by decide +kernel
theorem f161_10 : decode prog_10_method_21_code 10 = .ok (.bipush 124, 2) := by decide +kernel
theorem f161_12 : decode prog_10_method_21_code 12 = .ok (.invokevirtual 182, 3) := by decide +kernel
theorem f161_15 : decode prog_10_method_21_code 15 = .ok (.ifCond .eq 20, 3) := by decide +kernel
theorem f161_18 : decode prog_10_method_21_code 18 = .ok (.aload_n 0, 1) := by decide +kernel
theorem f161_19 : decode prog_10_method_21_code 19 = .ok (.invokevirtual 216, 3) := by decide +kernel
theorem f161_22 : decode prog_10_method_21_code 22 = .ok (.ifCond .eq 11, 3) := by decide +kernel
theorem f161_25 : decode prog_10_method_21_code 25 = .ok (.aload_n 0, 1) := by decide +kernel
theorem f161_26 : decode prog_10_method_21_code 26 = .ok (.iconst 2, 1) := by decide +kernel
theorem f161_27 : decode prog_10_method_21_code 27 = .ok (.invokevirtual 198, 3) := by decide +kernel
theorem f161_30 : decode prog_10_method_21_code 30 = .ok (.ifCond .ne (-21), 3) := by decide +kernel
theorem f161_33 : decode prog_10_method_21_code 33 = .ok (.iconst 0, 1) := by decide +kernel
theorem f161_34 : decode prog_10_method_21_code 34 = .ok (.ireturn, 1) := by decide +kernel
theorem f161_35 : decode prog_10_method_21_code 35 = .ok (.iconst 1, 1) := by decide +kernel
theorem f161_36 : decode prog_10_method_21_code 36 = .ok (.ireturn, 1) := by decide +kernel
theorem f162_0 : decode prog_10_method_20_code 0 = .ok (.aload_n 0, 1) := by decide +kernel
theorem f162_1 : decode prog_10_method_20_code 1 = .ok (.invokevirtual 207, 3) := by decide +kernel
theorem f162_4 : decode prog_10_method_20_code 4 = .ok (.ifCond .ne 5, 3) := by decide +kernel
theorem f162_7 : decode prog_10_method_20_code 7 = .ok (.iconst 0, 1) := by decide +kernel
theorem f162_8 : decode prog_10_method_20_code 8 = .ok (.ireturn, 1) := by decide +kernel
theorem f162_9 : decode prog_10_method_20_code 9 = .ok (.aload_n 0, 1) := by decide +kernel
theorem f162_10 : decode prog_10_method_20_code 10 = .ok (.bipush 38, 2) := by decide +kernel
theorem f162_12 : decode prog_10_method_20_code 12 = .ok (.invokevirtual 182, 3) := by decide +kernel
theorem f162_15 : decode prog_10_method_20_code 15 = .ok (.ifCond .eq 20, 3) := by decide +kernel
theorem f162_18 : decode prog_10_method_20_code 18 = .ok (.aload_n 0, 1) := by decide +kernel
theorem f162_19 : decode prog_10_method_20_code 19 = .ok (.invokevirtual 207, 3) := by decide +kernel
theorem f162_22 : decode prog_10_method_20_code 22 = .ok (.ifCond .eq 11, 3) := by decide +kernel
theorem f162_25 : decode prog_10_method_20_code 25 = .ok (.aload_n 0, 1) := by decide +kernel
theorem f162_26 : decode prog_10_method_20_code 26 = .ok (.iconst 1, 1) := by decide +kernel
theorem f162_27 : decode prog_10_method_20_code 27 = .ok (.invokevirtual 198, 3) := by decide +kernel
theorem f162_30 : decode prog_10_method_20_code 30 = .ok (.ifCond .ne (-21), 3) := by decide +kernel
theorem f162_33 : decode prog_10_method_20_code 33 = .ok (.iconst 0, 1) := by decide +kernel
theorem f162_34 : decode prog_10_method_20_code 34 = .ok (.ireturn, 1) := by decide +kernel
theorem f162_35 : decode prog_10_method_20_code 35 = .ok (.iconst 1, 1) := by decide +kernel
theorem f162_36 : decode prog_10_method_20_code 36 = .ok (.ireturn, 1) := by decide +kernel
theorem f163_0 : decode prog_10_method_19_code 0 = .ok (.aload_n 0, 1) := by decide +kernel
theorem f163_1 : decode prog_10_method_19_code 1 = .ok (.bipush 33, 2) := by decide +kernel
theorem f163_3 : decode prog_10_method_19_code 3 = .ok (.invokevirtual 204, 3) := by decide +kernel
theorem f163_6 : decode prog_10_method_19_code 6 = .ok (.ifCond .eq 27, 3) := by decide +kernel
theorem f163_9 : decode prog_10_method_19_code 9 = .ok (.aload_n 0, 1) := by decide +kernel
theorem f163_10 : decode prog_10_method_19_code 10 = .ok (.invokevirtual 207, 3) := by decide +kernel
theorem f163_13 : decode prog_10_method_19_code 13 = .ok (.ifCond .eq 15, 3) := by decide +kernel
theorem f163_16 : decode prog_10_method_19_code 16 = .ok (.aload_n 0, 1) := by decide +kernel
theorem f163_17 : decode prog_10_method_19_code 17 = .ok (.iconst 0, 1) := by decide +kernel
theorem f163_18 : decode prog_10_method_19_code 18 = .ok (.invokevirtual 198, 3) := by decide +kernel
theorem f163_21 : decode prog_10_method_19_code 21 = .ok (.ifCond .eq 7, 3) := by decide +kernel
theorem f163_24 : decode prog_10_method_19_code 24 = .ok (.iconst 1, 1) := by decide +kernel
theorem f163_25 : decode prog_10_method_19_code 25 = .ok (.goto 4, 3) := by decide +kernel
theorem f163_28 : decode prog_10_method_19_code 28 = .ok (.iconst 0, 1) := by decide +kernel
theorem f163_29 : decode prog_10_method_19_code 29 = .ok (.istore_n 1, 1) := by decide +kernel
theorem f163_30 : decode prog_10_method_19_code 30 = .ok (.goto 42, 3) := by decide +kernel
theorem f163_33 : decode prog_10_method_19_code 33 = .ok (.aload_n 0, 1) := by decide +kernel
theorem f163_34 : decode prog_10_method_19_code 34 = .ok (.bipush 40, 2) := by decide +kernel
theorem f163_36 : decode prog_10_method_19_code 36 = .ok (.invokevirtual 204, 3) := by decide +kernel
theorem f163_39 : decode prog_10_method_19_code 39 = .ok (.ifCond .eq 28, 3) := by decide +kernel
theorem f163_42 : decode prog_10_method_19_code 42 = .ok (.aload_n 0, 1) := by decide +kernel
theorem f163_43 : decode prog_10_method_19_code 43 = .ok (.invokevirtual 210, 3) := by decide +kernel
theorem f163_46 : decode prog_10_method_19_code 46 = .ok (.ifCond .eq 16, 3) := by decide +kernel
theorem f163_49 : decode prog_10_method_19_code 49 = .ok (.aload_n 0, 1) := by decide +kernel
theorem f163_50 : decode prog_10_method_19_code 50 = .ok (.bipush 41, 2) := by decide +kernel
theorem f163_52 : decode prog_10_method_19_code 52 = .ok (.invokevirtual 182, 3) := by decide +kernel
theorem f163_55 : decode prog_10_method_19_code 55 = .ok (.ifCond .eq 7, 3) := by decide +kernel
theorem f163_58 : decode prog_10_method_19_code 58 = .ok (.iconst 1, 1) := by decide +kernel
theorem f163_59 : decode prog_10_method_19_code 59 = .ok (.goto 4, 3) := by decide +kernel
theorem f163_62 : decode prog_10_method_19_code 62 = .ok (.iconst 0, 1) := by decide +kernel
theorem f163_63 : decode prog_10_method_19_code 63 = .ok (.istore_n 1, 1) := by decide +kernel
theorem f163_64 : decode prog_10_method_19_code 64 = .ok (.goto 8, 3) := by decide +kernel
theorem f163_67 : decode prog_10_method_19_code 67 = .ok (.aload_n 0, 1) := by decide +kernel
theorem f163_68 : decode prog_10_method_19_code 68 = .ok (.invokevirtual 213, 3) := by decide +kernel
theorem f163_71 : decode prog_10_method_19_code 71 = .ok (.ireturn, 1) := by decide +kernel
theorem f163_72 : decode prog_10_method_19_code 72 = .ok (.aload_n 0, 1) := by decide +kernel
theorem f163_73 : decode prog_10_method_19_code 73 = .ok (.dup, 1) := by decide +kernel
theorem f163_74 : decode prog_10_method_19_code 74 = .ok (.getfield 201, 3) := by decide +kernel
theorem f163_77 : decode prog_10_method_19_code 77 = .ok (.iconst 1, 1) := by decide +kernel
theorem f163_78 : decode prog_10_method_19_code 78 = .ok (.isub, 1) := by decide +kernel
theorem f163_79 : decode prog_10_method_19_code 79 = .ok (.putfield 201, 3) := by decide +kernel
theorem f163_82 : decode prog_10_method_19_code 82 = .ok (.iload_n 1, 1) := by decide +kernel
theorem f163_83 : decode prog_10_method_19_code 83 = .ok (.ireturn, 1) := by decide +kernel
theorem f164_0 : decode prog_10_method_18_code 0 = .ok (.aload_n 0, 1) := by decide +kernel
theorem f164_1 : decode prog_10_method_18_code 1 = .ok (.getfield 201, 3) := by decide +kernel
theorem f164_4 : decode prog_10_method_18_code 4 = .ok (.iconst 4, 1) := by decide +kernel
theorem f164_5 : decode prog_10_method_18_code 5 = .ok (.if_icmp .eq 11, 3) := by decide +kernel
theorem f164_8 : decode prog_10_method_18_code 8 = .ok (.aload_n 0, 1) := by decide +kernel
theorem f164_9 : decode prog_10_method_18_code 9 = .ok (.iload_n 1, 1) := by decide +kernel
theorem f164_10 : decode prog_10_method_18_code 10 = .ok (.invokevirtual 182, 3) := by decide +kernel
theorem f164_13 : decode prog_10_method_18_code 13 = .ok (.ifCond .ne 5, 3) := by decide +kernel
theorem f164_16 : decode prog_10_method_18_code 16 = .ok (.iconst 0, 1) := by decide +kernel
theorem f164_17 : decode prog_10_method_18_code 17 = .ok (.ireturn, 1) := by decide +kernel
theorem f164_18 : decode prog_10_method_18_code 18 = .ok (.aload_n 0, 1) := by decide +kernel
theorem f164_19 : decode prog_10_method_18_code 19 = .ok (.dup, 1) := by decide +kernel
theorem f164_20 : decode prog_10_method_18_code 20 = .ok (.getfield 201, 3) := by decide +kernel
theorem f164_23 : decode prog_10_method_18_code 23 = .ok (.iconst 1, 1) := by decide +kernel
theorem f164_24 : decode prog_10_method_18_code 24 = .ok (.iadd, 1) := by decide +kernel
theorem f164_25 : decode prog_10_method_18_code 25 = .ok (.putfield 201, 3) := by decide +kernel
theorem f164_28 : decode prog_10_method_18_code 28 = .ok (.iconst 1, 1) := by decide +kernel
theorem f164_29 : decode prog_10_method_18_code 29 = .ok (.ireturn, 1) := by decide +kernel
theorem f184_0 : decode prog_10_method_33_code 0 = .ok (.iconst 0, 1) := by decide +kernel
theorem f184_1 : decode prog_10_method_33_code 1 = .ok (.istore_n 1, 1) := by decide +kernel
theorem f184_2 : decode prog_10_method_33_code 2 = .ok (.iconst 0, 1) := by decide +kernel
theorem f184_3 : decode prog_10_method_33_code 3 = .ok (.istore_n 2, 1) := by decide +kernel
theorem f184_4 : decode prog_10_method_33_code 4 = .ok (.iload_n 2, 1) := by decide +kernel
theorem f184_5 : decode prog_10_method_33_code 5 = .ok (.aload_n 0, 1) := by decide +kernel
theorem f184_6 : decode prog_10_method_33_code 6 = .ok (.getfield 114, 3) := by decide +kernel
theorem f184_9 : decode prog_10_method_33_code 9 = .ok (.if_icmp .ge 25, 3) := by decide +kernel
theorem f184_12 : decode prog_10_method_33_code 12 = .ok (.aload_n 0, 1) := by decide +kernel
theorem f184_13 : decode prog_10_method_33_code 13 = .ok (.iload_n 2, 1) := by decide +kernel
theorem f184_14 : decode prog_10_method_33_code 14 = .ok (.invokevirtual 142, 3) := by decide +kernel
theorem f184_17 : decode prog_10_method_33_code 17 = .ok (.bipush (-5), 2) := by decide +kernel
theorem f184_19 : decode prog_10_method_33_code 19 = .ok (.if_icmp .eq 9, 3) := by decide +kernel
theorem f184_22 : decode prog_10_method_33_code 22 = .ok (.iload_n 1, 1) := by decide +kernel
theorem f184_23 : decode prog_10_method_33_code 23 = .ok (.iconst 1, 1) := by decide +kernel
theorem f184_24 : decode prog_10_method_33_code 24 = .ok (.iload_n 2, 1) := by decide +kernel
theorem f184_25 : decode prog_10_method_33_code 25 = .ok (.ishl, 1) := by decide +kernel
theorem f184_26 : decode prog_10_method_33_code 26 = .ok (.ior, 1) := by decide +kernel
theorem f184_27 : decode prog_10_method_33_code 27 = .ok (.istore_n 1, 1) := by decide +kernel
theorem f184_28 : decode prog_10_method_33_code 28 = .ok (.iinc 2 1, 3) := by decide +kernel
theorem f184_31 : decode prog_10_method_33_code 31 = .ok (.goto (-27), 3) := by decide +kernel
theorem f184_34 : decode prog_10_method_33_code 34 = .ok (.iload_n 1, 1) := by decide +kernel
theorem f184_35 : decode prog_10_method_33_code 35 = .ok (.ireturn, 1) := by decide +kernel
theorem f185_0 : decode prog_10_method_34_code 0 = .ok (.iconst 0, 1) := by decide +kernel
theorem f185_1 : decode prog_10_method_34_code 1 = .ok (.istore_n 1, 1) := by decide +kernel
theorem f185_2 : decode prog_10_method_34_code 2 = .ok (.iconst 0, 1) := by decide +kernel
theorem f185_3 : decode prog_10_method_34_code 3 = .ok (.istore_n 2, 1) := by decide +kernel
theorem f185_4 : decode prog_10_method_34_code 4 = .ok (.iload_n 2, 1) := by decide +kernel
theorem f185_5 : decode prog_10_method_34_code 5 = .ok (.aload_n 0, 1) := by decide +kernel
theorem f185_6 : decode prog_10_method_34_code 6 = .ok (.getfield 114, 3) := by decide +kernel
theorem f185_9 : decode prog_10_method_34_code 9 = .ok (.if_icmp .ge 32, 3) := by decide +kernel
theorem f185_12 : decode prog_10_method_34_code 12 = .ok (.iconst 0, 1) := by decide +kernel
theorem f185_13 : decode prog_10_method_34_code 13 = .ok (.istore_n 3, 1) := by decide +kernel
theorem f185_14 : decode prog_10_method_34_code 14 = .ok (.iload_n 3, 1) := by decide +kernel
theorem f185_15 : decode prog_10_method_34_code 15 = .ok (.bipush 6, 2) := by decide +kernel
theorem f185_17 : decode prog_10_method_34_code 17 = .ok (.if_icmp .ge 18, 3) := by decide +kernel
theorem f185_20 : decode prog_10_method_34_code 20 = .ok (.iload_n 1, 1) := by decide +kernel
theorem f185_21 : decode prog_10_method_34_code 21 = .ok (.aload_n 0, 1) := by decide +kernel
theorem f185_22 : decode prog_10_method_34_code 22 = .ok (.iload_n 2, 1) := by decide +kernel
theorem f185_23 : decode prog_10_method_34_code 23 = .ok (.iload_n 3, 1) := by decide +kernel
theorem f185_24 : decode prog_10_method_34_code 24 = .ok (.invokevirtual 128, 3) := by decide +kernel
theorem f185_27 : decode prog_10_method_34_code 27 = .ok (.iadd, 1) := by decide +kernel
theorem f185_28 : decode prog_10_method_34_code 28 = .ok (.istore_n 1, 1) := by decide +kernel
theorem f185_29 : decode prog_10_method_34_code 29 = .ok (.iinc 3 1, 3) := by decide +kernel
theorem f185_32 : decode prog_10_method_34_code 32 = .ok (.goto (-18), 3) := by decide +kernel
theorem f185_35 : decode prog_10_method_34_code 35 = .ok (.iinc 2 1, 3) := by decide +kernel
theorem f185_38 : decode prog_10_method_34_code 38 = .ok (.goto (-34), 3) := by decide +kernel
theorem f185_41 : decode prog_10_method_34_code 41 = .ok (.iload_n 1, 1) := by decide +kernel
theorem f185_42 : decode prog_10_method_34_code 42 = .ok (.ireturn, 1) := by decide +kernel
theorem f188_0 : decode prog_10_method_40_code 0 = .ok (.aload_n 0, 1) := by decide +kernel
theorem f188_1 : decode prog_10_method_40_code 1 = .ok (.iload_n 1, 1) := by decide +kernel
theorem f188_2 : decode prog_10_method_40_code 2 = .ok (.aload_n 0, 1) := by decide +kernel
theorem f188_3 : decode prog_10_method_40_code 3 = .ok (.getfield 88, 3) := by decide +kernel
theorem f188_6 : decode prog_10_method_40_code 6 = .ok (.invokevirtual 253, 3) := by decide +kernel
theorem f188_9 : decode prog_10_method_40_code 9 = .ok (.aload_n 0, 1) := by decide +kernel
theorem f188_10 : decode prog_10_method_40_code 10 = .ok (.iload_n 2, 1) := by decide +kernel
theorem f188_11 : decode prog_10_method_40_code 11 = .ok (.aload_n 0, 1) := by decide +kernel
theorem f188_12 : decode prog_10_method_40_code 12 = .ok (.getfield 91, 3) := by decide +kernel
theorem f188_15 : decode prog_10_method_40_code 15 = .ok (.invokevirtual 253, 3) := by decide +kernel
theorem f188_18 : decode prog_10_method_40_code 18 = .ok (.bipush 6, 2) := by decide +kernel
theorem f188_20 : decode prog_10_method_40_code 20 = .ok (.istore_n 3, 1) := by decide +kernel
theorem f188_21 : decode prog_10_method_40_code 21 = .ok (.iload_n 3, 1) := by decide +kernel
theorem f188_22 : decode prog_10_method_40_code 22 = .ok (.ifCond .le 59, 3) := by decide +kernel
theorem f188_25 : decode prog_10_method_40_code 25 = .ok (.iconst 1, 1) := by decide +kernel
theorem f188_26 : decode prog_10_method_40_code 26 = .ok (.istore 4, 2) := by decide +kernel
theorem f188_28 : decode prog_10_method_40_code 28 = .ok (.iconst 0, 1) := by decide +kernel
theorem f188_29 : decode prog_10_method_40_code 29 = .ok (.istore 5, 2) := by decide +kernel
theorem f188_31 : decode prog_10_method_40_code 31 = .ok (.iload 5, 2) := by decide +kernel
theorem f188_33 : decode prog_10_method_40_code 33 = .ok (.iload_n 3, 1) := by decide +kernel
theorem f188_34 : decode prog_10_method_40_code 34 = .ok (.if_icmp .ge 34, 3) := by decide +kernel
theorem f188_37 : decode prog_10_method_40_code 37 = .ok (.aload_n 0, 1) := by decide +kernel
theorem f188_38 : decode prog_10_method_40_code 38 = .ok (.getfield 88, 3) := by decide +kernel
theorem f188_41 : decode prog_10_method_40_code 41 = .ok (.bipush 6, 2) := by decide +kernel
theorem f188_43 : decode prog_10_method_40_code 43 = .ok (.iload_n 3, 1) := by decide +kernel
theorem f188_44 : decode prog_10_method_40_code 44 = .ok (.isub, 1) := by decide +kernel
theorem f188_45 : decode prog_10_method_40_code 45 = .ok (.iload 5, 2) := by decide +kernel
theorem f188_47 : decode prog_10_method_40_code 47 = .ok (.iadd, 1) := by decide +kernel
theorem f188_48 : decode prog_10_method_40_code 48 = .ok (.iaload, 1) := by decide +kernel
theorem f188_49 : decode prog_10_method_40_code 49 = .ok (.aload_n 0, 1) := by decide +kernel
theorem f188_50 : decode prog_10_method_40_code 50 = .ok (.getfield 91, 3) := by decide +kernel
theorem f188_53 : decode prog_10_method_40_code 53 = .ok (.iload 5, 2) := by decide +kernel
theorem f188_55 : decode prog_10_method_40_code 55 = .ok (.iaload, 1) := by decide +kernel
theorem f188_56 : decode prog_10_method_40_code 56 = .ok (.if_icmp .eq 6, 3) := by decide +kernel
theorem f188_59 : decode prog_10_method_40_code 59 = .ok (.iconst 0, 1) := by decide +kernel
theorem f188_60 : decode prog_10_method_40_code 60 = .ok (.istore 4, 2) := by decide +kernel
theorem f188_62 : decode prog_10_method_40_code 62 = .ok (.iinc 5 1, 3) := by decide +kernel
theorem f188_65 : decode prog_10_method_40_code 65 = .ok (.goto (-34), 3) := by decide +kernel
theorem f188_68 : decode prog_10_method_40_code 68 = .ok (.iload 4, 2) := by decide +kernel
theorem f188_70 : decode prog_10_method_40_code 70 = .ok (.ifCond .eq 5, 3) := by decide +kernel
theorem f188_73 : decode prog_10_method_40_code 73 = .ok (.iload_n 3, 1) := by decide +kernel
theorem f188_74 : decode prog_10_method_40_code 74 = .ok (.ireturn, 1) := by decide +kernel
theorem f188_75 : decode prog_10_method_40_code 75 = .ok (.iinc 3 (-1), 3) := by decide +kernel
theorem f188_78 : decode prog_10_method_40_code 78 = .ok (.goto (-57), 3) := by decide +kernel
theorem f188_81 : decode prog_10_method_40_code 81 = .ok (.iconst 0, 1) := by decide +kernel
theorem f188_82 : decode prog_10_method_40_code 82 = .ok (.ireturn, 1) := by decide +kernel
theorem f191_0 : decode prog_10_method_45_code 0 = .ok (.iload_n 1, 1) := by decide +kernel
theorem f191_1 : decode prog_10_method_45_code 1 = .ok (.iconst (-1), 1) := by decide +kernel
theorem f191_2 : decode prog_10_method_45_code 2 = .ok (.if_icmp .ne 10, 3) := by decide +kernel
theorem f191_5 : decode prog_10_method_45_code 5 = .ok (.aload_n 0, 1) := by decide +kernel
theorem f191_6 : decode prog_10_method_45_code 6 = .ok (.iconst 0, 1) := by decide +kernel
theorem f191_7 : decode prog_10_method_45_code 7 = .ok (.putfield 286, 3) := by decide +kernel
theorem f191_10 : decode prog_10_method_45_code 10 = .ok (.iconst 0, 1) := by decide +kernel
theorem f191_11 : decode prog_10_method_45_code 11 = .ok (.ireturn, 1) := by decide +kernel
theorem f191_12 : decode prog_10_method_45_code 12 = .ok (.aload_n 0, 1) := by decide +kernel
theorem f191_13 : decode prog_10_method_45_code 13 = .ok (.iload_n 1, 1) := by decide +kernel
theorem f191_14 : decode prog_10_method_45_code 14 = .ok (.invokevirtual 121, 3) := by decide +kernel
theorem f191_17 : decode prog_10_method_45_code 17 = .ok (.ifCond .eq 10, 3) := by decide +kernel
theorem f191_20 : decode prog_10_method_45_code 20 = .ok (.iload_n 2, 1) := by decide +kernel
theorem f191_21 : decode prog_10_method_45_code 21 = .ok (.invokestatic 125, 3) := by decide +kernel
theorem f191_24 : decode prog_10_method_45_code 24 = .ok (.ifCond .ne 5, 3) := by decide +kernel
theorem f191_27 : decode prog_10_method_45_code 27 = .ok (.iconst (-1), 1) := by decide +kernel
theorem f191_28 : decode prog_10_method_45_code 28 = .ok (.ireturn, 1) := by decide +kernel
theorem f191_29 : decode prog_10_method_45_code 29 = .ok (.iload_n 3, 1) := by decide +kernel
theorem f191_30 : decode prog_10_method_45_code 30 = .ok (.iconst 0, 1) := by decide +kernel
theorem f191_31 : decode prog_10_method_45_code 31 = .ok (.bipush 12, 2) := by decide +kernel
theorem f191_33 : decode prog_10_method_45_code 33 = .ok (.invokestatic 117, 3) := by decide +kernel
theorem f191_36 : decode prog_10_method_45_code 36 = .ok (.ifCond .eq 11, 3) := by decide +kernel
theorem f191_39 : decode prog_10_method_45_code 39 = .ok (.iload 4, 2) := by decide +kernel
theorem f191_41 : decode prog_10_method_45_code 41 = .ok (.invokestatic 151, 3) := by decide +kernel
theorem f191_44 : decode prog_10_method_45_code 44 = .ok (.ifCond .ne 6, 3) := by decide +kernel
theorem f191_47 : decode prog_10_method_45_code 47 = .ok (.bipush (-2), 2) := by decide +kernel
theorem f191_49 : decode prog_10_method_45_code 49 = .ok (.ireturn, 1) := by decide +kernel
theorem f191_50 : decode prog_10_method_45_code 50 = .ok (.aload_n 0, 1) := by decide +kernel
theorem f191_51 : decode prog_10_method_45_code 51 = .ok (.getfield 286, 3) := by decide +kernel
theorem f191_54 : decode prog_10_method_45_code 54 = .ok (.iconst 5, 1) := by decide +kernel
theorem f191_55 : decode prog_10_method_45_code 55 = .ok (.if_icmp .ne 6, 3) := by decide +kernel
theorem f191_58 : decode prog_10_method_45_code 58 = .ok (.bipush (-4), 2) := by decide +kernel
theorem f191_60 : decode prog_10_method_45_code 60 = .ok (.ireturn, 1) := by decide +kernel
theorem f191_61 : decode prog_10_method_45_code 61 = .ok (.aload_n 0, 1) := by decide +kernel
theorem f191_62 : decode prog_10_method_45_code 62 = .ok (.getfield 55, 3) := by decide +kernel
theorem f191_65 : decode prog_10_method_45_code 65 = .ok (.aload_n 0, 1) := by decide +kernel
theorem f191_66 : decode prog_10_method_45_code 66 = .ok (.getfield 286, 3) := by decide +kernel
theorem f191_69 : decode prog_10_method_45_code 69 = .ok (.iload_n 1, 1) := by decide +kernel
theorem f191_70 : decode prog_10_method_45_code 70 = .ok (.iastore, 1) := by decide +kernel
theorem f191_71 : decode prog_10_method_45_code 71 = .ok (.aload_n 0, 1) := by decide +kernel
theorem f191_72 : decode prog_10_method_45_code 72 = .ok (.getfield 58, 3) := by decide +kernel
theorem f191_75 : decode prog_10_method_45_code 75 = .ok (.aload_n 0, 1) := by decide +kernel
theorem f191_76 : decode prog_10_method_45_code 76 = .ok (.getfield 286, 3) := by decide +kernel
theorem f191_79 : decode prog_10_method_45_code 79 = .ok (.iload_n 2, 1) := by decide +kernel
theorem f191_80 : decode prog_10_method_45_code 80 = .ok (.iastore, 1) := by decide +kernel
theorem f191_81 : decode prog_10_method_45_code 81 = .ok (.aload_n 0, 1) := by decide +kernel
theorem f191_82 : decode prog_10_method_45_code 82 = .ok (.getfield 61, 3) := by decide +kernel
theorem f191_85 : decode prog_10_method_45_code 85 = .ok (.aload_n 0, 1) := by decide +kernel
theorem f191_86 : decode prog_10_method_45_code 86 = .ok (.getfield 286, 3) := by decide +kernel
theorem f191_89 : decode prog_10_method_45_code 89 = .ok (.iload_n 3, 1) := by decide +kernel
theorem f191_90 : decode prog_10_method_45_code 90 = .ok (.iastore, 1) := by decide +kernel
theorem f191_91 : decode prog_10_method_45_code 91 = .ok (.aload_n 0, 1) := by decide +kernel
theorem f191_92 : decode prog_10_method_45_code 92 = .ok (.getfield 64, 3) := by decide +kernel
theorem f191_95 : decode prog_10_method_45_code 95 = .ok (.aload_n 0, 1) := by decide +kernel
theorem f191_96 : decode prog_10_method_45_code 96 = .ok (.dup, 1) := by decide +kernel
theorem f191_97 : decode prog_10_method_45_code 97 = .ok (.getfield 286, 3) := by decide +kernel
theorem f191_100 : decode prog_10_method_45_code 100 = .ok (.dup_x1, 1) := by decide +kernel
theorem f191_101 : decode prog_10_method_45_code 101 = .ok (.iconst 1, 1) := by decide +kernel
theorem f191_102 : decode prog_10_method_45_code 102 = .ok (.iadd, 1) := by decide +kernel
theorem f191_103 : decode prog_10_method_45_code 103 = .ok (.putfield 286, 3) := by decide +kernel
theorem f191_106 : decode prog_10_method_45_code 106 = .ok (.iload 4, 2) := by decide +kernel
theorem f191_108 : decode prog_10_method_45_code 108 = .ok (.iastore, 1) := by decide +kernel
theorem f191_109 : decode prog_10_method_45_code 109 = .ok (.aload_n 0, 1) := by decide +kernel
theorem f191_110 : decode prog_10_method_45_code 110 = .ok (.getfield 286, 3) := by decide +kernel
theorem f191_113 : decode prog_10_method_45_code 113 = .ok (.ireturn, 1) := by decide +kernel
theorem f197_0 : decode prog_10_method_52_code 0 = .ok (.iload_n 1, 1) := by decide +kernel
theorem f197_1 : decode prog_10_method_52_code 1 = .ok (.iconst (-1), 1) := by decide +kernel
theorem f197_2 : decode prog_10_method_52_code 2 = .ok (.if_icmp .ne 10, 3) := by decide +kernel
theorem f197_5 : decode prog_10_method_52_code 5 = .ok (.aload_n 0, 1) := by decide +kernel
theorem f197_6 : decode prog_10_method_52_code 6 = .ok (.iconst 0, 1) := by decide +kernel
theorem f197_7 : decode prog_10_method_52_code 7 = .ok (.putfield 307, 3) := by decide +kernel
theorem f197_10 : decode prog_10_method_52_code 10 = .ok (.iconst 0, 1) := by decide +kernel
theorem f197_11 : decode prog_10_method_52_code 11 = .ok (.ireturn, 1) := by decide +kernel
theorem f197_12 : decode prog_10_method_52_code 12 = .ok (.iload_n 1, 1) := by decide +kernel
theorem f197_13 : decode prog_10_method_52_code 13 = .ok (.iconst 0, 1) := by decide +kernel
theorem f197_14 : decode prog_10_method_52_code 14 = .ok (.iconst 3, 1) := by decide +kernel
theorem f197_15 : decode prog_10_method_52_code 15 = .ok (.invokestatic 117, 3) := by decide +kernel
theorem f197_18 : decode prog_10_method_52_code 18 = .ok (.ifCond .eq 15, 3) := by decide +kernel
theorem f197_21 : decode prog_10_method_52_code 21 = .ok (.iload_n 1, 1) := by decide +kernel
theorem f197_22 : decode prog_10_method_52_code 22 = .ok (.ifCond .le 13, 3) := by decide +kernel
theorem f197_25 : decode prog_10_method_52_code 25 = .ok (.aload_n 0, 1) := by decide +kernel
theorem f197_26 : decode prog_10_method_52_code 26 = .ok (.iload_n 2, 1) := by decide +kernel
theorem f197_27 : decode prog_10_method_52_code 27 = .ok (.invokevirtual 121, 3) := by decide +kernel
theorem f197_30 : decode prog_10_method_52_code 30 = .ok (.ifCond .ne 5, 3) := by decide +kernel
theorem f197_33 : decode prog_10_method_52_code 33 = .ok (.iconst (-1), 1) := by decide +kernel
theorem f197_34 : decode prog_10_method_52_code 34 = .ok (.ireturn, 1) := by decide +kernel
theorem f197_35 : decode prog_10_method_52_code 35 = .ok (.aload_n 0, 1) := by decide +kernel
theorem f197_36 : decode prog_10_method_52_code 36 = .ok (.getfield 307, 3) := by decide +kernel
theorem f197_39 : decode prog_10_method_52_code 39 = .ok (.bipush 10, 2) := by decide +kernel
theorem f197_41 : decode prog_10_method_52_code 41 = .ok (.if_icmp .ne 6, 3) := by decide +kernel
theorem f197_44 : decode prog_10_method_52_code 44 = .ok (.bipush (-4), 2) := by decide +kernel
theorem f197_46 : decode prog_10_method_52_code 46 = .ok (.ireturn, 1) := by decide +kernel
theorem f197_47 : decode prog_10_method_52_code 47 = .ok (.aload_n 0, 1) := by decide +kernel
theorem f197_48 : decode prog_10_method_52_code 48 = .ok (.getfield 67, 3) := by decide +kernel
theorem f197_51 : decode prog_10_method_52_code 51 = .ok (.aload_n 0, 1) := by decide +kernel
theorem f197_52 : decode prog_10_method_52_code 52 = .ok (.getfield 307, 3) := by decide +kernel
theorem f197_55 : decode prog_10_method_52_code 55 = .ok (.iload_n 1, 1) := by decide +kernel
theorem f197_56 : decode prog_10_method_52_code 56 = .ok (.iastore, 1) := by decide +kernel
theorem f197_57 : decode prog_10_method_52_code 57 = .ok (.aload_n 0, 1) := by decide +kernel
theorem f197_58 : decode prog_10_method_52_code 58 = .ok (.getfield 70, 3) := by decide +kernel
theorem f197_61 : decode prog_10_method_52_code 61 = .ok (.aload_n 0, 1) := by decide +kernel
theorem f197_62 : decode prog_10_method_52_code 62 = .ok (.dup, 1) := by decide +kernel
theorem f197_63 : decode prog_10_method_52_code 63 = .ok (.getfield 307, 3) := by decide +kernel
theorem f197_66 : decode prog_10_method_52_code 66 = .ok (.dup_x1, 1) := by decide +kernel
theorem f197_67 : decode prog_10_method_52_code 67 = .ok (.iconst 1, 1) := by decide +kernel
theorem f197_68 : decode prog_10_method_52_code 68 = .ok (.iadd, 1) := by decide +kernel
theorem f197_69 : decode prog_10_method_52_code 69 = .ok (.putfield 307, 3) := by decide +kernel
theorem f197_72 : decode prog_10_method_52_code 72 = .ok (.iload_n 1, 1) := by decide +kernel
theorem f197_73 : decode prog_10_method_52_code 73 = .ok (.ifCond .ne 7, 3) := by decide +kernel
theorem f197_76 : decode prog_10_method_52_code 76 = .ok (.iconst 0, 1) := by decide +kernel
theorem f197_77 : decode prog_10_method_52_code 77 = .ok (.goto 4, 3) := by decide +kernel
theorem f197_80 : decode prog_10_method_52_code 80 = .ok (.iload_n 2, 1) := by decide +kernel
theorem f197_81 : decode prog_10_method_52_code 81 = .ok (.iastore, 1) := by decide +kernel
theorem f197_82 : decode prog_10_method_52_code 82 = .ok (.aload_n 0, 1) := by decide +kernel
theorem f197_83 : decode prog_10_method_52_code 83 = .ok (.getfield 307, 3) := by decide +kernel
theorem f197_86 : decode prog_10_method_52_code 86 = .ok (.ireturn, 1) := by decide +kernel
theorem f199_0 : decode prog_10_method_54_code 0 = .ok (.iload_n 1, 1) := by decide +kernel
theorem f199_1 : decode prog_10_method_54_code 1 = .ok (.iconst (-1), 1) := by decide +kernel
theorem f199_2 : decode prog_10_method_54_code 2 = .ok (.if_icmp .ne 10, 3) := by decide +kernel
theorem f199_5 : decode prog_10_method_54_code 5 = .ok (.aload_n 0, 1) := by decide +kernel
theorem f199_6 : decode prog_10_method_54_code 6 = .ok (.iconst 0, 1) := by decide +kernel
theorem f199_7 : decode prog_10_method_54_code 7 = .ok (.putfield 310, 3) := by decide +kernel
theorem f199_10 : decode prog_10_method_54_code 10 = .ok (.iconst 0, 1) := by decide +kernel
theorem f199_11 : decode prog_10_method_54_code 11 = .ok (.ireturn, 1) := by decide +kernel
theorem f199_12 : decode prog_10_method_54_code 12 = .ok (.aload_n 0, 1) := by decide +kernel
theorem f199_13 : decode prog_10_method_54_code 13 = .ok (.iload_n 1, 1) := by decide +kernel
theorem f199_14 : decode prog_10_method_54_code 14 = .ok (.invokevirtual 121, 3) := by decide +kernel
theorem f199_17 : decode prog_10_method_54_code 17 = .ok (.ifCond .ne 5, 3) := by decide +kernel
theorem f199_20 : decode prog_10_method_54_code 20 = .ok (.iconst (-1), 1) := by decide +kernel
theorem f199_21 : decode prog_10_method_54_code 21 = .ok (.ireturn, 1) := by decide +kernel
theorem f199_22 : decode prog_10_method_54_code 22 = .ok (.iload_n 2, 1) := by decide +kernel
theorem f199_23 : decode prog_10_method_54_code 23 = .ok (.iconst 0, 1) := by decide +kernel
theorem f199_24 : decode prog_10_method_54_code 24 = .ok (.sipush 9999, 3) := by decide +kernel
theorem f199_27 : decode prog_10_method_54_code 27 = .ok (.invokestatic 117, 3) := by decide +kernel
theorem f199_30 : decode prog_10_method_54_code 30 = .ok (.ifCond .ne 6, 3) := by decide +kernel
theorem f199_33 : decode prog_10_method_54_code 33 = .ok (.bipush (-2), 2) := by decide +kernel
theorem f199_35 : decode prog_10_method_54_code 35 = .ok (.ireturn, 1) := by decide +kernel
theorem f199_36 : decode prog_10_method_54_code 36 = .ok (.aload_n 0, 1) := by decide +kernel
theorem f199_37 : decode prog_10_method_54_code 37 = .ok (.getfield 310, 3) := by decide +kernel
theorem f199_40 : decode prog_10_method_54_code 40 = .ok (.bipush 8, 2) := by decide +kernel
theorem f199_42 : decode prog_10_method_54_code 42 = .ok (.if_icmp .ne 6, 3) := by decide +kernel
theorem f199_45 : decode prog_10_method_54_code 45 = .ok (.bipush (-4), 2) := by decide +kernel
theorem f199_47 : decode prog_10_method_54_code 47 = .ok (.ireturn, 1) := by decide +kernel
theorem f199_48 : decode prog_10_method_54_code 48 = .ok (.aload_n 0, 1) := by decide +kernel
theorem f199_49 : decode prog_10_method_54_code 49 = .ok (.getfield 73, 3) := by decide +kernel
theorem f199_52 : decode prog_10_method_54_code 52 = .ok (.aload_n 0, 1) := by decide +kernel
theorem f199_53 : decode prog_10_method_54_code 53 = .ok (.getfield 310, 3) := by decide +kernel
theorem f199_56 : decode prog_10_method_54_code 56 = .ok (.iload_n 1, 1) := by decide +kernel
theorem f199_57 : decode prog_10_method_54_code 57 = .ok (.iastore, 1) := by decide +kernel
theorem f199_58 : decode prog_10_method_54_code 58 = .ok (.aload_n 0, 1) := by decide +kernel
theorem f199_59 : decode prog_10_method_54_code 59 = .ok (.getfield 76, 3) := by decide +kernel
theorem f199_62 : decode prog_10_method_54_code 62 = .ok (.aload_n 0, 1) := by decide +kernel
theorem f199_63 : decode prog_10_method_54_code 63 = .ok (.dup, 1) := by decide +kernel
theorem f199_64 : decode prog_10_method_54_code 64 = .ok (.getfield 310, 3) := by decide +kernel
theorem f199_67 : decode prog_10_method_54_code 67 = .ok (.dup_x1, 1) := by decide +kernel
theorem f199_68 : decode prog_10_method_54_code 68 = .ok (.iconst 1, 1) := by decide +kernel
theorem f199_69 : decode prog_10_method_54_code 69 = .ok (.iadd, 1) := by decide +kernel
theorem f199_70 : decode prog_10_method_54_code 70 = .ok (.putfield 310, 3) := by decide +kernel
theorem f199_73 : decode prog_10_method_54_code 73 = .ok (.iload_n 2, 1) := by decide +kernel
theorem f199_74 : decode prog_10_method_54_code 74 = .ok (.iastore, 1) := by decide +kernel
theorem f199_75 : decode prog_10_method_54_code 75 = .ok (.aload_n 0, 1) := by decide +kernel
theorem f199_76 : decode prog_10_method_54_code 76 = .ok (.getfield 310, 3) := by decide +kernel
theorem f199_79 : decode prog_10_method_54_code 79 = .ok (.ireturn, 1) := by decide +kernel
theorem f200_0 : decode prog_10_method_55_code 0 = .ok (.iconst 0, 1) := by decide +kernel
theorem f200_1 : decode prog_10_method_55_code 1 = .ok (.istore_n 1, 1) := by decide +kernel
theorem f200_2 : decode prog_10_method_55_code 2 = .ok (.iload_n 1, 1) := by decide +kernel
theorem f200_3 : decode prog_10_method_55_code 3 = .ok (.aload_n 0, 1) := by decide +kernel
theorem f200_4 : decode prog_10_method_55_code 4 = .ok (.getfield 310, 3) := by decide +kernel
theorem f200_7 : decode prog_10_method_55_code 7 = .ok (.if_icmp .ge 31, 3) := by decide +kernel
theorem f200_10 : decode prog_10_method_55_code 10 = .ok (.aload_n 0, 1) := by decide +kernel
theorem f200_11 : decode prog_10_method_55_code 11 = .ok (.getfield 21, 3) := by decide +kernel
theorem f200_14 : decode prog_10_method_55_code 14 = .ok (.aload_n 0, 1) := by decide +kernel
theorem f200_15 : decode prog_10_method_55_code 15 = .ok (.getfield 73, 3) := by decide +kernel
theorem f200_18 : decode prog_10_method_55_code 18 = .ok (.iload_n 1, 1) := by decide +kernel
theorem f200_19 : decode prog_10_method_55_code 19 = .ok (.iaload, 1) := by decide +kernel
theorem f200_20 : decode prog_10_method_55_code 20 = .ok (.iaload, 1) := by decide +kernel
theorem f200_21 : decode prog_10_method_55_code 21 = .ok (.aload_n 0, 1) := by decide +kernel
theorem f200_22 : decode prog_10_method_55_code 22 = .ok (.getfield 76, 3) := by decide +kernel
theorem f200_25 : decode prog_10_method_55_code 25 = .ok (.iload_n 1, 1) := by decide +kernel
theorem f200_26 : decode prog_10_method_55_code 26 = .ok (.iaload, 1) := by decide +kernel
theorem f200_27 : decode prog_10_method_55_code 27 = .ok (.if_icmp .eq 5, 3) := by decide +kernel
theorem f200_30 : decode prog_10_method_55_code 30 = .ok (.iload_n 1, 1) := by decide +kernel
theorem f200_31 : decode prog_10_method_55_code 31 = .ok (.ireturn, 1) := by decide +kernel
theorem f200_32 : decode prog_10_method_55_code 32 = .ok (.iinc 1 1, 3) := by decide +kernel
theorem f200_35 : decode prog_10_method_55_code 35 = .ok (.goto (-33), 3) := by decide +kernel
theorem f200_38 : decode prog_10_method_55_code 38 = .ok (.bipush (-5), 2) := by decide +kernel
theorem f200_40 : decode prog_10_method_55_code 40 = .ok (.ireturn, 1) := by decide +kernel
theorem f201_0 : decode prog_10_method_56_code 0 = .ok (.iload_n 1, 1) := by decide +kernel
theorem f201_1 : decode prog_10_method_56_code 1 = .ok (.iconst 0, 1) := by decide +kernel
theorem f201_2 : decode prog_10_method_56_code 2 = .ok (.iconst 5, 1) := by decide +kernel
theorem f201_3 : decode prog_10_method_56_code 3 = .ok (.invokestatic 117, 3) := by decide +kernel
theorem f201_6 : decode prog_10_method_56_code 6 = .ok (.ifCond .ne 5, 3) := by decide +kernel
theorem f201_9 : decode prog_10_method_56_code 9 = .ok (.iconst (-1), 1) := by decide +kernel
theorem f201_10 : decode prog_10_method_56_code 10 = .ok (.ireturn, 1) := by decide +kernel
theorem f201_11 : decode prog_10_method_56_code 11 = .ok (.aload_n 0, 1) := by decide +kernel
theorem f201_12 : decode prog_10_method_56_code 12 = .ok (.getfield 100, 3) := by decide +kernel
theorem f201_15 : decode prog_10_method_56_code 15 = .ok (.iload_n 1, 1) := by decide +kernel
theorem f201_16 : decode prog_10_method_56_code 16 = .ok (.iaload, 1) := by decide +kernel
theorem f201_17 : decode prog_10_method_56_code 17 = .ok (.iconst (-1), 1) := by decide +kernel
theorem f201_18 : decode prog_10_method_56_code 18 = .ok (.if_icmp .eq 15, 3) := by decide +kernel
theorem f201_21 : decode prog_10_method_56_code 21 = .ok (.aload_n 0, 1) := by decide +kernel
theorem f201_22 : decode prog_10_method_56_code 22 = .ok (.getfield 100, 3) := by decide +kernel
theorem f201_25 : decode prog_10_method_56_code 25 = .ok (.iload_n 1, 1) := by decide +kernel
theorem f201_26 : decode prog_10_method_56_code 26 = .ok (.iaload, 1) := by decide +kernel
theorem f201_27 : decode prog_10_method_56_code 27 = .ok (.ifCond .eq 6, 3) := by decide +kernel
theorem f201_30 : decode prog_10_method_56_code 30 = .ok (.bipush (-12), 2) := by decide +kernel
theorem f201_32 : decode prog_10_method_56_code 32 = .ok (.ireturn, 1) := by decide +kernel
theorem f201_33 : decode prog_10_method_56_code 33 = .ok (.iconst 0, 1) := by decide +kernel
theorem f201_34 : decode prog_10_method_56_code 34 = .ok (.istore_n 3, 1) := by decide +kernel
theorem f201_35 : decode prog_10_method_56_code 35 = .ok (.iload_n 3, 1) := by decide +kernel
theorem f201_36 : decode prog_10_method_56_code 36 = .ok (.aload_n 0, 1) := by decide +kernel
theorem f201_37 : decode prog_10_method_56_code 37 = .ok (.getfield 154, 3) := by decide +kernel
theorem f201_40 : decode prog_10_method_56_code 40 = .ok (.if_icmp .ge 70, 3) := by decide +kernel
theorem f201_43 : decode prog_10_method_56_code 43 = .ok (.aload_n 0, 1) := by decide +kernel
theorem f201_44 : decode prog_10_method_56_code 44 = .ok (.getfield 100, 3) := by decide +kernel
theorem f201_47 : decode prog_10_method_56_code 47 = .ok (.iload_n 1, 1) := by decide +kernel
theorem f201_48 : decode prog_10_method_56_code 48 = .ok (.iaload, 1) := by decide +kernel
theorem f201_49 : decode prog_10_method_56_code 49 = .ok (.iconst (-1), 1) := by decide +kernel
theorem f201_50 : decode prog_10_method_56_code 50 = .ok (.if_icmp .eq 23, 3) := by decide +kernel
theorem f201_53 : decode prog_10_method_56_code 53 = .ok (.iload_n 2, 1) := by decide +kernel
theorem f201_54 : decode prog_10_method_56_code 54 = .ok (.ifCond .lt 19, 3) := by decide +kernel
theorem f201_57 : decode prog_10_method_56_code 57 = .ok (.iload_n 2, 1) := by decide +kernel
theorem f201_58 : decode prog_10_method_56_code 58 = .ok (.i2l, 1) := by decide +kernel
theorem f201_59 : decode prog_10_method_56_code 59 = .ok (.iload_n 3, 1) := by decide +kernel
theorem f201_60 : decode prog_10_method_56_code 60 = .ok (.i2l, 1) := by decide +kernel
theorem f201_61 : decode prog_10_method_56_code 61 = .ok (.ladd, 1) := by decide +kernel
theorem f201_62 : decode prog_10_method_56_code 62 = .ok (.aload_n 0, 1) := by decide +kernel
theorem f201_63 : decode prog_10_method_56_code 63 = .ok (.getfield 103, 3) := by decide +kernel
theorem f201_66 : decode prog_10_method_56_code 66 = .ok (.iload_n 1, 1) := by decide +kernel
theorem f201_67 : decode prog_10_method_56_code 67 = .ok (.iaload, 1) := by decide +kernel
theorem f201_68 : decode prog_10_method_56_code 68 = .ok (.i2l, 1) := by decide +kernel
theorem f201_69 : decode prog_10_method_56_code 69 = .ok (.lcmp, 1) := by decide +kernel
theorem f201_70 : decode prog_10_method_56_code 70 = .ok (.ifCond .lt 8, 3) := by decide +kernel
theorem f201_73 : decode prog_10_method_56_code 73 = .ok (.bipush 100, 2) := by decide +kernel
theorem f201_75 : decode prog_10_method_56_code 75 = .ok (.iload_n 3, 1) := by decide +kernel
theorem f201_76 : decode prog_10_method_56_code 76 = .ok (.iadd, 1) := by decide +kernel
theorem f201_77 : decode prog_10_method_56_code 77 = .ok (.ireturn, 1) := by decide +kernel
theorem f201_78 : decode prog_10_method_56_code 78 = .ok (.aload_n 0, 1) := by decide +kernel
theorem f201_79 : decode prog_10_method_56_code 79 = .ok (.getfield 106, 3) := by decide +kernel
theorem f201_82 : decode prog_10_method_56_code 82 = .ok (.bipush 60, 2) := by decide +kernel
theorem f201_84 : decode prog_10_method_56_code 84 = .ok (.iload_n 1, 1) := by decide +kernel
theorem f201_85 : decode prog_10_method_56_code 85 = .ok (.imul, 1) := by decide +kernel
theorem f201_86 : decode prog_10_method_56_code 86 = .ok (.iload_n 2, 1) := by decide +kernel
theorem f201_87 : decode prog_10_method_56_code 87 = .ok (.iadd, 1) := by decide +kernel
theorem f201_88 : decode prog_10_method_56_code 88 = .ok (.iload_n 3, 1) := by decide +kernel
theorem f201_89 : decode prog_10_method_56_code 89 = .ok (.iadd, 1) := by decide +kernel
theorem f201_90 : decode prog_10_method_56_code 90 = .ok (.laload, 1) := by decide +kernel
theorem f201_91 : decode prog_10_method_56_code 91 = .ok (.aload_n 0, 1) := by decide +kernel
theorem f201_92 : decode prog_10_method_56_code 92 = .ok (.getfield 27, 3) := by decide +kernel
theorem f201_95 : decode prog_10_method_56_code 95 = .ok (.iload_n 3, 1) := by decide +kernel
theorem f201_96 : decode prog_10_method_56_code 96 = .ok (.iaload, 1) := by decide +kernel
theorem f201_97 : decode prog_10_method_56_code 97 = .ok (.i2l, 1) := by decide +kernel
theorem f201_98 : decode prog_10_method_56_code 98 = .ok (.lcmp, 1) := by decide +kernel
theorem f201_99 : decode prog_10_method_56_code 99 = .ok (.ifCond .eq 5, 3) := by decide +kernel
theorem f201_102 : decode prog_10_method_56_code 102 = .ok (.iload_n 3, 1) := by decide +kernel
theorem f201_103 : decode prog_10_method_56_code 103 = .ok (.ireturn, 1) := by decide +kernel
theorem f201_104 : decode prog_10_method_56_code 104 = .ok (.iinc 3 1, 3) := by decide +kernel
theorem f201_107 : decode prog_10_method_56_code 107 = .ok (.goto (-72), 3) := by decide +kernel
theorem f201_110 : decode prog_10_method_56_code 110 = .ok (.bipush (-5), 2) := by decide +kernel
theorem f201_112 : decode prog_10_method_56_code 112 = .ok (.ireturn, 1) := by decide +kernel
theorem f202_0 : decode prog_10_method_59_code 0 = .ok (.aload_n 0, 1) := by decide +kernel
theorem f202_1 : decode prog_10_method_59_code 1 = .ok (.iconst 1, 1) := by decide +kernel
theorem f202_2 : decode prog_10_method_59_code 2 = .ok (.putfield 313, 3) := by decide +kernel
theorem f202_5 : decode prog_10_method_59_code 5 = .ok (.aload_n 0, 1) := by decide +kernel
theorem f202_6 : decode prog_10_method_59_code 6 = .ok (.aload_n 0, 1) := by decide +kernel
theorem f202_7 : decode prog_10_method_59_code 7 = .ok (.getfield 82, 3) := by decide +kernel
theorem f202_10 : decode prog_10_method_59_code 10 = .ok (.invokevirtual 269, 3) := by decide +kernel
theorem f202_13 : decode prog_10_method_59_code 13 = .ok (.aload_n 0, 1) := by decide +kernel
theorem f202_14 : decode prog_10_method_59_code 14 = .ok (.getfield 114, 3) := by decide +kernel
theorem f202_17 : decode prog_10_method_59_code 17 = .ok (.ireturn, 1) := by decide +kernel
theorem f203_0 : decode prog_10_method_60_code 0 = .ok (.aload_n 0, 1) := by decide +kernel
theorem f203_1 : decode prog_10_method_60_code 1 = .ok (.getfield 313, 3) := by decide +kernel
theorem f203_4 : decode prog_10_method_60_code 4 = .ok (.ifCond .ne 6, 3) := by decide +kernel
theorem f203_7 : decode prog_10_method_60_code 7 = .ok (.bipush (-3), 2) := by decide +kernel
theorem f203_9 : decode prog_10_method_60_code 9 = .ok (.ireturn, 1) := by decide +kernel
theorem f203_10 : decode prog_10_method_60_code 10 = .ok (.aload_n 0, 1) := by decide +kernel
theorem f203_11 : decode prog_10_method_60_code 11 = .ok (.aload_n 0, 1) := by decide +kernel
theorem f203_12 : decode prog_10_method_60_code 12 = .ok (.getfield 82, 3) := by decide +kernel
theorem f203_15 : decode prog_10_method_60_code 15 = .ok (.invokevirtual 273, 3) := by decide +kernel
theorem f203_18 : decode prog_10_method_60_code 18 = .ok (.aload_n 0, 1) := by decide +kernel
theorem f203_19 : decode prog_10_method_60_code 19 = .ok (.getfield 114, 3) := by decide +kernel
theorem f203_22 : decode prog_10_method_60_code 22 = .ok (.ireturn, 1) := by decide +kernel
theorem f204_0 : decode prog_10_method_66_code 0 = .ok (.aload_n 0, 1) := by decide +kernel
theorem f204_1 : decode prog_10_method_66_code 1 = .ok (.iconst 0, 1) := by decide +kernel
theorem f204_2 : decode prog_10_method_66_code 2 = .ok (.putfield 317, 3) := by decide +kernel
theorem f204_5 : decode prog_10_method_66_code 5 = .ok (.aload_n 0, 1) := by decide +kernel
theorem f204_6 : decode prog_10_method_66_code 6 = .ok (.iload_n 1, 1) := by decide +kernel
theorem f204_7 : decode prog_10_method_66_code 7 = .ok (.invokevirtual 121, 3) := by decide +kernel
theorem f204_10 : decode prog_10_method_66_code 10 = .ok (.ifCond .eq 12, 3) := by decide +kernel
theorem f204_13 : decode prog_10_method_66_code 13 = .ok (.iload_n 2, 1) := by decide +kernel
theorem f204_14 : decode prog_10_method_66_code 14 = .ok (.iconst 0, 1) := by decide +kernel
theorem f204_15 : decode prog_10_method_66_code 15 = .ok (.iconst 2, 1) := by decide +kernel
theorem f204_16 : decode prog_10_method_66_code 16 = .ok (.invokestatic 117, 3) := by decide +kernel
theorem f204_19 : decode prog_10_method_66_code 19 = .ok (.ifCond .ne 5, 3) := by decide +kernel
theorem f204_22 : decode prog_10_method_66_code 22 = .ok (.iconst 0, 1) := by decide +kernel
theorem f204_23 : decode prog_10_method_66_code 23 = .ok (.ireturn, 1) := by decide +kernel
theorem f204_24 : decode prog_10_method_66_code 24 = .ok (.aload_n 0, 1) := by decide +kernel
theorem f204_25 : decode prog_10_method_66_code 25 = .ok (.getfield 9, 3) := by decide +kernel
theorem f204_28 : decode prog_10_method_66_code 28 = .ok (.iload_n 1, 1) := by decide +kernel
theorem f204_29 : decode prog_10_method_66_code 29 = .ok (.iaload, 1) := by decide +kernel
theorem f204_30 : decode prog_10_method_66_code 30 = .ok (.istore 4, 2) := by decide +kernel
theorem f204_32 : decode prog_10_method_66_code 32 = .ok (.iload_n 2, 1) := by decide +kernel
theorem f204_33 : decode prog_10_method_66_code 33 = .ok (.ifCond .ne 14, 3) := by decide +kernel
theorem f204_36 : decode prog_10_method_66_code 36 = .ok (.aload_n 0, 1) := by decide +kernel
theorem f204_37 : decode prog_10_method_66_code 37 = .ok (.iload_n 1, 1) := by decide +kernel
theorem f204_38 : decode prog_10_method_66_code 38 = .ok (.iload 4, 2) := by decide +kernel
theorem f204_40 : decode prog_10_method_66_code 40 = .ok (.iload_n 3, 1) := by decide +kernel
theorem f204_41 : decode prog_10_method_66_code 41 = .ok (.invokevirtual 324, 3) := by decide +kernel
theorem f204_44 : decode prog_10_method_66_code 44 = .ok (.goto 27, 3) := by decide +kernel
theorem f204_47 : decode prog_10_method_66_code 47 = .ok (.iload_n 2, 1) := by decide +kernel
theorem f204_48 : decode prog_10_method_66_code 48 = .ok (.iconst 1, 1) := by decide +kernel
theorem f204_49 : decode prog_10_method_66_code 49 = .ok (.if_icmp .ne 14, 3) := by decide +kernel
theorem f204_52 : decode prog_10_method_66_code 52 = .ok (.aload_n 0, 1) := by decide +kernel
theorem f204_53 : decode prog_10_method_66_code 53 = .ok (.iload_n 1, 1) := by decide +kernel
theorem f204_54 : decode prog_10_method_66_code 54 = .ok (.iload 4, 2) := by decide +kernel
theorem f204_56 : decode prog_10_method_66_code 56 = .ok (.iload_n 3, 1) := by decide +kernel
theorem f204_57 : decode prog_10_method_66_code 57 = .ok (.invokevirtual 330, 3) := by decide +kernel
theorem f204_60 : decode prog_10_method_66_code 60 = .ok (.goto 11, 3) := by decide +kernel
theorem f204_63 : decode prog_10_method_66_code 63 = .ok (.aload_n 0, 1) := by decide +kernel
theorem f204_64 : decode prog_10_method_66_code 64 = .ok (.iload_n 1, 1) := by decide +kernel
theorem f204_65 : decode prog_10_method_66_code 65 = .ok (.iload 4, 2) := by decide +kernel
theorem f204_67 : decode prog_10_method_66_code 67 = .ok (.iload_n 3, 1) := by decide +kernel
theorem f204_68 : decode prog_10_method_66_code 68 = .ok (.invokevirtual 333, 3) := by decide +kernel
theorem f204_71 : decode prog_10_method_66_code 71 = .ok (.ireturn, 1) := by decide +kernel
theorem f205_0 : decode prog_10_method_63_code 0 = .ok (.iload_n 2, 1) := by decide +kernel
theorem f205_1 : decode prog_10_method_63_code 1 = .ok (.tableswitch 105 0 6 #[95, 105, 43, 105, 59, 105, 74], 43) := by decide +kernel
theorem f205_44 : decode prog_10_method_63_code 44 = .ok (.aload_n 0, 1) := by decide +kernel
theorem f205_45 : decode prog_10_method_63_code 45 = .ok (.bipush 30, 2) := by decide +kernel
theorem f205_47 : decode prog_10_method_63_code 47 = .ok (.invokevirtual 320, 3) := by decide +kernel
theorem f205_50 : decode prog_10_method_63_code 50 = .ok (.aload_n 0, 1) := by decide +kernel
theorem f205_51 : decode prog_10_method_63_code 51 = .ok (.iload_n 1, 1) := by decide +kernel
theorem f205_52 : decode prog_10_method_63_code 52 = .ok (.iconst 0, 1) := by decide +kernel
theorem f205_53 : decode prog_10_method_63_code 53 = .ok (.iload_n 3, 1) := by decide +kernel
theorem f205_54 : decode prog_10_method_63_code 54 = .ok (.iconst 3, 1) := by decide +kernel
theorem f205_55 : decode prog_10_method_63_code 55 = .ok (.imul, 1) := by decide +kernel
theorem f205_56 : decode prog_10_method_63_code 56 = .ok (.invokevirtual 324, 3) := by decide +kernel
theorem f205_59 : decode prog_10_method_63_code 59 = .ok (.ireturn, 1) := by decide +kernel
theorem f205_60 : decode prog_10_method_63_code 60 = .ok (.aload_n 0, 1) := by decide +kernel
theorem f205_61 : decode prog_10_method_63_code 61 = .ok (.bipush 50, 2) := by decide +kernel
theorem f205_63 : decode prog_10_method_63_code 63 = .ok (.invokevirtual 320, 3) := by decide +kernel
theorem f205_66 : decode prog_10_method_63_code 66 = .ok (.aload_n 0, 1) := by decide +kernel
theorem f205_67 : decode prog_10_method_63_code 67 = .ok (.iload_n 1, 1) := by decide +kernel
theorem f205_68 : decode prog_10_method_63_code 68 = .ok (.iconst 1, 1) := by decide +kernel
theorem f205_69 : decode prog_10_method_63_code 69 = .ok (.iload_n 3, 1) := by decide +kernel
theorem f205_70 : decode prog_10_method_63_code 70 = .ok (.invokevirtual 324, 3) := by decide +kernel
theorem f205_73 : decode prog_10_method_63_code 73 = .ok (.ineg, 1) := by decide +kernel
theorem f205_74 : decode prog_10_method_63_code 74 = .ok (.ireturn, 1) := by decide +kernel
theorem f205_75 : decode prog_10_method_63_code 75 = .ok (.aload_n 0, 1) := by decide +kernel
theorem f205_76 : decode prog_10_method_63_code 76 = .ok (.bipush 71, 2) := by decide +kernel
theorem f205_78 : decode prog_10_method_63_code 78 = .ok (.invokevirtual 320, 3) := by decide +kernel
theorem f205_81 : decode prog_10_method_63_code 81 = .ok (.aload_n 0, 1) := by decide +kernel
theorem f205_82 : decode prog_10_method_63_code 82 = .ok (.iload_n 1, 1) := by decide +kernel
theorem f205_83 : decode prog_10_method_63_code 83 = .ok (.iconst 3, 1) := by decide +kernel
theorem f205_84 : decode prog_10_method_63_code 84 = .ok (.iload_n 3, 1) := by decide +kernel
theorem f205_85 : decode prog_10_method_63_code 85 = .ok (.invokevirtual 324, 3) := by decide +kernel
theorem f205_88 : decode prog_10_method_63_code 88 = .ok (.aload_n 0, 1) := by decide +kernel
theorem f205_89 : decode prog_10_method_63_code 89 = .ok (.getfield 15, 3) := by decide +kernel
theorem f205_92 : decode prog_10_method_63_code 92 = .ok (.iload_n 1, 1) := by decide +kernel
theorem f205_93 : decode prog_10_method_63_code 93 = .ok (.iaload, 1) := by decide +kernel
theorem f205_94 : decode prog_10_method_63_code 94 = .ok (.ixor, 1) := by decide +kernel
theorem f205_95 : decode prog_10_method_63_code 95 = .ok (.ireturn, 1) := by decide +kernel
theorem f205_96 : decode prog_10_method_63_code 96 = .ok (.aload_n 0, 1) := by decide +kernel
theorem f205_97 : decode prog_10_method_63_code 97 = .ok (.bipush 10, 2) := by decide +kernel
theorem f205_99 : decode prog_10_method_63_code 99 = .ok (.invokevirtual 320, 3) := by decide +kernel
theorem f205_102 : decode prog_10_method_63_code 102 = .ok (.iload_n 3, 1) := by decide +kernel
theorem f205_103 : decode prog_10_method_63_code 103 = .ok (.iload_n 1, 1) := by decide +kernel
theorem f205_104 : decode prog_10_method_63_code 104 = .ok (.iadd, 1) := by decide +kernel
theorem f205_105 : decode prog_10_method_63_code 105 = .ok (.ireturn, 1) := by decide +kernel
theorem f205_106 : decode prog_10_method_63_code 106 = .ok (.aload_n 0, 1) := by decide +kernel
theorem f205_107 : decode prog_10_method_63_code 107 = .ok (.iload_n 1, 1) := by decide +kernel
theorem f205_108 : decode prog_10_method_63_code 108 = .ok (.iload_n 2, 1) := by decide +kernel
theorem f205_109 : decode prog_10_method_63_code 109 = .ok (.invokestatic 327, 3) := by decide +kernel
theorem f205_112 : decode prog_10_method_63_code 112 = .ok (.iload_n 3, 1) := by decide +kernel
theorem f205_113 : decode prog_10_method_63_code 113 = .ok (.invokevirtual 324, 3) := by decide +kernel
theorem f205_116 : decode prog_10_method_63_code 116 = .ok (.ireturn, 1) := by decide +kernel
theorem f208_0 : decode prog_10_method_64_code 0 = .ok (.iload_n 2, 1) := by decide +kernel
theorem f208_1 : decode prog_10_method_64_code 1 = .ok (.tableswitch 128 0 6 #[102, 43, 128, 128, 60, 128, 76], 43) := by decide +kernel
theorem f208_44 : decode prog_10_method_64_code 44 = .ok (.aload_n 0, 1) := by decide +kernel
theorem f208_45 : decode prog_10_method_64_code 45 = .ok (.bipush 20, 2) := by decide +kernel
theorem f208_47 : decode prog_10_method_64_code 47 = .ok (.invokevirtual 320, 3) := by decide +kernel
theorem f208_50 : decode prog_10_method_64_code 50 = .ok (.aload_n 0, 1) := by decide +kernel
theorem f208_51 : decode prog_10_method_64_code 51 = .ok (.iload_n 1, 1) := by decide +kernel
theorem f208_52 : decode prog_10_method_64_code 52 = .ok (.iconst 0, 1) := by decide +kernel
theorem f208_53 : decode prog_10_method_64_code 53 = .ok (.iload_n 3, 1) := by decide +kernel
theorem f208_54 : decode prog_10_method_64_code 54 = .ok (.invokevirtual 330, 3) := by decide +kernel
theorem f208_57 : decode prog_10_method_64_code 57 = .ok (.bipush 6, 2) := by decide +kernel
theorem f208_59 : decode prog_10_method_64_code 59 = .ok (.ixor, 1) := by decide +kernel
theorem f208_60 : decode prog_10_method_64_code 60 = .ok (.ireturn, 1) := by decide +kernel
theorem f208_61 : decode prog_10_method_64_code 61 = .ok (.aload_n 0, 1) := by decide +kernel
theorem f208_62 : decode prog_10_method_64_code 62 = .ok (.bipush 51, 2) := by decide +kernel
theorem f208_64 : decode prog_10_method_64_code 64 = .ok (.invokevirtual 320, 3) := by decide +kernel
theorem f208_67 : decode prog_10_method_64_code 67 = .ok (.aload_n 0, 1) := by decide +kernel
theorem f208_68 : decode prog_10_method_64_code 68 = .ok (.iload_n 1, 1) := by decide +kernel
theorem f208_69 : decode prog_10_method_64_code 69 = .ok (.iconst 1, 1) := by decide +kernel
theorem f208_70 : decode prog_10_method_64_code 70 = .ok (.iload_n 3, 1) := by decide +kernel
theorem f208_71 : decode prog_10_method_64_code 71 = .ok (.iconst 1, 1) := by decide +kernel
theorem f208_72 : decode prog_10_method_64_code 72 = .ok (.iadd, 1) := by decide +kernel
theorem f208_73 : decode prog_10_method_64_code 73 = .ok (.invokevirtual 330, 3) := by decide +kernel
theorem f208_76 : decode prog_10_method_64_code 76 = .ok (.ireturn, 1) := by decide +kernel
theorem f208_77 : decode prog_10_method_64_code 77 = .ok (.aload_n 0, 1) := by decide +kernel
theorem f208_78 : decode prog_10_method_64_code 78 = .ok (.bipush 70, 2) := by decide +kernel
theorem f208_80 : decode prog_10_method_64_code 80 = .ok (.invokevirtual 320, 3) := by decide +kernel
theorem f208_83 : decode prog_10_method_64_code 83 = .ok (.aload_n 0, 1) := by decide +kernel
theorem f208_84 : decode prog_10_method_64_code 84 = .ok (.iload_n 1, 1) := by decide +kernel
theorem f208_85 : decode prog_10_method_64_code 85 = .ok (.iconst 3, 1) := by decide +kernel
theorem f208_86 : decode prog_10_method_64_code 86 = .ok (.iload_n 3, 1) := by decide +kernel
theorem f208_87 : decode prog_10_method_64_code 87 = .ok (.invokevirtual 330, 3) := by decide +kernel
theorem f208_90 : decode prog_10_method_64_code 90 = .ok (.istore 4, 2) := by decide +kernel
theorem f208_92 : decode prog_10_method_64_code 92 = .ok (.iload 4, 2) := by decide +kernel
theorem f208_94 : decode prog_10_method_64_code 94 = .ok (.aload_n 0, 1) := by decide +kernel
theorem f208_95 : decode prog_10_method_64_code 95 = .ok (.iload_n 1, 1) := by decide +kernel
theorem f208_96 : decode prog_10_method_64_code 96 = .ok (.iconst 3, 1) := by decide +kernel
theorem f208_97 : decode prog_10_method_64_code 97 = .ok (.iconst 2, 1) := by decide +kernel
theorem f208_98 : decode prog_10_method_64_code 98 = .ok (.invokevirtual 324, 3) := by decide +kernel
theorem f208_101 : decode prog_10_method_64_code 101 = .ok (.iadd, 1) := by decide +kernel
theorem f208_102 : decode prog_10_method_64_code 102 = .ok (.ireturn, 1) := by decide +kernel
theorem f208_103 : decode prog_10_method_64_code 103 = .ok (.aload_n 0, 1) := by decide +kernel
theorem f208_104 : decode prog_10_method_64_code 104 = .ok (.bipush 11, 2) := by decide +kernel
theorem f208_106 : decode prog_10_method_64_code 106 = .ok (.invokevirtual 320, 3) := by decide +kernel
theorem f208_109 : decode prog_10_method_64_code 109 = .ok (.aload_n 0, 1) := by decide +kernel
theorem f208_110 : decode prog_10_method_64_code 110 = .ok (.iload_n 1, 1) := by decide +kernel
theorem f208_111 : decode prog_10_method_64_code 111 = .ok (.aload_n 0, 1) := by decide +kernel
theorem f208_112 : decode prog_10_method_64_code 112 = .ok (.getfield 9, 3) := by decide +kernel
theorem f208_115 : decode prog_10_method_64_code 115 = .ok (.iload_n 1, 1) := by decide +kernel
theorem f208_116 : decode prog_10_method_64_code 116 = .ok (.iaload, 1) := by decide +kernel
theorem f208_117 : decode prog_10_method_64_code 117 = .ok (.iload_n 3, 1) := by decide +kernel
theorem f208_118 : decode prog_10_method_64_code 118 = .ok (.invokevirtual 324, 3) := by decide +kernel
theorem f208_121 : decode prog_10_method_64_code 121 = .ok (.aload_n 0, 1) := by decide +kernel
theorem f208_122 : decode prog_10_method_64_code 122 = .ok (.getfield 15, 3) := by decide +kernel
theorem f208_125 : decode prog_10_method_64_code 125 = .ok (.iload_n 1, 1) := by decide +kernel
theorem f208_126 : decode prog_10_method_64_code 126 = .ok (.iaload, 1) := by decide +kernel
theorem f208_127 : decode prog_10_method_64_code 127 = .ok (.isub, 1) := by decide +kernel
theorem f208_128 : decode prog_10_method_64_code 128 = .ok (.ireturn, 1) := by decide +kernel
theorem f208_129 : decode prog_10_method_64_code 129 = .ok (.aload_n 0, 1) := by decide +kernel
theorem f208_130 : decode prog_10_method_64_code 130 = .ok (.iload_n 1, 1) := by decide +kernel
theorem f208_131 : decode prog_10_method_64_code 131 = .ok (.iload_n 2, 1) := by decide +kernel
theorem f208_132 : decode prog_10_method_64_code 132 = .ok (.invokestatic 327, 3) := by decide +kernel
theorem f208_135 : decode prog_10_method_64_code 135 = .ok (.iload_n 3, 1) := by decide +kernel
theorem f208_136 : decode prog_10_method_64_code 136 = .ok (.invokevirtual 330, 3) := by decide +kernel
theorem f208_139 : decode prog_10_method_64_code 139 = .ok (.ireturn, 1) := by decide +kernel
theorem f209_0 : decode prog_10_method_65_code 0 = .ok (.iload_n 2, 1) := by decide +kernel
theorem f209_1 : decode prog_10_method_65_code 1 = .ok (.lookupswitch 103 #[(0, 82), (3, 35), (5, 66)], 35) := by decide +kernel
theorem f209_36 : decode prog_10_method_65_code 36 = .ok (.aload_n 0, 1) := by decide +kernel
theorem f209_37 : decode prog_10_method_65_code 37 = .ok (.bipush 40, 2) := by decide +kernel
theorem f209_39 : decode prog_10_method_65_code 39 = .ok (.invokevirtual 320, 3) := by decide +kernel
theorem f209_42 : decode prog_10_method_65_code 42 = .ok (.aload_n 0, 1) := by decide +kernel
theorem f209_43 : decode prog_10_method_65_code 43 = .ok (.iload_n 1, 1) := by decide +kernel
theorem f209_44 : decode prog_10_method_65_code 44 = .ok (.iconst 0, 1) := by decide +kernel
theorem f209_45 : decode prog_10_method_65_code 45 = .ok (.iload_n 3, 1) := by decide +kernel
theorem f209_46 : decode prog_10_method_65_code 46 = .ok (.invokevirtual 333, 3) := by decide +kernel
theorem f209_49 : decode prog_10_method_65_code 49 = .ok (.istore 4, 2) := by decide +kernel
theorem f209_51 : decode prog_10_method_65_code 51 = .ok (.iload 4, 2) := by decide +kernel
theorem f209_53 : decode prog_10_method_65_code 53 = .ok (.aload_n 0, 1) := by decide +kernel
theorem f209_54 : decode prog_10_method_65_code 54 = .ok (.iload_n 1, 1) := by decide +kernel
theorem f209_55 : decode prog_10_method_65_code 55 = .ok (.aload_n 0, 1) := by decide +kernel
theorem f209_56 : decode prog_10_method_65_code 56 = .ok (.getfield 9, 3) := by decide +kernel
theorem f209_59 : decode prog_10_method_65_code 59 = .ok (.iload_n 1, 1) := by decide +kernel
theorem f209_60 : decode prog_10_method_65_code 60 = .ok (.iaload, 1) := by decide +kernel
theorem f209_61 : decode prog_10_method_65_code 61 = .ok (.iconst 1, 1) := by decide +kernel
theorem f209_62 : decode prog_10_method_65_code 62 = .ok (.invokevirtual 330, 3) := by decide +kernel
theorem f209_65 : decode prog_10_method_65_code 65 = .ok (.iadd, 1) := by decide +kernel
theorem f209_66 : decode prog_10_method_65_code 66 = .ok (.ireturn, 1) := by decide +kernel
theorem f209_67 : decode prog_10_method_65_code 67 = .ok (.aload_n 0, 1) := by decide +kernel
theorem f209_68 : decode prog_10_method_65_code 68 = .ok (.bipush 60, 2) := by decide +kernel
theorem f209_70 : decode prog_10_method_65_code 70 = .ok (.invokevirtual 320, 3) := by decide +kernel
theorem f209_73 : decode prog_10_method_65_code 73 = .ok (.aload_n 0, 1) := by decide +kernel
theorem f209_74 : decode prog_10_method_65_code 74 = .ok (.iload_n 1, 1) := by decide +kernel
theorem f209_75 : decode prog_10_method_65_code 75 = .ok (.iconst 2, 1) := by decide +kernel
theorem f209_76 : decode prog_10_method_65_code 76 = .ok (.iload_n 3, 1) := by decide +kernel
theorem f209_77 : decode prog_10_method_65_code 77 = .ok (.iload_n 1, 1) := by decide +kernel
theorem f209_78 : decode prog_10_method_65_code 78 = .ok (.isub, 1) := by decide +kernel
theorem f209_79 : decode prog_10_method_65_code 79 = .ok (.invokevirtual 333, 3) := by decide +kernel
theorem f209_82 : decode prog_10_method_65_code 82 = .ok (.ireturn, 1) := by decide +kernel
theorem f209_83 : decode prog_10_method_65_code 83 = .ok (.aload_n 0, 1) := by decide +kernel
theorem f209_84 : decode prog_10_method_65_code 84 = .ok (.bipush 12, 2) := by decide +kernel
theorem f209_86 : decode prog_10_method_65_code 86 = .ok (.invokevirtual 320, 3) := by decide +kernel
theorem f209_89 : decode prog_10_method_65_code 89 = .ok (.aload_n 0, 1) := by decide +kernel
theorem f209_90 : decode prog_10_method_65_code 90 = .ok (.iload_n 1, 1) := by decide +kernel
theorem f209_91 : decode prog_10_method_65_code 91 = .ok (.aload_n 0, 1) := by decide +kernel
theorem f209_92 : decode prog_10_method_65_code 92 = .ok (.getfield 9, 3) := by decide +kernel
theorem f209_95 : decode prog_10_method_65_code 95 = .ok (.iload_n 1, 1) := by decide +kernel
theorem f209_96 : decode prog_10_method_65_code 96 = .ok (.iaload, 1) := by decide +kernel
theorem f209_97 : decode prog_10_method_65_code 97 = .ok (.iload_n 3, 1) := by decide +kernel
theorem f209_98 : decode prog_10_method_65_code 98 = .ok (.invokevirtual 330, 3) := by decide +kernel
theorem f209_101 : decode prog_10_method_65_code 101 = .ok (.iconst 2, 1) := by decide +kernel
theorem f209_102 : decode prog_10_method_65_code 102 = .ok (.imul, 1) := by decide +kernel
theorem f209_103 : decode prog_10_method_65_code 103 = .ok (.ireturn, 1) := by decide +kernel
theorem f209_104 : decode prog_10_method_65_code 104 = .ok (.aload_n 0, 1) := by decide +kernel
theorem f209_105 : decode prog_10_method_65_code 105 = .ok (.iload_n 1, 1) := by decide +kernel
theorem f209_106 : decode prog_10_method_65_code 106 = .ok (.iload_n 2, 1) := by decide +kernel
theorem f209_107 : decode prog_10_method_65_code 107 = .ok (.invokestatic 327, 3) := by decide +kernel
theorem f209_110 : decode prog_10_method_65_code 110 = .ok (.iload_n 3, 1) := by decide +kernel
theorem f209_111 : decode prog_10_method_65_code 111 = .ok (.invokevirtual 333, 3) := by decide +kernel
theorem f209_114 : decode prog_10_method_65_code 114 = .ok (.ireturn, 1) := by decide +kernel
theorem f210_0 : decode prog_10_method_67_code 0 = .ok (.iload_n 1, 1) := by decide +kernel
theorem f210_1 : decode prog_10_method_67_code 1 = .ok (.iconst 0, 1) := by decide +kernel
theorem f210_2 : decode prog_10_method_67_code 2 = .ok (.bipush 20, 2) := by decide +kernel
theorem f210_4 : decode prog_10_method_67_code 4 = .ok (.aload_n 0, 1) := by decide +kernel
theorem f210_5 : decode prog_10_method_67_code 5 = .ok (.getfield 317, 3) := by decide +kernel
theorem f210_8 : decode prog_10_method_67_code 8 = .ok (.invokestatic 248, 3) := by decide +kernel
theorem f210_11 : decode prog_10_method_67_code 11 = .ok (.iconst 1, 1) := by decide +kernel
theorem f210_12 : decode prog_10_method_67_code 12 = .ok (.isub, 1) := by decide +kernel
theorem f210_13 : decode prog_10_method_67_code 13 = .ok (.invokestatic 117, 3) := by decide +kernel
theorem f210_16 : decode prog_10_method_67_code 16 = .ok (.ifCond .eq 12, 3) := by decide +kernel
theorem f210_19 : decode prog_10_method_67_code 19 = .ok (.aload_n 0, 1) := by decide +kernel
theorem f210_20 : decode prog_10_method_67_code 20 = .ok (.getfield 79, 3) := by decide +kernel
theorem f210_23 : decode prog_10_method_67_code 23 = .ok (.iload_n 1, 1) := by decide +kernel
theorem f210_24 : decode prog_10_method_67_code 24 = .ok (.iaload, 1) := by decide +kernel
theorem f210_25 : decode prog_10_method_67_code 25 = .ok (.goto 4, 3) := by decide +kernel
theorem f210_28 : decode prog_10_method_67_code 28 = .ok (.iconst (-1), 1) := by decide +kernel
theorem f210_29 : decode prog_10_method_67_code 29 = .ok (.ireturn, 1) := by decide +kernel
theorem f211_0 : decode prog_10_method_68_code 0 = .ok (.iload_n 2, 1) := by decide +kernel
theorem f211_1 : decode prog_10_method_68_code 1 = .ok (.iconst 0, 1) := by decide +kernel
theorem f211_2 : decode prog_10_method_68_code 2 = .ok (.bipush 6, 2) := by decide +kernel
theorem f211_4 : decode prog_10_method_68_code 4 = .ok (.invokestatic 117, 3) := by decide +kernel
theorem f211_7 : decode prog_10_method_68_code 7 = .ok (.ifCond .ne 6, 3) := by decide +kernel
theorem f211_10 : decode prog_10_method_68_code 10 = .ok (.bipush (-2), 2) := by decide +kernel
theorem f211_12 : decode prog_10_method_68_code 12 = .ok (.ireturn, 1) := by decide +kernel
theorem f211_13 : decode prog_10_method_68_code 13 = .ok (.aload_n 0, 1) := by decide +kernel
theorem f211_14 : decode prog_10_method_68_code 14 = .ok (.iload_n 1, 1) := by decide +kernel
theorem f211_15 : decode prog_10_method_68_code 15 = .ok (.invokevirtual 121, 3) := by decide +kernel
theorem f211_18 : decode prog_10_method_68_code 18 = .ok (.ifCond .ne 6, 3) := by decide +kernel
theorem f211_21 : decode prog_10_method_68_code 21 = .ok (.bipush (-11), 2) := by decide +kernel
theorem f211_23 : decode prog_10_method_68_code 23 = .ok (.ireturn, 1) := by decide +kernel
theorem f211_24 : decode prog_10_method_68_code 24 = .ok (.aload_n 0, 1) := by decide +kernel
theorem f211_25 : decode prog_10_method_68_code 25 = .ok (.getfield 9, 3) := by decide +kernel
theorem f211_28 : decode prog_10_method_68_code 28 = .ok (.iload_n 1, 1) := by decide +kernel
theorem f211_29 : decode prog_10_method_68_code 29 = .ok (.iaload, 1) := by decide +kernel
theorem f211_30 : decode prog_10_method_68_code 30 = .ok (.istore_n 3, 1) := by decide +kernel
theorem f211_31 : decode prog_10_method_68_code 31 = .ok (.iload_n 3, 1) := by decide +kernel
theorem f211_32 : decode prog_10_method_68_code 32 = .ok (.iload_n 2, 1) := by decide +kernel
theorem f211_33 : decode prog_10_method_68_code 33 = .ok (.if_icmp .eq 15, 3) := by decide +kernel
theorem f211_36 : decode prog_10_method_68_code 36 = .ok (.iload_n 3, 1) := by decide +kernel
theorem f211_37 : decode prog_10_method_68_code 37 = .ok (.ifCond .le 11, 3) := by decide +kernel
theorem f211_40 : decode prog_10_method_68_code 40 = .ok (.iload_n 3, 1) := by decide +kernel
theorem f211_41 : decode prog_10_method_68_code 41 = .ok (.invokestatic 327, 3) := by decide +kernel
theorem f211_44 : decode prog_10_method_68_code 44 = .ok (.istore_n 3, 1) := by decide +kernel
theorem f211_45 : decode prog_10_method_68_code 45 = .ok (.goto (-14), 3) := by decide +kernel
theorem f211_48 : decode prog_10_method_68_code 48 = .ok (.iload_n 3, 1) := by decide +kernel
theorem f211_49 : decode prog_10_method_68_code 49 = .ok (.iload_n 2, 1) := by decide +kernel
theorem f211_50 : decode prog_10_method_68_code 50 = .ok (.if_icmp .ne 12, 3) := by decide +kernel
theorem f211_53 : decode prog_10_method_68_code 53 = .ok (.aload_n 0, 1) := by decide +kernel
theorem f211_54 : decode prog_10_method_68_code 54 = .ok (.getfield 9, 3) := by decide +kernel
theorem f211_57 : decode prog_10_method_68_code 57 = .ok (.iload_n 1, 1) := by decide +kernel
theorem f211_58 : decode prog_10_method_68_code 58 = .ok (.iaload, 1) := by decide +kernel
theorem f211_59 : decode prog_10_method_68_code 59 = .ok (.goto 5, 3) := by decide +kernel
theorem f211_62 : decode prog_10_method_68_code 62 = .ok (.bipush (-12), 2) := by decide +kernel
theorem f211_64 : decode prog_10_method_68_code 64 = .ok (.ireturn, 1) := by decide +kernel
theorem f212_0 : decode prog_10_method_69_code 0 = .ok (.iload_n 1, 1) := by decide +kernel
theorem f212_1 : decode prog_10_method_69_code 1 = .ok (.tableswitch 87 0 7 #[47, 52, 57, 62, 67, 72, 77, 82], 47) := by decide +kernel
theorem f212_48 : decode prog_10_method_69_code 48 = .ok (.aload_n 0, 1) := by decide +kernel
theorem f212_49 : decode prog_10_method_69_code 49 = .ok (.getfield 114, 3) := by decide +kernel
theorem f212_52 : decode prog_10_method_69_code 52 = .ok (.ireturn, 1) := by decide +kernel
theorem f212_53 : decode prog_10_method_69_code 53 = .ok (.aload_n 0, 1) := by decide +kernel
theorem f212_54 : decode prog_10_method_69_code 54 = .ok (.getfield 229, 3) := by decide +kernel
theorem f212_57 : decode prog_10_method_69_code 57 = .ok (.ireturn, 1) := by decide +kernel
theorem f212_58 : decode prog_10_method_69_code 58 = .ok (.aload_n 0, 1) := by decide +kernel
theorem f212_59 : decode prog_10_method_69_code 59 = .ok (.getfield 286, 3) := by decide +kernel
theorem f212_62 : decode prog_10_method_69_code 62 = .ok (.ireturn, 1) := by decide +kernel
theorem f212_63 : decode prog_10_method_69_code 63 = .ok (.aload_n 0, 1) := by decide +kernel
theorem f212_64 : decode prog_10_method_69_code 64 = .ok (.getfield 307, 3) := by decide +kernel
theorem f212_67 : decode prog_10_method_69_code 67 = .ok (.ireturn, 1) := by decide +kernel
theorem f212_68 : decode prog_10_method_69_code 68 = .ok (.aload_n 0, 1) := by decide +kernel
theorem f212_69 : decode prog_10_method_69_code 69 = .ok (.getfield 310, 3) := by decide +kernel
theorem f212_72 : decode prog_10_method_69_code 72 = .ok (.ireturn, 1) := by decide +kernel
theorem f212_73 : decode prog_10_method_69_code 73 = .ok (.aload_n 0, 1) := by decide +kernel
theorem f212_74 : decode prog_10_method_69_code 74 = .ok (.getfield 157, 3) := by decide +kernel
theorem f212_77 : decode prog_10_method_69_code 77 = .ok (.ireturn, 1) := by decide +kernel
theorem f212_78 : decode prog_10_method_69_code 78 = .ok (.aload_n 0, 1) := by decide +kernel
theorem f212_79 : decode prog_10_method_69_code 79 = .ok (.getfield 317, 3) := by decide +kernel
theorem f212_82 : decode prog_10_method_69_code 82 = .ok (.ireturn, 1) := by decide +kernel
theorem f212_83 : decode prog_10_method_69_code 83 = .ok (.aload_n 0, 1) := by decide +kernel
theorem f212_84 : decode prog_10_method_69_code 84 = .ok (.getfield 154, 3) := by decide +kernel
theorem f212_87 : decode prog_10_method_69_code 87 = .ok (.ireturn, 1) := by decide +kernel
theorem f212_88 : decode prog_10_method_69_code 88 = .ok (.bipush (-2), 2) := by decide +kernel
theorem f212_90 : decode prog_10_method_69_code 90 = .ok (.ireturn, 1) := by decide +kernel
theorem f213_0 : decode prog_10_method_71_code 0 = .ok (.iload_n 1, 1) := by decide +kernel
theorem f213_1 : decode prog_10_method_71_code 1 = .ok (.invokestatic 336, 3) := by decide +kernel
theorem f213_4 : decode prog_10_method_71_code 4 = .ok (.ifCond .ne 5, 3) := by decide +kernel
theorem f213_7 : decode prog_10_method_71_code 7 = .ok (.iconst (-1), 1) := by decide +kernel
theorem f213_8 : decode prog_10_method_71_code 8 = .ok (.ireturn, 1) := by decide +kernel
theorem f213_9 : decode prog_10_method_71_code 9 = .ok (.iload_n 2, 1) := by decide +kernel
theorem f213_10 : decode prog_10_method_71_code 10 = .ok (.iconst (-1), 1) := by decide +kernel
theorem f213_11 : decode prog_10_method_71_code 11 = .ok (.iconst 4, 1) := by decide +kernel
theorem f213_12 : decode prog_10_method_71_code 12 = .ok (.invokestatic 117, 3) := by decide +kernel
theorem f213_15 : decode prog_10_method_71_code 15 = .ok (.ifCond .eq 13, 3) := by decide +kernel
theorem f213_18 : decode prog_10_method_71_code 18 = .ok (.iload_n 2, 1) := by decide +kernel
theorem f213_19 : decode prog_10_method_71_code 19 = .ok (.ifCond .lt 12, 3) := by decide +kernel
theorem f213_22 : decode prog_10_method_71_code 22 = .ok (.iload_n 3, 1) := by decide +kernel
theorem f213_23 : decode prog_10_method_71_code 23 = .ok (.bipush 60, 2) := by decide +kernel
theorem f213_25 : decode prog_10_method_71_code 25 = .ok (.if_icmp .le 6, 3) := by decide +kernel
theorem f213_28 : decode prog_10_method_71_code 28 = .ok (.bipush (-2), 2) := by decide +kernel
theorem f213_30 : decode prog_10_method_71_code 30 = .ok (.ireturn, 1) := by decide +kernel
theorem f213_31 : decode prog_10_method_71_code 31 = .ok (.iload_n 2, 1) := by decide +kernel
theorem f213_32 : decode prog_10_method_71_code 32 = .ok (.ifCond .lt 10, 3) := by decide +kernel
theorem f213_35 : decode prog_10_method_71_code 35 = .ok (.iload_n 3, 1) := by decide +kernel
theorem f213_36 : decode prog_10_method_71_code 36 = .ok (.ifCond .ge 6, 3) := by decide +kernel
theorem f213_39 : decode prog_10_method_71_code 39 = .ok (.bipush (-14), 2) := by decide +kernel
theorem f213_41 : decode prog_10_method_71_code 41 = .ok (.ireturn, 1) := by decide +kernel
theorem f213_42 : decode prog_10_method_71_code 42 = .ok (.aload_n 0, 1) := by decide +kernel
theorem f213_43 : decode prog_10_method_71_code 43 = .ok (.getfield 100, 3) := by decide +kernel
theorem f213_46 : decode prog_10_method_71_code 46 = .ok (.iload_n 1, 1) := by decide +kernel
theorem f213_47 : decode prog_10_method_71_code 47 = .ok (.iload_n 2, 1) := by decide +kernel
theorem f213_48 : decode prog_10_method_71_code 48 = .ok (.iastore, 1) := by decide +kernel
theorem f213_49 : decode prog_10_method_71_code 49 = .ok (.aload_n 0, 1) := by decide +kernel
theorem f213_50 : decode prog_10_method_71_code 50 = .ok (.getfield 103, 3) := by decide +kernel
theorem f213_53 : decode prog_10_method_71_code 53 = .ok (.iload_n 1, 1) := by decide +kernel
theorem f213_54 : decode prog_10_method_71_code 54 = .ok (.iload_n 2, 1) := by decide +kernel
theorem f213_55 : decode prog_10_method_71_code 55 = .ok (.ifCond .ge 7, 3) := by decide +kernel
theorem f213_58 : decode prog_10_method_71_code 58 = .ok (.iconst 0, 1) := by decide +kernel
theorem f213_59 : decode prog_10_method_71_code 59 = .ok (.goto 4, 3) := by decide +kernel
theorem f213_62 : decode prog_10_method_71_code 62 = .ok (.iload_n 3, 1) := by decide +kernel
theorem f213_63 : decode prog_10_method_71_code 63 = .ok (.iastore, 1) := by decide +kernel
theorem f213_64 : decode prog_10_method_71_code 64 = .ok (.iconst 0, 1) := by decide +kernel
theorem f213_65 : decode prog_10_method_71_code 65 = .ok (.istore 4, 2) := by decide +kernel
theorem f213_67 : decode prog_10_method_71_code 67 = .ok (.iload 4, 2) := by decide +kernel
theorem f213_69 : decode prog_10_method_71_code 69 = .ok (.bipush 60, 2) := by decide +kernel
theorem f213_71 : decode prog_10_method_71_code 71 = .ok (.if_icmp .ge 22, 3) := by decide +kernel
theorem f213_74 : decode prog_10_method_71_code 74 = .ok (.aload_n 0, 1) := by decide +kernel
theorem f213_75 : decode prog_10_method_71_code 75 = .ok (.getfield 106, 3) := by decide +kernel
theorem f213_78 : decode prog_10_method_71_code 78 = .ok (.bipush 60, 2) := by decide +kernel
theorem f213_80 : decode prog_10_method_71_code 80 = .ok (.iload_n 1, 1) := by decide +kernel
theorem f213_81 : decode prog_10_method_71_code 81 = .ok (.imul, 1) := by decide +kernel
theorem f213_82 : decode prog_10_method_71_code 82 = .ok (.iload 4, 2) := by decide +kernel
theorem f213_84 : decode prog_10_method_71_code 84 = .ok (.iadd, 1) := by decide +kernel
theorem f213_85 : decode prog_10_method_71_code 85 = .ok (.lconst 0, 1) := by decide +kernel
theorem f213_86 : decode prog_10_method_71_code 86 = .ok (.lastore, 1) := by decide +kernel
theorem f213_87 : decode prog_10_method_71_code 87 = .ok (.iinc 4 1, 3) := by decide +kernel
theorem f213_90 : decode prog_10_method_71_code 90 = .ok (.goto (-23), 3) := by decide +kernel
theorem f213_93 : decode prog_10_method_71_code 93 = .ok (.iconst 1, 1) := by decide +kernel
theorem f213_94 : decode prog_10_method_71_code 94 = .ok (.ireturn, 1) := by decide +kernel
theorem f215_0 : decode prog_10_method_73_code 0 = .ok (.iload_n 1, 1) := by decide +kernel
theorem f215_1 : decode prog_10_method_73_code 1 = .ok (.invokestatic 336, 3) := by decide +kernel
theorem f215_4 : decode prog_10_method_73_code 4 = .ok (.ifCond .ne 5, 3) := by decide +kernel
theorem f215_7 : decode prog_10_method_73_code 7 = .ok (.iconst (-1), 1) := by decide +kernel
theorem f215_8 : decode prog_10_method_73_code 8 = .ok (.ireturn, 1) := by decide +kernel
theorem f215_9 : decode prog_10_method_73_code 9 = .ok (.aload_n 0, 1) := by decide +kernel
theorem f215_10 : decode prog_10_method_73_code 10 = .ok (.getfield 100, 3) := by decide +kernel
theorem f215_13 : decode prog_10_method_73_code 13 = .ok (.iload_n 1, 1) := by decide +kernel
theorem f215_14 : decode prog_10_method_73_code 14 = .ok (.iaload, 1) := by decide +kernel
theorem f215_15 : decode prog_10_method_73_code 15 = .ok (.ifCond .ge 6, 3) := by decide +kernel
theorem f215_18 : decode prog_10_method_73_code 18 = .ok (.bipush (-11), 2) := by decide +kernel
theorem f215_20 : decode prog_10_method_73_code 20 = .ok (.ireturn, 1) := by decide +kernel
theorem f215_21 : decode prog_10_method_73_code 21 = .ok (.iload_n 2, 1) := by decide +kernel
theorem f215_22 : decode prog_10_method_73_code 22 = .ok (.iconst 0, 1) := by decide +kernel
theorem f215_23 : decode prog_10_method_73_code 23 = .ok (.aload_n 0, 1) := by decide +kernel
theorem f215_24 : decode prog_10_method_73_code 24 = .ok (.getfield 103, 3) := by decide +kernel
theorem f215_27 : decode prog_10_method_73_code 27 = .ok (.iload_n 1, 1) := by decide +kernel
theorem f215_28 : decode prog_10_method_73_code 28 = .ok (.iaload, 1) := by decide +kernel
theorem f215_29 : decode prog_10_method_73_code 29 = .ok (.iconst 1, 1) := by decide +kernel
theorem f215_30 : decode prog_10_method_73_code 30 = .ok (.isub, 1) := by decide +kernel
theorem f215_31 : decode prog_10_method_73_code 31 = .ok (.invokestatic 117, 3) := by decide +kernel
theorem f215_34 : decode prog_10_method_73_code 34 = .ok (.ifCond .ne 6, 3) := by decide +kernel
theorem f215_37 : decode prog_10_method_73_code 37 = .ok (.bipush (-13), 2) := by decide +kernel
theorem f215_39 : decode prog_10_method_73_code 39 = .ok (.ireturn, 1) := by decide +kernel
theorem f215_40 : decode prog_10_method_73_code 40 = .ok (.aload_n 0, 1) := by decide +kernel
theorem f215_41 : decode prog_10_method_73_code 41 = .ok (.getfield 106, 3) := by decide +kernel
theorem f215_44 : decode prog_10_method_73_code 44 = .ok (.bipush 60, 2) := by decide +kernel
theorem f215_46 : decode prog_10_method_73_code 46 = .ok (.iload_n 1, 1) := by decide +kernel
theorem f215_47 : decode prog_10_method_73_code 47 = .ok (.imul, 1) := by decide +kernel
theorem f215_48 : decode prog_10_method_73_code 48 = .ok (.iload_n 2, 1) := by decide +kernel
theorem f215_49 : decode prog_10_method_73_code 49 = .ok (.iadd, 1) := by decide +kernel
theorem f215_50 : decode prog_10_method_73_code 50 = .ok (.aload_n 0, 1) := by decide +kernel
theorem f215_51 : decode prog_10_method_73_code 51 = .ok (.getfield 100, 3) := by decide +kernel
theorem f215_54 : decode prog_10_method_73_code 54 = .ok (.iload_n 1, 1) := by decide +kernel
theorem f215_55 : decode prog_10_method_73_code 55 = .ok (.iaload, 1) := by decide +kernel
theorem f215_56 : decode prog_10_method_73_code 56 = .ok (.lload_n 3, 1) := by decide +kernel
theorem f215_57 : decode prog_10_method_73_code 57 = .ok (.invokestatic 339, 3) := by decide +kernel
theorem f215_60 : decode prog_10_method_73_code 60 = .ok (.lastore, 1) := by decide +kernel
theorem f215_61 : decode prog_10_method_73_code 61 = .ok (.iconst 1, 1) := by decide +kernel
theorem f215_62 : decode prog_10_method_73_code 62 = .ok (.ireturn, 1) := by decide +kernel
theorem f217_0 : decode prog_10_method_74_code 0 = .ok (.iload_n 1, 1) := by decide +kernel
theorem f217_1 : decode prog_10_method_74_code 1 = .ok (.invokestatic 336, 3) := by decide +kernel
theorem f217_4 : decode prog_10_method_74_code 4 = .ok (.ifCond .eq 42, 3) := by decide +kernel
theorem f217_7 : decode prog_10_method_74_code 7 = .ok (.aload_n 0, 1) := by decide +kernel
theorem f217_8 : decode prog_10_method_74_code 8 = .ok (.getfield 100, 3) := by decide +kernel
theorem f217_11 : decode prog_10_method_74_code 11 = .ok (.iload_n 1, 1) := by decide +kernel
theorem f217_12 : decode prog_10_method_74_code 12 = .ok (.iaload, 1) := by decide +kernel
theorem f217_13 : decode prog_10_method_74_code 13 = .ok (.ifCond .lt 33, 3) := by decide +kernel
theorem f217_16 : decode prog_10_method_74_code 16 = .ok (.iload_n 2, 1) := by decide +kernel
theorem f217_17 : decode prog_10_method_74_code 17 = .ok (.iconst 0, 1) := by decide +kernel
theorem f217_18 : decode prog_10_method_74_code 18 = .ok (.aload_n 0, 1) := by decide +kernel
theorem f217_19 : decode prog_10_method_74_code 19 = .ok (.getfield 103, 3) := by decide +kernel
theorem f217_22 : decode prog_10_method_74_code 22 = .ok (.iload_n 1, 1) := by decide +kernel
theorem f217_23 : decode prog_10_method_74_code 23 = .ok (.iaload, 1) := by decide +kernel
theorem f217_24 : decode prog_10_method_74_code 24 = .ok (.iconst 1, 1) := by decide +kernel
theorem f217_25 : decode prog_10_method_74_code 25 = .ok (.isub, 1) := by decide +kernel
theorem f217_26 : decode prog_10_method_74_code 26 = .ok (.invokestatic 117, 3) := by decide +kernel
theorem f217_29 : decode prog_10_method_74_code 29 = .ok (.ifCond .eq 17, 3) := by decide +kernel
theorem f217_32 : decode prog_10_method_74_code 32 = .ok (.aload_n 0, 1) := by decide +kernel
theorem f217_33 : decode prog_10_method_74_code 33 = .ok (.getfield 106, 3) := by decide +kernel
theorem f217_36 : decode prog_10_method_74_code 36 = .ok (.bipush 60, 2) := by decide +kernel
theorem f217_38 : decode prog_10_method_74_code 38 = .ok (.iload_n 1, 1) := by decide +kernel
theorem f217_39 : decode prog_10_method_74_code 39 = .ok (.imul, 1) := by decide +kernel
theorem f217_40 : decode prog_10_method_74_code 40 = .ok (.iload_n 2, 1) := by decide +kernel
theorem f217_41 : decode prog_10_method_74_code 41 = .ok (.iadd, 1) := by decide +kernel
theorem f217_42 : decode prog_10_method_74_code 42 = .ok (.laload, 1) := by decide +kernel
theorem f217_43 : decode prog_10_method_74_code 43 = .ok (.goto 6, 3) := by decide +kernel
theorem f217_46 : decode prog_10_method_74_code 46 = .ok (.ldc2_w 299, 3) := by decide +kernel
theorem f217_49 : decode prog_10_method_74_code 49 = .ok (.lreturn, 1) := by decide +kernel
theorem f218_0 : decode prog_10_method_75_code 0 = .ok (.iload_n 1, 1) := by decide +kernel
theorem f218_1 : decode prog_10_method_75_code 1 = .ok (.invokestatic 336, 3) := by decide +kernel
theorem f218_4 : decode prog_10_method_75_code 4 = .ok (.ifCond .eq 10, 3) := by decide +kernel
theorem f218_7 : decode prog_10_method_75_code 7 = .ok (.iload_n 3, 1) := by decide +kernel
theorem f218_8 : decode prog_10_method_75_code 8 = .ok (.invokestatic 336, 3) := by decide +kernel
theorem f218_11 : decode prog_10_method_75_code 11 = .ok (.ifCond .ne 5, 3) := by decide +kernel
theorem f218_14 : decode prog_10_method_75_code 14 = .ok (.iconst (-1), 1) := by decide +kernel
theorem f218_15 : decode prog_10_method_75_code 15 = .ok (.ireturn, 1) := by decide +kernel
theorem f218_16 : decode prog_10_method_75_code 16 = .ok (.aload_n 0, 1) := by decide +kernel
theorem f218_17 : decode prog_10_method_75_code 17 = .ok (.getfield 100, 3) := by decide +kernel
theorem f218_20 : decode prog_10_method_75_code 20 = .ok (.iload_n 1, 1) := by decide +kernel
theorem f218_21 : decode prog_10_method_75_code 21 = .ok (.iaload, 1) := by decide +kernel
theorem f218_22 : decode prog_10_method_75_code 22 = .ok (.ifCond .lt 12, 3) := by decide +kernel
theorem f218_25 : decode prog_10_method_75_code 25 = .ok (.aload_n 0, 1) := by decide +kernel
theorem f218_26 : decode prog_10_method_75_code 26 = .ok (.getfield 100, 3) := by decide +kernel
theorem f218_29 : decode prog_10_method_75_code 29 = .ok (.iload_n 3, 1) := by decide +kernel
theorem f218_30 : decode prog_10_method_75_code 30 = .ok (.iaload, 1) := by decide +kernel
theorem f218_31 : decode prog_10_method_75_code 31 = .ok (.ifCond .ge 6, 3) := by decide +kernel
theorem f218_34 : decode prog_10_method_75_code 34 = .ok (.bipush (-11), 2) := by decide +kernel
theorem f218_36 : decode prog_10_method_75_code 36 = .ok (.ireturn, 1) := by decide +kernel
theorem f218_37 : decode prog_10_method_75_code 37 = .ok (.aload_n 0, 1) := by decide +kernel
theorem f218_38 : decode prog_10_method_75_code 38 = .ok (.getfield 100, 3) := by decide +kernel
theorem f218_41 : decode prog_10_method_75_code 41 = .ok (.iload_n 1, 1) := by decide +kernel
theorem f218_42 : decode prog_10_method_75_code 42 = .ok (.iaload, 1) := by decide +kernel
theorem f218_43 : decode prog_10_method_75_code 43 = .ok (.aload_n 0, 1) := by decide +kernel
theorem f218_44 : decode prog_10_method_75_code 44 = .ok (.getfield 100, 3) := by decide +kernel
theorem f218_47 : decode prog_10_method_75_code 47 = .ok (.iload_n 3, 1) := by decide +kernel
theorem f218_48 : decode prog_10_method_75_code 48 = .ok (.iaload, 1) := by decide +kernel
theorem f218_49 : decode prog_10_method_75_code 49 = .ok (.if_icmp .eq 6, 3) := by decide +kernel
theorem f218_52 : decode prog_10_method_75_code 52 = .ok (.bipush (-12), 2) := by decide +kernel
theorem f218_54 : decode prog_10_method_75_code 54 = .ok (.ireturn, 1) := by decide +kernel
theorem f218_55 : decode prog_10_method_75_code 55 = .ok (.iload 5, 2) := by decide +kernel
theorem f218_57 : decode prog_10_method_75_code 57 = .ok (.ifCond .lt 47, 3) := by decide +kernel
theorem f218_60 : decode prog_10_method_75_code 60 = .ok (.iload_n 2, 1) := by decide +kernel
theorem f218_61 : decode prog_10_method_75_code 61 = .ok (.ifCond .lt 43, 3) := by decide +kernel
theorem f218_64 : decode prog_10_method_75_code 64 = .ok (.iload 4, 2) := by decide +kernel
theorem f218_66 : decode prog_10_method_75_code 66 = .ok (.ifCond .lt 38, 3) := by decide +kernel
theorem f218_69 : decode prog_10_method_75_code 69 = .ok (.iload_n 2, 1) := by decide +kernel
theorem f218_70 : decode prog_10_method_75_code 70 = .ok (.i2l, 1) := by decide +kernel
theorem f218_71 : decode prog_10_method_75_code 71 = .ok (.iload 5, 2) := by decide +kernel
theorem f218_73 : decode prog_10_method_75_code 73 = .ok (.i2l, 1) := by decide +kernel
theorem f218_74 : decode prog_10_method_75_code 74 = .ok (.ladd, 1) := by decide +kernel
theorem f218_75 : decode prog_10_method_75_code 75 = .ok (.aload_n 0, 1) := by decide +kernel
theorem f218_76 : decode prog_10_method_75_code 76 = .ok (.getfield 103, 3) := by decide +kernel
theorem f218_79 : decode prog_10_method_75_code 79 = .ok (.iload_n 1, 1) := by decide +kernel
theorem f218_80 : decode prog_10_method_75_code 80 = .ok (.iaload, 1) := by decide +kernel
theorem f218_81 : decode prog_10_method_75_code 81 = .ok (.i2l, 1) := by decide +kernel
theorem f218_82 : decode prog_10_method_75_code 82 = .ok (.lcmp, 1) := by decide +kernel
theorem f218_83 : decode prog_10_method_75_code 83 = .ok (.ifCond .gt 21, 3) := by decide +kernel
theorem f218_86 : decode prog_10_method_75_code 86 = .ok (.iload 4, 2) := by decide +kernel
theorem f218_88 : decode prog_10_method_75_code 88 = .ok (.i2l, 1) := by decide +kernel
theorem f218_89 : decode prog_10_method_75_code 89 = .ok (.iload 5, 2) := by decide +kernel
theorem f218_91 : decode prog_10_method_75_code 91 = .ok (.i2l, 1) := by decide +kernel
theorem f218_92 : decode prog_10_method_75_code 92 = .ok (.ladd, 1) := by decide +kernel
theorem f218_93 : decode prog_10_method_75_code 93 = .ok (.aload_n 0, 1) := by decide +kernel
theorem f218_94 : decode prog_10_method_75_code 94 = .ok (.getfield 103, 3) := by decide +kernel
theorem f218_97 : decode prog_10_method_75_code 97 = .ok (.iload_n 3, 1) := by decide +kernel
theorem f218_98 : decode prog_10_method_75_code 98 = .ok (.iaload, 1) := by decide +kernel
theorem f218_99 : decode prog_10_method_75_code 99 = .ok (.i2l, 1) := by decide +kernel
theorem f218_100 : decode prog_10_method_75_code 100 = .ok (.lcmp, 1) := by decide +kernel
theorem f218_101 : decode prog_10_method_75_code 101 = .ok (.ifCond .le 6, 3) := by decide +kernel
theorem f218_104 : decode prog_10_method_75_code 104 = .ok (.bipush (-13), 2) := by decide +kernel
theorem f218_106 : decode prog_10_method_75_code 106 = .ok (.ireturn, 1) := by decide +kernel
theorem f218_107 : decode prog_10_method_75_code 107 = .ok (.iload_n 1, 1) := by decide +kernel
theorem f218_108 : decode prog_10_method_75_code 108 = .ok (.iload_n 3, 1) := by decide +kernel
theorem f218_109 : decode prog_10_method_75_code 109 = .ok (.if_icmp .ne 58, 3) := by decide +kernel
theorem f218_112 : decode prog_10_method_75_code 112 = .ok (.iload_n 2, 1) := by decide +kernel
theorem f218_113 : decode prog_10_method_75_code 113 = .ok (.iload 4, 2) := by decide +kernel
theorem f218_115 : decode prog_10_method_75_code 115 = .ok (.if_icmp .ge 52, 3) := by decide +kernel
theorem f218_118 : decode prog_10_method_75_code 118 = .ok (.iload 5, 2) := by decide +kernel
theorem f218_120 : decode prog_10_method_75_code 120 = .ok (.iconst 1, 1) := by decide +kernel
theorem f218_121 : decode prog_10_method_75_code 121 = .ok (.isub, 1) := by decide +kernel
theorem f218_122 : decode prog_10_method_75_code 122 = .ok (.istore 6, 2) := by decide +kernel
theorem f218_124 : decode prog_10_method_75_code 124 = .ok (.iload 6, 2) := by decide +kernel
theorem f218_126 : decode prog_10_method_75_code 126 = .ok (.ifCond .lt 38, 3) := by decide +kernel
theorem f218_129 : decode prog_10_method_75_code 129 = .ok (.aload_n 0, 1) := by decide +kernel
theorem f218_130 : decode prog_10_method_75_code 130 = .ok (.getfield 106, 3) := by decide +kernel
theorem f218_133 : decode prog_10_method_75_code 133 = .ok (.bipush 60, 2) := by decide +kernel
theorem f218_135 : decode prog_10_method_75_code 135 = .ok (.iload_n 3, 1) := by decide +kernel
theorem f218_136 : decode prog_10_method_75_code 136 = .ok (.imul, 1) := by decide +kernel
theorem f218_137 : decode prog_10_method_75_code 137 = .ok (.iload 4, 2) := by decide +kernel
theorem f218_139 : decode prog_10_method_75_code 139 = .ok (.iadd, 1) := by decide +kernel
theorem f218_140 : decode prog_10_method_75_code 140 = .ok (.iload 6, 2) := by decide +kernel
theorem f218_142 : decode prog_10_method_75_code 142 = .ok (.iadd, 1) := by decide +kernel
theorem f218_143 : decode prog_10_method_75_code 143 = .ok (.aload_n 0, 1) := by decide +kernel
theorem f218_144 : decode prog_10_method_75_code 144 = .ok (.getfield 106, 3) := by decide +kernel
theorem f218_147 : decode prog_10_method_75_code 147 = .ok (.bipush 60, 2) := by decide +kernel
theorem f218_149 : decode prog_10_method_75_code 149 = .ok (.iload_n 1, 1) := by decide +kernel
theorem f218_150 : decode prog_10_method_75_code 150 = .ok (.imul, 1) := by decide +kernel
theorem f218_151 : decode prog_10_method_75_code 151 = .ok (.iload_n 2, 1) := by decide +kernel
theorem f218_152 : decode prog_10_method_75_code 152 = .ok (.iadd, 1) := by decide +kernel
theorem f218_153 : decode prog_10_method_75_code 153 = .ok (.iload 6, 2) := by decide +kernel
theorem f218_155 : decode prog_10_method_75_code 155 = .ok (.iadd, 1) := by decide +kernel
theorem f218_156 : decode prog_10_method_75_code 156 = .ok (.laload, 1) := by decide +kernel
theorem f218_157 : decode prog_10_method_75_code 157 = .ok (.lastore, 1) := by decide +kernel
theorem f218_158 : decode prog_10_method_75_code 158 = .ok (.iinc 6 (-1), 3) := by decide +kernel
theorem f218_161 : decode prog_10_method_75_code 161 = .ok (.goto (-37), 3) := by decide +kernel
theorem f218_164 : decode prog_10_method_75_code 164 = .ok (.goto 48, 3) := by decide +kernel
theorem f218_167 : decode prog_10_method_75_code 167 = .ok (.iconst 0, 1) := by decide +kernel
theorem f218_168 : decode prog_10_method_75_code 168 = .ok (.istore 6, 2) := by decide +kernel
theorem f218_170 : decode prog_10_method_75_code 170 = .ok (.iload 6, 2) := by decide +kernel
theorem f218_172 : decode prog_10_method_75_code 172 = .ok (.iload 5, 2) := by decide +kernel
theorem f218_174 : decode prog_10_method_75_code 174 = .ok (.if_icmp .ge 38, 3) := by decide +kernel
theorem f218_177 : decode prog_10_method_75_code 177 = .ok (.aload_n 0, 1) := by decide +kernel
theorem f218_178 : decode prog_10_method_75_code 178 = .ok (.getfield 106, 3) := by decide +kernel
theorem f218_181 : decode prog_10_method_75_code 181 = .ok (.bipush 60, 2) := by decide +kernel
theorem f218_183 : decode prog_10_method_75_code 183 = .ok (.iload_n 3, 1) := by decide +kernel
theorem f218_184 : decode prog_10_method_75_code 184 = .ok (.imul, 1) := by decide +kernel
theorem f218_185 : decode prog_10_method_75_code 185 = .ok (.iload 4, 2) := by decide +kernel
theorem f218_187 : decode prog_10_method_75_code 187 = .ok (.iadd, 1) := by decide +kernel
theorem f218_188 : decode prog_10_method_75_code 188 = .ok (.iload 6, 2) := by decide +kernel
theorem f218_190 : decode prog_10_method_75_code 190 = .ok (.iadd, 1) := by decide +kernel
theorem f218_191 : decode prog_10_method_75_code 191 = .ok (.aload_n 0, 1) := by decide +kernel
theorem f218_192 : decode prog_10_method_75_code 192 = .ok (.getfield 106, 3) := by decide +kernel
theorem f218_195 : decode prog_10_method_75_code 195 = .ok (.bipush 60, 2) := by decide +kernel
theorem f218_197 : decode prog_10_method_75_code 197 = .ok (.iload_n 1, 1) := by decide +kernel
theorem f218_198 : decode prog_10_method_75_code 198 = .ok (.imul, 1) := by decide +kernel
theorem f218_199 : decode prog_10_method_75_code 199 = .ok (.iload_n 2, 1) := by decide +kernel
theorem f218_200 : decode prog_10_method_75_code 200 = .ok (.iadd, 1) := by decide +kernel
theorem f218_201 : decode prog_10_method_75_code 201 = .ok (.iload 6, 2) := by decide +kernel
theorem f218_203 : decode prog_10_method_75_code 203 = .ok (.iadd, 1) := by decide +kernel
theorem f218_204 : decode prog_10_method_75_code 204 = .ok (.laload, 1) := by decide +kernel
theorem f218_205 : decode prog_10_method_75_code 205 = .ok (.lastore, 1) := by decide +kernel
theorem f218_206 : decode prog_10_method_75_code 206 = .ok (.iinc 6 1, 3) := by decide +kernel
theorem f218_209 : decode prog_10_method_75_code 209 = .ok (.goto (-39), 3) := by decide +kernel
theorem f218_212 : decode prog_10_method_75_code 212 = .ok (.iload 5, 2) := by decide +kernel
theorem f218_214 : decode prog_10_method_75_code 214 = .ok (.ireturn, 1) := by decide +kernel
section YD
variable {zl : Nat} {nl : Option Nat} {h : Hp}
/-- HatterTunesModel.head(II)I -/
theorem E128 {d : Nat} {K : Int → Hp → Prop} (w : yWF zl nl h) {x0 : Int} {x1 : Int} (hd : 1 ≤ d) (k : ((((0 : Int) ≤ x0 ∧ x0 ≤ 6) → ((((0 : Int) ≤ x1 ∧ x1 ≤ 9) → (((zV h 137 0) ≠ 6 → ((0 ≤ (zV h 137 0) ∧ (zV h 137 0) < 6) ∧ ((0 ≤ (zV (zsetV h 138 ((zV h 137 0)).toNat x0) 137 0) ∧ (zV (zsetV h 138 ((zV h 137 0)).toNat x0) 137 0) < 6) ∧ (∀ h_57, (zsetV (zsetV h 138 ((zV h 137 0)).toNat x0) 139 ((zV (zsetV h 138 ((zV h 137 0)).toNat x0) 137 0)).toNat x1) = h_57 → ((0 ≤ (zV h_57 137 0) ∧ (zV h_57 137 0) < 6) ∧ ZW d prog_10_method_6_code 8 69 [some (vR (some 137)), some (vI x0), some (vI x1), some (vI 0)] [] (zsetV h_57 141 ((zV h_57 137 0)).toNat 0) (yq 1 (yqI K))))))) ∧ (¬ ((zV h 137 0) ≠ 6) → K (-4) h))) ∧ (¬ (((0 : Int) ≤ x1 ∧ x1 ≤ 9)) → K (-2) h))) ∧ (¬ (((0 : Int) ≤ x0 ∧ x0 ≤ 6)) → K (-1) h))) : yI d 128 [vR (some 137), vI x0, vI x1] h K := by
  refine y_en (L := [some (vR (some 137)), some (vI x0), some (vI x1), none]) rfl rfl ?_
  refine y_s (pc' := 1) (L' := [some (vR (some 137)), some (vI x0), some (vI x1), none]) (st' := [vI x0]) (h' := h) f128_0 rfl ?_
  refine y_s (pc' := 2) (L' := [some (vR (some 137)), some (vI x0), some (vI x1), none]) (st' := [vI 0, vI x0]) (h' := h) f128_1 rfl ?_
  refine y_s (pc' := 4) (L' := [some (vR (some 137)), some (vI x0), some (vI x1), none]) (st' := [vI 6, vI 0, vI x0]) (h' := h) f128_2 rfl ?_
  refine y_cI (pc' := 7) (as := [vI x0, vI 0, vI 6]) (r := []) f128_4 rfl (by omega) rfl ?_
  refine sp129 w (fun c => ?_) (fun c => ?_)
  · replace k := k.1 c
    refine y_ift (pcT := 12) f128_7 rfl rfl ?_
    refine y_s (pc' := 13) (L' := [some (vR (some 137)), some (vI x0), some (vI x1), none]) (st' := [vI x1]) (h' := h) f128_12 rfl ?_
    refine y_s (pc' := 14) (L' := [some (vR (some 137)), some (vI x0), some (vI x1), none]) (st' := [vI 0, vI x1]) (h' := h) f128_13 rfl ?_
    refine y_s (pc' := 16) (L' := [some (vR (some 137)), some (vI x0), some (vI x1), none]) (st' := [vI 9, vI 0, vI x1]) (h' := h) f128_14 rfl ?_
    refine y_cI (pc' := 19) (as := [vI x1, vI 0, vI 9]) (r := []) f128_16 rfl (by omega) rfl ?_
    refine sp129 w (fun c => ?_) (fun c => ?_)
    · replace k := k.1 c
      refine y_ift (pcT := 25) f128_19 rfl rfl ?_
      refine y_s (pc' := 26) (L' := [some (vR (some 137)), some (vI x0), some (vI x1), none]) (st' := [vR (some 137)]) (h' := h) f128_25 rfl ?_
      refine y_gi (pc' := 29) f128_26 yf_8_114 rfl rfl (ys137 w) rfl ?_
      refine y_s (pc' := 31) (L' := [some (vR (some 137)), some (vI x0), some (vI x1), none]) (st' := [vI 6, vI (zV h 137 0)]) (h' := h) f128_29 rfl ?_
      refine y_ic (pcT := 37) (pc' := 34) (P := (zV h 137 0) ≠ 6) f128_31 rfl rfl rfl (fun c => ?_) (fun c => ?_)
      · replace k := k.1 c
        refine y_s (pc' := 38) (L' := [some (vR (some 137)), some (vI x0), some (vI x1), none]) (st' := [vR (some 137)]) (h' := h) f128_37 rfl ?_
        refine y_gr (pc' := 41) f128_38 yf_8_9 rfl rfl (ys137 w) (yp137_1 w) rfl ?_
        refine y_s (pc' := 42) (L' := [some (vR (some 137)), some (vI x0), some (vI x1), none]) (st' := [vR (some 137), vR (some 138)]) (h' := h) f128_41 rfl ?_
        refine y_gi (pc' := 45) f128_42 yf_8_114 rfl rfl (ys137 w) rfl ?_
        refine y_s (pc' := 46) (L' := [some (vR (some 137)), some (vI x0), some (vI x1), none]) (st' := [vI x0, vI (zV h 137 0), vR (some 138)]) (h' := h) f128_45 rfl ?_
        refine y_is (pc' := 47) (h' := (zsetV h 138 ((zV h 137 0)).toNat x0)) f128_46 (ys138 w) (by decide) k.1 rfl rfl ?_
        replace k := k.2
        refine y_s (pc' := 48) (L' := [some (vR (some 137)), some (vI x0), some (vI x1), none]) (st' := [vR (some 137)]) (h' := (zsetV h 138 ((zV h 137 0)).toNat x0)) f128_47 rfl ?_
        refine y_gr (pc' := 51) f128_48 yf_8_15 rfl rfl (ys137 w) (yp137_2 w) rfl ?_
        refine y_s (pc' := 52) (L' := [some (vR (some 137)), some (vI x0), some (vI x1), none]) (st' := [vR (some 137), vR (some 139)]) (h' := (zsetV h 138 ((zV h 137 0)).toNat x0)) f128_51 rfl ?_
        refine y_gi (pc' := 55) f128_52 yf_8_114 rfl rfl (ys137 w) rfl ?_
        refine y_s (pc' := 56) (L' := [some (vR (some 137)), some (vI x0), some (vI x1), none]) (st' := [vI x1, vI (zV (zsetV h 138 ((zV h 137 0)).toNat x0) 137 0), vR (some 139)]) (h' := (zsetV h 138 ((zV h 137 0)).toNat x0)) f128_55 rfl ?_
        refine y_is (pc' := 57) (h' := (zsetV (zsetV h 138 ((zV h 137 0)).toNat x0) 139 ((zV (zsetV h 138 ((zV h 137 0)).toNat x0) 137 0)).toNat x1)) f128_56 (ys139 w) (by decide) k.1 rfl rfl ?_
        replace k := k.2
        generalize e_57 : (zsetV (zsetV h 138 ((zV h 137 0)).toNat x0) 139 ((zV (zsetV h 138 ((zV h 137 0)).toNat x0) 137 0)).toNat x1) = h_57
        replace k := k _ e_57
        have w : yWF zl nl h_57 := by rw [← e_57]; exact w
        refine y_s (pc' := 58) (L' := [some (vR (some 137)), some (vI x0), some (vI x1), none]) (st' := [vR (some 137)]) (h' := h_57) f128_57 rfl ?_
        refine y_gr (pc' := 61) f128_58 yf_8_21 rfl rfl (ys137 w) (yp137_4 w) rfl ?_
        refine y_s (pc' := 62) (L' := [some (vR (some 137)), some (vI x0), some (vI x1), none]) (st' := [vR (some 137), vR (some 141)]) (h' := h_57) f128_61 rfl ?_
        refine y_gi (pc' := 65) f128_62 yf_8_114 rfl rfl (ys137 w) rfl ?_
        refine y_s (pc' := 66) (L' := [some (vR (some 137)), some (vI x0), some (vI x1), none]) (st' := [vI 0, vI (zV h_57 137 0), vR (some 141)]) (h' := h_57) f128_65 rfl ?_
        refine y_is (pc' := 67) (h' := (zsetV h_57 141 ((zV h_57 137 0)).toNat 0)) f128_66 (ys141 w) (by decide) k.1 rfl rfl ?_
        replace k := k.2
        refine y_s (pc' := 68) (L' := [some (vR (some 137)), some (vI x0), some (vI x1), none]) (st' := [vI 0]) (h' := (zsetV h_57 141 ((zV h_57 137 0)).toNat 0)) f128_67 rfl ?_
        refine y_sto (pc' := 69) (k := 3) (L' := [some (vR (some 137)), some (vI x0), some (vI x1), some (vI 0)]) f128_68 rfl rfl rfl rfl rfl rfl ?_
        exact k
      · replace k := k.2 c
        refine y_s (pc' := 36) (L' := [some (vR (some 137)), some (vI x0), some (vI x1), none]) (st' := [vI (-4)]) (h' := h) f128_34 rfl ?_
        exact y_ri f128_36 ⟨rfl, k⟩
    · replace k := k.2 c
      refine y_iff (pcT := 25) (pc' := 22) f128_19 rfl rfl rfl ?_
      refine y_s (pc' := 24) (L' := [some (vR (some 137)), some (vI x0), some (vI x1), none]) (st' := [vI (-2)]) (h' := h) f128_22 rfl ?_
      exact y_ri f128_24 ⟨rfl, k⟩
  · replace k := k.2 c
    refine y_iff (pcT := 12) (pc' := 10) f128_7 rfl rfl rfl ?_
    refine y_s (pc' := 11) (L' := [some (vR (some 137)), some (vI x0), some (vI x1), none]) (st' := [vI (-1)]) (h' := h) f128_10 rfl ?_
    exact y_ri f128_11 ⟨rfl, k⟩
theorem W128_69 {d : Nat} {K : Int → Hp → Prop} (w : yWF zl nl h) {l1 : Int} {l2 : Int} {l3 : Int} (k : ((6 ≤ l3 → ZW d prog_10_method_6_code 8 98 [some (vR (some 137)), some (vI l1), some (vI l2), some (vI 0)] [] h (yq 1 (yqI K))) ∧ (¬ (6 ≤ l3) → ((0 ≤ (zw ((zw (6 * (zV h 137 0))) + l3)) ∧ (zw ((zw (6 * (zV h 137 0))) + l3)) < 36) ∧ ZW d prog_10_method_6_code 8 69 [some (vR (some 137)), some (vI l1), some (vI l2), some (vI (zw (l3 + 1)))] [] (zsetV h 140 ((zw ((zw (6 * (zV h 137 0))) + l3))).toNat 0) (yq 1 (yqI K)))))) : ZW d prog_10_method_6_code 8 69 [some (vR (some 137)), some (vI l1), some (vI l2), some (vI l3)] [] h (yq 1 (yqI K)) := by
  refine y_s (pc' := 70) (L' := [some (vR (some 137)), some (vI l1), some (vI l2), some (vI l3)]) (st' := [vI l3]) (h' := h) f128_69 rfl ?_
  refine y_s (pc' := 72) (L' := [some (vR (some 137)), some (vI l1), some (vI l2), some (vI l3)]) (st' := [vI 6, vI l3]) (h' := h) f128_70 rfl ?_
  refine y_ic (pcT := 96) (pc' := 75) (P := 6 ≤ l3) f128_72 rfl rfl rfl (fun c => ?_) (fun c => ?_)
  · replace k := k.1 c
    refine y_s (pc' := 97) (L' := [some (vR (some 137)), some (vI l1), some (vI l2), some (vI l3)]) (st' := [vI 0]) (h' := h) f128_96 rfl ?_
    refine y_sto (pc' := 98) (k := 3) (L' := [some (vR (some 137)), some (vI l1), some (vI l2), some (vI 0)]) f128_97 rfl rfl rfl rfl rfl rfl ?_
    exact k
  · replace k := k.2 c
    refine y_s (pc' := 76) (L' := [some (vR (some 137)), some (vI l1), some (vI l2), some (vI l3)]) (st' := [vR (some 137)]) (h' := h) f128_75 rfl ?_
    refine y_gr (pc' := 79) f128_76 yf_8_18 rfl rfl (ys137 w) (yp137_3 w) rfl ?_
    refine y_s (pc' := 81) (L' := [some (vR (some 137)), some (vI l1), some (vI l2), some (vI l3)]) (st' := [vI 6, vR (some 140)]) (h' := h) f128_79 rfl ?_
    refine y_s (pc' := 82) (L' := [some (vR (some 137)), some (vI l1), some (vI l2), some (vI l3)]) (st' := [vR (some 137), vI 6, vR (some 140)]) (h' := h) f128_81 rfl ?_
    refine y_gi (pc' := 85) f128_82 yf_8_114 rfl rfl (ys137 w) rfl ?_
    refine y_s (pc' := 86) (L' := [some (vR (some 137)), some (vI l1), some (vI l2), some (vI l3)]) (st' := [vI (zw (6 * (zV h 137 0))), vR (some 140)]) (h' := h) f128_85 rfl ?_
    refine y_s (pc' := 87) (L' := [some (vR (some 137)), some (vI l1), some (vI l2), some (vI l3)]) (st' := [vI l3, vI (zw (6 * (zV h 137 0))), vR (some 140)]) (h' := h) f128_86 rfl ?_
    refine y_s (pc' := 88) (L' := [some (vR (some 137)), some (vI l1), some (vI l2), some (vI l3)]) (st' := [vI (zw ((zw (6 * (zV h 137 0))) + l3)), vR (some 140)]) (h' := h) f128_87 rfl ?_
    refine y_s (pc' := 89) (L' := [some (vR (some 137)), some (vI l1), some (vI l2), some (vI l3)]) (st' := [vI 0, vI (zw ((zw (6 * (zV h 137 0))) + l3)), vR (some 140)]) (h' := h) f128_88 rfl ?_
    refine y_is (pc' := 90) (h' := (zsetV h 140 ((zw ((zw (6 * (zV h 137 0))) + l3))).toNat 0)) f128_89 (ys140 w) (by decide) k.1 rfl rfl ?_
    replace k := k.2
    refine y_inc (pc' := 93) (L' := [some (vR (some 137)), some (vI l1), some (vI l2), some (vI (zw (l3 + 1)))]) f128_90 rfl rfl rfl rfl ?_
    refine y_go (pc' := 69) f128_93 rfl ?_
    exact k
theorem W128_98 {d : Nat} {K : Int → Hp → Prop} (w : yWF zl nl h) {l1 : Int} {l2 : Int} {l3 : Int} (k : ((4 ≤ l3 → K (zV h 137 0) (zsetV h 137 0 (zw ((zV h 137 0) + 1)))) ∧ (¬ (4 ≤ l3) → ((0 ≤ (zw ((zw (4 * (zV h 137 0))) + l3)) ∧ (zw ((zw (4 * (zV h 137 0))) + l3)) < 24) ∧ ZW d prog_10_method_6_code 8 98 [some (vR (some 137)), some (vI l1), some (vI l2), some (vI (zw (l3 + 1)))] [] (zsetV h 142 ((zw ((zw (4 * (zV h 137 0))) + l3))).toNat 0) (yq 1 (yqI K)))))) : ZW d prog_10_method_6_code 8 98 [some (vR (some 137)), some (vI l1), some (vI l2), some (vI l3)] [] h (yq 1 (yqI K)) := by
  refine y_s (pc' := 99) (L' := [some (vR (some 137)), some (vI l1), some (vI l2), some (vI l3)]) (st' := [vI l3]) (h' := h) f128_98 rfl ?_
  refine y_s (pc' := 100) (L' := [some (vR (some 137)), some (vI l1), some (vI l2), some (vI l3)]) (st' := [vI 4, vI l3]) (h' := h) f128_99 rfl ?_
  refine y_ic (pcT := 123) (pc' := 103) (P := 4 ≤ l3) f128_100 rfl rfl rfl (fun c => ?_) (fun c => ?_)
  · replace k := k.1 c
    refine y_s (pc' := 124) (L' := [some (vR (some 137)), some (vI l1), some (vI l2), some (vI l3)]) (st' := [vR (some 137)]) (h' := h) f128_123 rfl ?_
    refine y_s (pc' := 125) (L' := [some (vR (some 137)), some (vI l1), some (vI l2), some (vI l3)]) (st' := [vR (some 137), vR (some 137)]) (h' := h) f128_124 rfl ?_
    refine y_gi (pc' := 128) f128_125 yf_8_114 rfl rfl (ys137 w) rfl ?_
    refine y_s (pc' := 129) (L' := [some (vR (some 137)), some (vI l1), some (vI l2), some (vI l3)]) (st' := [vI (zV h 137 0), vR (some 137), vI (zV h 137 0)]) (h' := h) f128_128 rfl ?_
    refine y_s (pc' := 130) (L' := [some (vR (some 137)), some (vI l1), some (vI l2), some (vI l3)]) (st' := [vI 1, vI (zV h 137 0), vR (some 137), vI (zV h 137 0)]) (h' := h) f128_129 rfl ?_
    refine y_s (pc' := 131) (L' := [some (vR (some 137)), some (vI l1), some (vI l2), some (vI l3)]) (st' := [vI (zw ((zV h 137 0) + 1)), vR (some 137), vI (zV h 137 0)]) (h' := h) f128_130 rfl ?_
    refine y_pi (pc' := 134) f128_131 yf_8_114 rfl rfl (ys137 w) (by decide) (Or.inl rfl) rfl ?_
    exact y_ri f128_134 ⟨rfl, k⟩
  · replace k := k.2 c
    refine y_s (pc' := 104) (L' := [some (vR (some 137)), some (vI l1), some (vI l2), some (vI l3)]) (st' := [vR (some 137)]) (h' := h) f128_103 rfl ?_
    refine y_gr (pc' := 107) f128_104 yf_8_24 rfl rfl (ys137 w) (yp137_5 w) rfl ?_
    refine y_s (pc' := 108) (L' := [some (vR (some 137)), some (vI l1), some (vI l2), some (vI l3)]) (st' := [vI 4, vR (some 142)]) (h' := h) f128_107 rfl ?_
    refine y_s (pc' := 109) (L' := [some (vR (some 137)), some (vI l1), some (vI l2), some (vI l3)]) (st' := [vR (some 137), vI 4, vR (some 142)]) (h' := h) f128_108 rfl ?_
    refine y_gi (pc' := 112) f128_109 yf_8_114 rfl rfl (ys137 w) rfl ?_
    refine y_s (pc' := 113) (L' := [some (vR (some 137)), some (vI l1), some (vI l2), some (vI l3)]) (st' := [vI (zw (4 * (zV h 137 0))), vR (some 142)]) (h' := h) f128_112 rfl ?_
    refine y_s (pc' := 114) (L' := [some (vR (some 137)), some (vI l1), some (vI l2), some (vI l3)]) (st' := [vI l3, vI (zw (4 * (zV h 137 0))), vR (some 142)]) (h' := h) f128_113 rfl ?_
    refine y_s (pc' := 115) (L' := [some (vR (some 137)), some (vI l1), some (vI l2), some (vI l3)]) (st' := [vI (zw ((zw (4 * (zV h 137 0))) + l3)), vR (some 142)]) (h' := h) f128_114 rfl ?_
    refine y_s (pc' := 116) (L' := [some (vR (some 137)), some (vI l1), some (vI l2), some (vI l3)]) (st' := [vI 0, vI (zw ((zw (4 * (zV h 137 0))) + l3)), vR (some 142)]) (h' := h) f128_115 rfl ?_
    refine y_is (pc' := 117) (h' := (zsetV h 142 ((zw ((zw (4 * (zV h 137 0))) + l3))).toNat 0)) f128_116 (ys142 w) (by decide) k.1 rfl rfl ?_
    replace k := k.2
    refine y_inc (pc' := 120) (L' := [some (vR (some 137)), some (vI l1), some (vI l2), some (vI (zw (l3 + 1)))]) f128_117 rfl rfl rfl rfl ?_
    refine y_go (pc' := 98) f128_120 rfl ?_
    exact k
/-- HatterTunesModel.pitch(II)I -/
theorem E134 {d : Nat} {K : Int → Hp → Prop} (w : yWF zl nl h) {x0 : Int} {x1 : Int} (hd : 1 ≤ d) (k : yI (d - 1) 135 [vR (some 137), vI x0, vI x1] h (fun x h' => ZW d prog_10_method_28_code 8 6 [some (vR (some 137)), some (vI x0), some (vI x1), none, none] [vI x] h' (yq 1 (yqI K)))) : yI d 134 [vR (some 137), vI x0, vI x1] h K := by
  refine y_en (L := [some (vR (some 137)), some (vI x0), some (vI x1), none, none]) rfl rfl ?_
  refine y_s (pc' := 1) (L' := [some (vR (some 137)), some (vI x0), some (vI x1), none, none]) (st' := [vR (some 137)]) (h' := h) f134_0 rfl ?_
  refine y_s (pc' := 2) (L' := [some (vR (some 137)), some (vI x0), some (vI x1), none, none]) (st' := [vI x0, vR (some 137)]) (h' := h) f134_1 rfl ?_
  refine y_s (pc' := 3) (L' := [some (vR (some 137)), some (vI x0), some (vI x1), none, none]) (st' := [vI x1, vI x0, vR (some 137)]) (h' := h) f134_2 rfl ?_
  refine y_cI (pc' := 6) (as := [vR (some 137), vI x0, vI x1]) (r := []) f134_3 (yzv ym_8_245 rfl (ys137 w) rfl rfl) (by omega) rfl ?_
  exact k
theorem W134_6 {d : Nat} {K : Int → Hp → Prop} (w : yWF zl nl h) {l1 : Int} {l2 : Int} {s0 : Int} (hd : 1 ≤ d) (k : ((0 ≤ l1 ∧ l1 < 6) ∧ ((l2 ≠ (zV h 139 (l1).toNat) → ((0 ≤ l1 ∧ l1 < 6) ∧ (((zV h 138 (l1).toNat) = 1 → ((0 ≤ l1 ∧ l1 < 6) ∧ K (zw (s0 + (zV h 139 (l1).toNat))) h)) ∧ ((zV h 138 (l1).toNat) = 2 → K (zdiv s0 2) h) ∧ ((zV h 138 (l1).toNat) = 3 → K s0 h) ∧ ((zV h 138 (l1).toNat) = 4 → (((zrem l2 2) ≠ 1 → ((0 ≤ l1 ∧ l1 < 6) ∧ K (zw (s0 + (zV h 139 (l1).toNat))) h)) ∧ (¬ ((zrem l2 2) ≠ 1) → ((0 ≤ l1 ∧ l1 < 6) ∧ K (zw (2 * (zw (s0 + (zV h 139 (l1).toNat))))) h)))) ∧ ((zV h 138 (l1).toNat) = 5 → ((0 ≤ l1 ∧ l1 < 6) ∧ K (zw ((zdiv s0 2) + (ymin 9 (zV h 141 (l1).toNat)))) h)) ∧ ((zV h 138 (l1).toNat) = 6 → ((0 ≤ (zw ((zw (4 * l1)) + (zrem (zV h 137 8) 4))) ∧ (zw ((zw (4 * l1)) + (zrem (zV h 137 8) 4))) < 24) ∧ K (zw (s0 + (zV h 142 ((zw ((zw (4 * l1)) + (zrem (zV h 137 8) 4)))).toNat))) h)) ∧ ((zV h 138 (l1).toNat) < 1 ∨ 6 < (zV h 138 (l1).toNat) → K s0 h)))) ∧ (¬ (l2 ≠ (zV h 139 (l1).toNat)) → ((0 ≤ l1 ∧ l1 < 6) ∧ (((zV h 138 (l1).toNat) = 1 → ((0 ≤ l1 ∧ l1 < 6) ∧ K (zw (s0 + (zV h 139 (l1).toNat))) h)) ∧ ((zV h 138 (l1).toNat) = 2 → K (zdiv s0 2) h) ∧ ((zV h 138 (l1).toNat) = 3 → K 0 h) ∧ ((zV h 138 (l1).toNat) = 4 → (((zrem l2 2) ≠ 1 → ((0 ≤ l1 ∧ l1 < 6) ∧ K (zw (s0 + (zV h 139 (l1).toNat))) h)) ∧ (¬ ((zrem l2 2) ≠ 1) → ((0 ≤ l1 ∧ l1 < 6) ∧ K (zw (2 * (zw (s0 + (zV h 139 (l1).toNat))))) h)))) ∧ ((zV h 138 (l1).toNat) = 5 → ((0 ≤ l1 ∧ l1 < 6) ∧ K (zw ((zdiv s0 2) + (ymin 9 (zV h 141 (l1).toNat)))) h)) ∧ ((zV h 138 (l1).toNat) = 6 → ((0 ≤ (zw ((zw (4 * l1)) + (zrem (zV h 137 8) 4))) ∧ (zw ((zw (4 * l1)) + (zrem (zV h 137 8) 4))) < 24) ∧ K (zw (0 + (zV h 142 ((zw ((zw (4 * l1)) + (zrem (zV h 137 8) 4)))).toNat))) h)) ∧ ((zV h 138 (l1).toNat) < 1 ∨ 6 < (zV h 138 (l1).toNat) → K s0 h))))))) : ZW d prog_10_method_28_code 8 6 [some (vR (some 137)), some (vI l1), some (vI l2), none, none] [vI s0] h (yq 1 (yqI K)) := by
  refine y_sto (pc' := 7) (k := 3) (L' := [some (vR (some 137)), some (vI l1), some (vI l2), some (vI s0), none]) f134_6 rfl rfl rfl rfl rfl rfl ?_
  refine y_s (pc' := 8) (L' := [some (vR (some 137)), some (vI l1), some (vI l2), some (vI s0), none]) (st' := [vI l2]) (h' := h) f134_7 rfl ?_
  refine y_s (pc' := 9) (L' := [some (vR (some 137)), some (vI l1), some (vI l2), some (vI s0), none]) (st' := [vR (some 137), vI l2]) (h' := h) f134_8 rfl ?_
  refine y_gr (pc' := 12) f134_9 yf_8_15 rfl rfl (ys137 w) (yp137_2 w) rfl ?_
  refine y_s (pc' := 13) (L' := [some (vR (some 137)), some (vI l1), some (vI l2), some (vI s0), none]) (st' := [vI l1, vR (some 139), vI l2]) (h' := h) f134_12 rfl ?_
  refine y_ia (pc' := 14) (x := (zV h 139 (l1).toNat)) f134_13 (ys139 w) k.1 rfl rfl ?_
  replace k := k.2
  refine y_ic (pcT := 21) (pc' := 17) (P := l2 ≠ (zV h 139 (l1).toNat)) f134_14 rfl rfl rfl (fun c => ?_) (fun c => ?_)
  · replace k := k.1 c
    refine y_s (pc' := 22) (L' := [some (vR (some 137)), some (vI l1), some (vI l2), some (vI s0), none]) (st' := [vI s0]) (h' := h) f134_21 rfl ?_
    refine y_sto (pc' := 24) (k := 4) (L' := [some (vR (some 137)), some (vI l1), some (vI l2), some (vI s0), some (vI s0)]) f134_22 rfl rfl rfl rfl rfl rfl ?_
    refine y_s (pc' := 25) (L' := [some (vR (some 137)), some (vI l1), some (vI l2), some (vI s0), some (vI s0)]) (st' := [vR (some 137)]) (h' := h) f134_24 rfl ?_
    refine y_gr (pc' := 28) f134_25 yf_8_9 rfl rfl (ys137 w) (yp137_1 w) rfl ?_
    refine y_s (pc' := 29) (L' := [some (vR (some 137)), some (vI l1), some (vI l2), some (vI s0), some (vI s0)]) (st' := [vI l1, vR (some 138)]) (h' := h) f134_28 rfl ?_
    refine y_ia (pc' := 30) (x := (zV h 138 (l1).toNat)) f134_29 (ys138 w) k.1 rfl rfl ?_
    replace k := k.2
    by_cases c : (zV h 138 (l1).toNat) = 1
    · refine y_tc (pc' := 68) (v := 1) f134_30 c rfl rfl rfl ?_
      replace k := k.1 c
      refine y_s (pc' := 69) (L' := [some (vR (some 137)), some (vI l1), some (vI l2), some (vI s0), some (vI s0)]) (st' := [vI s0]) (h' := h) f134_68 rfl ?_
      refine y_s (pc' := 70) (L' := [some (vR (some 137)), some (vI l1), some (vI l2), some (vI s0), some (vI s0)]) (st' := [vR (some 137), vI s0]) (h' := h) f134_69 rfl ?_
      refine y_gr (pc' := 73) f134_70 yf_8_15 rfl rfl (ys137 w) (yp137_2 w) rfl ?_
      refine y_s (pc' := 74) (L' := [some (vR (some 137)), some (vI l1), some (vI l2), some (vI s0), some (vI s0)]) (st' := [vI l1, vR (some 139), vI s0]) (h' := h) f134_73 rfl ?_
      refine y_ia (pc' := 75) (x := (zV h 139 (l1).toNat)) f134_74 (ys139 w) k.1 rfl rfl ?_
      replace k := k.2
      refine y_s (pc' := 76) (L' := [some (vR (some 137)), some (vI l1), some (vI l2), some (vI s0), some (vI s0)]) (st' := [vI (zw (s0 + (zV h 139 (l1).toNat)))]) (h' := h) f134_75 rfl ?_
      exact y_ri f134_76 ⟨rfl, k⟩
    replace k := k.2
    have c0 := c
    by_cases c : (zV h 138 (l1).toNat) = 2
    · refine y_tc (pc' := 77) (v := 2) f134_30 c rfl rfl rfl ?_
      replace k := k.1 c
      refine y_s (pc' := 78) (L' := [some (vR (some 137)), some (vI l1), some (vI l2), some (vI s0), some (vI s0)]) (st' := [vI s0]) (h' := h) f134_77 rfl ?_
      refine y_s (pc' := 79) (L' := [some (vR (some 137)), some (vI l1), some (vI l2), some (vI s0), some (vI s0)]) (st' := [vI 2, vI s0]) (h' := h) f134_78 rfl ?_
      refine y_dv (pc' := 80) f134_79 (by decide) rfl ?_
      exact y_ri f134_80 ⟨rfl, k⟩
    replace k := k.2
    have c1 := c
    by_cases c : (zV h 138 (l1).toNat) = 3
    · refine y_tc (pc' := 81) (v := 3) f134_30 c rfl rfl rfl ?_
      replace k := k.1 c
      refine y_s (pc' := 83) (L' := [some (vR (some 137)), some (vI l1), some (vI l2), some (vI s0), some (vI s0)]) (st' := [vI s0]) (h' := h) f134_81 rfl ?_
      exact y_ri f134_83 ⟨rfl, k⟩
    replace k := k.2
    have c2 := c
    by_cases c : (zV h 138 (l1).toNat) = 4
    · refine y_tc (pc' := 84) (v := 4) f134_30 c rfl rfl rfl ?_
      replace k := k.1 c
      refine y_s (pc' := 85) (L' := [some (vR (some 137)), some (vI l1), some (vI l2), some (vI s0), some (vI s0)]) (st' := [vI l2]) (h' := h) f134_84 rfl ?_
      refine y_s (pc' := 86) (L' := [some (vR (some 137)), some (vI l1), some (vI l2), some (vI s0), some (vI s0)]) (st' := [vI 2, vI l2]) (h' := h) f134_85 rfl ?_
      refine y_rm (pc' := 87) f134_86 (by decide) rfl ?_
      refine y_s (pc' := 88) (L' := [some (vR (some 137)), some (vI l1), some (vI l2), some (vI s0), some (vI s0)]) (st' := [vI 1, vI (zrem l2 2)]) (h' := h) f134_87 rfl ?_
      refine y_ic (pcT := 104) (pc' := 91) (P := (zrem l2 2) ≠ 1) f134_88 rfl rfl rfl (fun c => ?_) (fun c => ?_)
      · replace k := k.1 c
        refine y_s (pc' := 105) (L' := [some (vR (some 137)), some (vI l1), some (vI l2), some (vI s0), some (vI s0)]) (st' := [vI s0]) (h' := h) f134_104 rfl ?_
        refine y_s (pc' := 106) (L' := [some (vR (some 137)), some (vI l1), some (vI l2), some (vI s0), some (vI s0)]) (st' := [vR (some 137), vI s0]) (h' := h) f134_105 rfl ?_
        refine y_gr (pc' := 109) f134_106 yf_8_15 rfl rfl (ys137 w) (yp137_2 w) rfl ?_
        refine y_s (pc' := 110) (L' := [some (vR (some 137)), some (vI l1), some (vI l2), some (vI s0), some (vI s0)]) (st' := [vI l1, vR (some 139), vI s0]) (h' := h) f134_109 rfl ?_
        refine y_ia (pc' := 111) (x := (zV h 139 (l1).toNat)) f134_110 (ys139 w) k.1 rfl rfl ?_
        replace k := k.2
        refine y_s (pc' := 112) (L' := [some (vR (some 137)), some (vI l1), some (vI l2), some (vI s0), some (vI s0)]) (st' := [vI (zw (s0 + (zV h 139 (l1).toNat)))]) (h' := h) f134_111 rfl ?_
        exact y_ri f134_112 ⟨rfl, k⟩
      · replace k := k.2 c
        refine y_s (pc' := 92) (L' := [some (vR (some 137)), some (vI l1), some (vI l2), some (vI s0), some (vI s0)]) (st' := [vI 2]) (h' := h) f134_91 rfl ?_
        refine y_s (pc' := 93) (L' := [some (vR (some 137)), some (vI l1), some (vI l2), some (vI s0), some (vI s0)]) (st' := [vI s0, vI 2]) (h' := h) f134_92 rfl ?_
        refine y_s (pc' := 94) (L' := [some (vR (some 137)), some (vI l1), some (vI l2), some (vI s0), some (vI s0)]) (st' := [vR (some 137), vI s0, vI 2]) (h' := h) f134_93 rfl ?_
        refine y_gr (pc' := 97) f134_94 yf_8_15 rfl rfl (ys137 w) (yp137_2 w) rfl ?_
        refine y_s (pc' := 98) (L' := [some (vR (some 137)), some (vI l1), some (vI l2), some (vI s0), some (vI s0)]) (st' := [vI l1, vR (some 139), vI s0, vI 2]) (h' := h) f134_97 rfl ?_
        refine y_ia (pc' := 99) (x := (zV h 139 (l1).toNat)) f134_98 (ys139 w) k.1 rfl rfl ?_
        replace k := k.2
        refine y_s (pc' := 100) (L' := [some (vR (some 137)), some (vI l1), some (vI l2), some (vI s0), some (vI s0)]) (st' := [vI (zw (s0 + (zV h 139 (l1).toNat))), vI 2]) (h' := h) f134_99 rfl ?_
        refine y_s (pc' := 101) (L' := [some (vR (some 137)), some (vI l1), some (vI l2), some (vI s0), some (vI s0)]) (st' := [vI (zw (2 * (zw (s0 + (zV h 139 (l1).toNat)))))]) (h' := h) f134_100 rfl ?_
        refine y_go (pc' := 112) f134_101 rfl ?_
        exact y_ri f134_112 ⟨rfl, k⟩
    replace k := k.2
    have c3 := c
    by_cases c : (zV h 138 (l1).toNat) = 5
    · refine y_tc (pc' := 113) (v := 5) f134_30 c rfl rfl rfl ?_
      replace k := k.1 c
      refine y_s (pc' := 114) (L' := [some (vR (some 137)), some (vI l1), some (vI l2), some (vI s0), some (vI s0)]) (st' := [vI s0]) (h' := h) f134_113 rfl ?_
      refine y_s (pc' := 115) (L' := [some (vR (some 137)), some (vI l1), some (vI l2), some (vI s0), some (vI s0)]) (st' := [vI 2, vI s0]) (h' := h) f134_114 rfl ?_
      refine y_dv (pc' := 116) f134_115 (by decide) rfl ?_
      refine y_s (pc' := 118) (L' := [some (vR (some 137)), some (vI l1), some (vI l2), some (vI s0), some (vI s0)]) (st' := [vI 9, vI (zdiv s0 2)]) (h' := h) f134_116 rfl ?_
      refine y_s (pc' := 119) (L' := [some (vR (some 137)), some (vI l1), some (vI l2), some (vI s0), some (vI s0)]) (st' := [vR (some 137), vI 9, vI (zdiv s0 2)]) (h' := h) f134_118 rfl ?_
      refine y_gr (pc' := 122) f134_119 yf_8_21 rfl rfl (ys137 w) (yp137_4 w) rfl ?_
      refine y_s (pc' := 123) (L' := [some (vR (some 137)), some (vI l1), some (vI l2), some (vI s0), some (vI s0)]) (st' := [vI l1, vR (some 141), vI 9, vI (zdiv s0 2)]) (h' := h) f134_122 rfl ?_
      refine y_ia (pc' := 124) (x := (zV h 141 (l1).toNat)) f134_123 (ys141 w) k.1 rfl rfl ?_
      replace k := k.2
      refine y_mn (pc' := 127) f134_124 ym_8_248 (by omega) rfl rfl ?_
      refine y_s (pc' := 128) (L' := [some (vR (some 137)), some (vI l1), some (vI l2), some (vI s0), some (vI s0)]) (st' := [vI (zw ((zdiv s0 2) + (ymin 9 (zV h 141 (l1).toNat))))]) (h' := h) f134_127 rfl ?_
      exact y_ri f134_128 ⟨rfl, k⟩
    replace k := k.2
    have c4 := c
    by_cases c : (zV h 138 (l1).toNat) = 6
    · refine y_tc (pc' := 129) (v := 6) f134_30 c rfl rfl rfl ?_
      replace k := k.1 c
      refine y_s (pc' := 131) (L' := [some (vR (some 137)), some (vI l1), some (vI l2), some (vI s0), some (vI s0)]) (st' := [vI s0]) (h' := h) f134_129 rfl ?_
      refine y_s (pc' := 132) (L' := [some (vR (some 137)), some (vI l1), some (vI l2), some (vI s0), some (vI s0)]) (st' := [vR (some 137), vI s0]) (h' := h) f134_131 rfl ?_
      refine y_gr (pc' := 135) f134_132 yf_8_24 rfl rfl (ys137 w) (yp137_5 w) rfl ?_
      refine y_s (pc' := 136) (L' := [some (vR (some 137)), some (vI l1), some (vI l2), some (vI s0), some (vI s0)]) (st' := [vI 4, vR (some 142), vI s0]) (h' := h) f134_135 rfl ?_
      refine y_s (pc' := 137) (L' := [some (vR (some 137)), some (vI l1), some (vI l2), some (vI s0), some (vI s0)]) (st' := [vI l1, vI 4, vR (some 142), vI s0]) (h' := h) f134_136 rfl ?_
      refine y_s (pc' := 138) (L' := [some (vR (some 137)), some (vI l1), some (vI l2), some (vI s0), some (vI s0)]) (st' := [vI (zw (4 * l1)), vR (some 142), vI s0]) (h' := h) f134_137 rfl ?_
      refine y_s (pc' := 139) (L' := [some (vR (some 137)), some (vI l1), some (vI l2), some (vI s0), some (vI s0)]) (st' := [vR (some 137), vI (zw (4 * l1)), vR (some 142), vI s0]) (h' := h) f134_138 rfl ?_
      refine y_gi (pc' := 142) f134_139 yf_8_235 rfl rfl (ys137 w) rfl ?_
      refine y_s (pc' := 143) (L' := [some (vR (some 137)), some (vI l1), some (vI l2), some (vI s0), some (vI s0)]) (st' := [vI 4, vI (zV h 137 8), vI (zw (4 * l1)), vR (some 142), vI s0]) (h' := h) f134_142 rfl ?_
      refine y_rm (pc' := 144) f134_143 (by decide) rfl ?_
      refine y_s (pc' := 145) (L' := [some (vR (some 137)), some (vI l1), some (vI l2), some (vI s0), some (vI s0)]) (st' := [vI (zw ((zw (4 * l1)) + (zrem (zV h 137 8) 4))), vR (some 142), vI s0]) (h' := h) f134_144 rfl ?_
      refine y_ia (pc' := 146) (x := (zV h 142 ((zw ((zw (4 * l1)) + (zrem (zV h 137 8) 4)))).toNat)) f134_145 (ys142 w) k.1 rfl rfl ?_
      replace k := k.2
      refine y_s (pc' := 147) (L' := [some (vR (some 137)), some (vI l1), some (vI l2), some (vI s0), some (vI s0)]) (st' := [vI (zw (s0 + (zV h 142 ((zw ((zw (4 * l1)) + (zrem (zV h 137 8) 4)))).toNat)))]) (h' := h) f134_146 rfl ?_
      exact y_ri f134_147 ⟨rfl, k⟩
    replace k := k.2
    have c5 := c
    have cc : (zV h 138 (l1).toNat) < 1 ∨ 6 < (zV h 138 (l1).toNat) := by omega
    refine y_td (pc' := 148) f134_30 cc rfl ?_
    replace k := k cc
    refine y_s (pc' := 149) (L' := [some (vR (some 137)), some (vI l1), some (vI l2), some (vI s0), some (vI s0)]) (st' := [vI s0]) (h' := h) f134_148 rfl ?_
    exact y_ri f134_149 ⟨rfl, k⟩
  · replace k := k.2 c
    refine y_s (pc' := 18) (L' := [some (vR (some 137)), some (vI l1), some (vI l2), some (vI s0), none]) (st' := [vI 0]) (h' := h) f134_17 rfl ?_
    refine y_go (pc' := 22) f134_18 rfl ?_
    refine y_sto (pc' := 24) (k := 4) (L' := [some (vR (some 137)), some (vI l1), some (vI l2), some (vI s0), some (vI 0)]) f134_22 rfl rfl rfl rfl rfl rfl ?_
    refine y_s (pc' := 25) (L' := [some (vR (some 137)), some (vI l1), some (vI l2), some (vI s0), some (vI 0)]) (st' := [vR (some 137)]) (h' := h) f134_24 rfl ?_
    refine y_gr (pc' := 28) f134_25 yf_8_9 rfl rfl (ys137 w) (yp137_1 w) rfl ?_
    refine y_s (pc' := 29) (L' := [some (vR (some 137)), some (vI l1), some (vI l2), some (vI s0), some (vI 0)]) (st' := [vI l1, vR (some 138)]) (h' := h) f134_28 rfl ?_
    refine y_ia (pc' := 30) (x := (zV h 138 (l1).toNat)) f134_29 (ys138 w) k.1 rfl rfl ?_
    replace k := k.2
    by_cases c : (zV h 138 (l1).toNat) = 1
    · refine y_tc (pc' := 68) (v := 1) f134_30 c rfl rfl rfl ?_
      replace k := k.1 c
      refine y_s (pc' := 69) (L' := [some (vR (some 137)), some (vI l1), some (vI l2), some (vI s0), some (vI 0)]) (st' := [vI s0]) (h' := h) f134_68 rfl ?_
      refine y_s (pc' := 70) (L' := [some (vR (some 137)), some (vI l1), some (vI l2), some (vI s0), some (vI 0)]) (st' := [vR (some 137), vI s0]) (h' := h) f134_69 rfl ?_
      refine y_gr (pc' := 73) f134_70 yf_8_15 rfl rfl (ys137 w) (yp137_2 w) rfl ?_
      refine y_s (pc' := 74) (L' := [some (vR (some 137)), some (vI l1), some (vI l2), some (vI s0), some (vI 0)]) (st' := [vI l1, vR (some 139), vI s0]) (h' := h) f134_73 rfl ?_
      refine y_ia (pc' := 75) (x := (zV h 139 (l1).toNat)) f134_74 (ys139 w) k.1 rfl rfl ?_
      replace k := k.2
      refine y_s (pc' := 76) (L' := [some (vR (some 137)), some (vI l1), some (vI l2), some (vI s0), some (vI 0)]) (st' := [vI (zw (s0 + (zV h 139 (l1).toNat)))]) (h' := h) f134_75 rfl ?_
      exact y_ri f134_76 ⟨rfl, k⟩
    replace k := k.2
    have c0 := c
    by_cases c : (zV h 138 (l1).toNat) = 2
    · refine y_tc (pc' := 77) (v := 2) f134_30 c rfl rfl rfl ?_
      replace k := k.1 c
      refine y_s (pc' := 78) (L' := [some (vR (some 137)), some (vI l1), some (vI l2), some (vI s0), some (vI 0)]) (st' := [vI s0]) (h' := h) f134_77 rfl ?_
      refine y_s (pc' := 79) (L' := [some (vR (some 137)), some (vI l1), some (vI l2), some (vI s0), some (vI 0)]) (st' := [vI 2, vI s0]) (h' := h) f134_78 rfl ?_
      refine y_dv (pc' := 80) f134_79 (by decide) rfl ?_
      exact y_ri f134_80 ⟨rfl, k⟩
    replace k := k.2
    have c1 := c
    by_cases c : (zV h 138 (l1).toNat) = 3
    · refine y_tc (pc' := 81) (v := 3) f134_30 c rfl rfl rfl ?_
      replace k := k.1 c
      refine y_s (pc' := 83) (L' := [some (vR (some 137)), some (vI l1), some (vI l2), some (vI s0), some (vI 0)]) (st' := [vI 0]) (h' := h) f134_81 rfl ?_
      exact y_ri f134_83 ⟨rfl, k⟩
    replace k := k.2
    have c2 := c
    by_cases c : (zV h 138 (l1).toNat) = 4
    · refine y_tc (pc' := 84) (v := 4) f134_30 c rfl rfl rfl ?_
      replace k := k.1 c
      refine y_s (pc' := 85) (L' := [some (vR (some 137)), some (vI l1), some (vI l2), some (vI s0), some (vI 0)]) (st' := [vI l2]) (h' := h) f134_84 rfl ?_
      refine y_s (pc' := 86) (L' := [some (vR (some 137)), some (vI l1), some (vI l2), some (vI s0), some (vI 0)]) (st' := [vI 2, vI l2]) (h' := h) f134_85 rfl ?_
      refine y_rm (pc' := 87) f134_86 (by decide) rfl ?_
      refine y_s (pc' := 88) (L' := [some (vR (some 137)), some (vI l1), some (vI l2), some (vI s0), some (vI 0)]) (st' := [vI 1, vI (zrem l2 2)]) (h' := h) f134_87 rfl ?_
      refine y_ic (pcT := 104) (pc' := 91) (P := (zrem l2 2) ≠ 1) f134_88 rfl rfl rfl (fun c => ?_) (fun c => ?_)
      · replace k := k.1 c
        refine y_s (pc' := 105) (L' := [some (vR (some 137)), some (vI l1), some (vI l2), some (vI s0), some (vI 0)]) (st' := [vI s0]) (h' := h) f134_104 rfl ?_
        refine y_s (pc' := 106) (L' := [some (vR (some 137)), some (vI l1), some (vI l2), some (vI s0), some (vI 0)]) (st' := [vR (some 137), vI s0]) (h' := h) f134_105 rfl ?_
        refine y_gr (pc' := 109) f134_106 yf_8_15 rfl rfl (ys137 w) (yp137_2 w) rfl ?_
        refine y_s (pc' := 110) (L' := [some (vR (some 137)), some (vI l1), some (vI l2), some (vI s0), some (vI 0)]) (st' := [vI l1, vR (some 139), vI s0]) (h' := h) f134_109 rfl ?_
        refine y_ia (pc' := 111) (x := (zV h 139 (l1).toNat)) f134_110 (ys139 w) k.1 rfl rfl ?_
        replace k := k.2
        refine y_s (pc' := 112) (L' := [some (vR (some 137)), some (vI l1), some (vI l2), some (vI s0), some (vI 0)]) (st' := [vI (zw (s0 + (zV h 139 (l1).toNat)))]) (h' := h) f134_111 rfl ?_
        exact y_ri f134_112 ⟨rfl, k⟩
      · replace k := k.2 c
        refine y_s (pc' := 92) (L' := [some (vR (some 137)), some (vI l1), some (vI l2), some (vI s0), some (vI 0)]) (st' := [vI 2]) (h' := h) f134_91 rfl ?_
        refine y_s (pc' := 93) (L' := [some (vR (some 137)), some (vI l1), some (vI l2), some (vI s0), some (vI 0)]) (st' := [vI s0, vI 2]) (h' := h) f134_92 rfl ?_
        refine y_s (pc' := 94) (L' := [some (vR (some 137)), some (vI l1), some (vI l2), some (vI s0), some (vI 0)]) (st' := [vR (some 137), vI s0, vI 2]) (h' := h) f134_93 rfl ?_
        refine y_gr (pc' := 97) f134_94 yf_8_15 rfl rfl (ys137 w) (yp137_2 w) rfl ?_
        refine y_s (pc' := 98) (L' := [some (vR (some 137)), some (vI l1), some (vI l2), some (vI s0), some (vI 0)]) (st' := [vI l1, vR (some 139), vI s0, vI 2]) (h' := h) f134_97 rfl ?_
        refine y_ia (pc' := 99) (x := (zV h 139 (l1).toNat)) f134_98 (ys139 w) k.1 rfl rfl ?_
        replace k := k.2
        refine y_s (pc' := 100) (L' := [some (vR (some 137)), some (vI l1), some (vI l2), some (vI s0), some (vI 0)]) (st' := [vI (zw (s0 + (zV h 139 (l1).toNat))), vI 2]) (h' := h) f134_99 rfl ?_
        refine y_s (pc' := 101) (L' := [some (vR (some 137)), some (vI l1), some (vI l2), some (vI s0), some (vI 0)]) (st' := [vI (zw (2 * (zw (s0 + (zV h 139 (l1).toNat)))))]) (h' := h) f134_100 rfl ?_
        refine y_go (pc' := 112) f134_101 rfl ?_
        exact y_ri f134_112 ⟨rfl, k⟩
    replace k := k.2
    have c3 := c
    by_cases c : (zV h 138 (l1).toNat) = 5
    · refine y_tc (pc' := 113) (v := 5) f134_30 c rfl rfl rfl ?_
      replace k := k.1 c
      refine y_s (pc' := 114) (L' := [some (vR (some 137)), some (vI l1), some (vI l2), some (vI s0), some (vI 0)]) (st' := [vI s0]) (h' := h) f134_113 rfl ?_
      refine y_s (pc' := 115) (L' := [some (vR (some 137)), some (vI l1), some (vI l2), some (vI s0), some (vI 0)]) (st' := [vI 2, vI s0]) (h' := h) f134_114 rfl ?_
      refine y_dv (pc' := 116) f134_115 (by decide) rfl ?_
      refine y_s (pc' := 118) (L' := [some (vR (some 137)), some (vI l1), some (vI l2), some (vI s0), some (vI 0)]) (st' := [vI 9, vI (zdiv s0 2)]) (h' := h) f134_116 rfl ?_
      refine y_s (pc' := 119) (L' := [some (vR (some 137)), some (vI l1), some (vI l2), some (vI s0), some (vI 0)]) (st' := [vR (some 137), vI 9, vI (zdiv s0 2)]) (h' := h) f134_118 rfl ?_
      refine y_gr (pc' := 122) f134_119 yf_8_21 rfl rfl (ys137 w) (yp137_4 w) rfl ?_
      refine y_s (pc' := 123) (L' := [some (vR (some 137)), some (vI l1), some (vI l2), some (vI s0), some (vI 0)]) (st' := [vI l1, vR (some 141), vI 9, vI (zdiv s0 2)]) (h' := h) f134_122 rfl ?_
      refine y_ia (pc' := 124) (x := (zV h 141 (l1).toNat)) f134_123 (ys141 w) k.1 rfl rfl ?_
      replace k := k.2
      refine y_mn (pc' := 127) f134_124 ym_8_248 (by omega) rfl rfl ?_
      refine y_s (pc' := 128) (L' := [some (vR (some 137)), some (vI l1), some (vI l2), some (vI s0), some (vI 0)]) (st' := [vI (zw ((zdiv s0 2) + (ymin 9 (zV h 141 (l1).toNat))))]) (h' := h) f134_127 rfl ?_
      exact y_ri f134_128 ⟨rfl, k⟩
    replace k := k.2
    have c4 := c
    by_cases c : (zV h 138 (l1).toNat) = 6
    · refine y_tc (pc' := 129) (v := 6) f134_30 c rfl rfl rfl ?_
      replace k := k.1 c
      refine y_s (pc' := 131) (L' := [some (vR (some 137)), some (vI l1), some (vI l2), some (vI s0), some (vI 0)]) (st' := [vI 0]) (h' := h) f134_129 rfl ?_
      refine y_s (pc' := 132) (L' := [some (vR (some 137)), some (vI l1), some (vI l2), some (vI s0), some (vI 0)]) (st' := [vR (some 137), vI 0]) (h' := h) f134_131 rfl ?_
      refine y_gr (pc' := 135) f134_132 yf_8_24 rfl rfl (ys137 w) (yp137_5 w) rfl ?_
      refine y_s (pc' := 136) (L' := [some (vR (some 137)), some (vI l1), some (vI l2), some (vI s0), some (vI 0)]) (st' := [vI 4, vR (some 142), vI 0]) (h' := h) f134_135 rfl ?_
      refine y_s (pc' := 137) (L' := [some (vR (some 137)), some (vI l1), some (vI l2), some (vI s0), some (vI 0)]) (st' := [vI l1, vI 4, vR (some 142), vI 0]) (h' := h) f134_136 rfl ?_
      refine y_s (pc' := 138) (L' := [some (vR (some 137)), some (vI l1), some (vI l2), some (vI s0), some (vI 0)]) (st' := [vI (zw (4 * l1)), vR (some 142), vI 0]) (h' := h) f134_137 rfl ?_
      refine y_s (pc' := 139) (L' := [some (vR (some 137)), some (vI l1), some (vI l2), some (vI s0), some (vI 0)]) (st' := [vR (some 137), vI (zw (4 * l1)), vR (some 142), vI 0]) (h' := h) f134_138 rfl ?_
      refine y_gi (pc' := 142) f134_139 yf_8_235 rfl rfl (ys137 w) rfl ?_
      refine y_s (pc' := 143) (L' := [some (vR (some 137)), some (vI l1), some (vI l2), some (vI s0), some (vI 0)]) (st' := [vI 4, vI (zV h 137 8), vI (zw (4 * l1)), vR (some 142), vI 0]) (h' := h) f134_142 rfl ?_
      refine y_rm (pc' := 144) f134_143 (by decide) rfl ?_
      refine y_s (pc' := 145) (L' := [some (vR (some 137)), some (vI l1), some (vI l2), some (vI s0), some (vI 0)]) (st' := [vI (zw ((zw (4 * l1)) + (zrem (zV h 137 8) 4))), vR (some 142), vI 0]) (h' := h) f134_144 rfl ?_
      refine y_ia (pc' := 146) (x := (zV h 142 ((zw ((zw (4 * l1)) + (zrem (zV h 137 8) 4)))).toNat)) f134_145 (ys142 w) k.1 rfl rfl ?_
      replace k := k.2
      refine y_s (pc' := 147) (L' := [some (vR (some 137)), some (vI l1), some (vI l2), some (vI s0), some (vI 0)]) (st' := [vI (zw (0 + (zV h 142 ((zw ((zw (4 * l1)) + (zrem (zV h 137 8) 4)))).toNat)))]) (h' := h) f134_146 rfl ?_
      exact y_ri f134_147 ⟨rfl, k⟩
    replace k := k.2
    have c5 := c
    have cc : (zV h 138 (l1).toNat) < 1 ∨ 6 < (zV h 138 (l1).toNat) := by omega
    refine y_td (pc' := 148) f134_30 cc rfl ?_
    replace k := k cc
    refine y_s (pc' := 149) (L' := [some (vR (some 137)), some (vI l1), some (vI l2), some (vI s0), some (vI 0)]) (st' := [vI s0]) (h' := h) f134_148 rfl ?_
    exact y_ri f134_149 ⟨rfl, k⟩
/-- HatterTunesModel.sum(II)I -/
theorem E135 {d : Nat} {K : Int → Hp → Prop} (w : yWF zl nl h) {x0 : Int} {x1 : Int} (k : ((0 ≤ (zw ((zw (6 * x0)) + x1)) ∧ (zw ((zw (6 * x0)) + x1)) < 36) ∧ ZW d prog_10_method_26_code 8 15 [some (vR (some 137)), some (vI x0), some (vI x1), some (vI (zV h 140 ((zw ((zw (6 * x0)) + x1))).toNat)), some (vI 0), none] [] h (yq 1 (yqI K)))) : yI d 135 [vR (some 137), vI x0, vI x1] h K := by
  refine y_en (L := [some (vR (some 137)), some (vI x0), some (vI x1), none, none, none]) rfl rfl ?_
  refine y_s (pc' := 1) (L' := [some (vR (some 137)), some (vI x0), some (vI x1), none, none, none]) (st' := [vR (some 137)]) (h' := h) f135_0 rfl ?_
  refine y_gr (pc' := 4) f135_1 yf_8_18 rfl rfl (ys137 w) (yp137_3 w) rfl ?_
  refine y_s (pc' := 6) (L' := [some (vR (some 137)), some (vI x0), some (vI x1), none, none, none]) (st' := [vI 6, vR (some 140)]) (h' := h) f135_4 rfl ?_
  refine y_s (pc' := 7) (L' := [some (vR (some 137)), some (vI x0), some (vI x1), none, none, none]) (st' := [vI x0, vI 6, vR (some 140)]) (h' := h) f135_6 rfl ?_
  refine y_s (pc' := 8) (L' := [some (vR (some 137)), some (vI x0), some (vI x1), none, none, none]) (st' := [vI (zw (6 * x0)), vR (some 140)]) (h' := h) f135_7 rfl ?_
  refine y_s (pc' := 9) (L' := [some (vR (some 137)), some (vI x0), some (vI x1), none, none, none]) (st' := [vI x1, vI (zw (6 * x0)), vR (some 140)]) (h' := h) f135_8 rfl ?_
  refine y_s (pc' := 10) (L' := [some (vR (some 137)), some (vI x0), some (vI x1), none, none, none]) (st' := [vI (zw ((zw (6 * x0)) + x1)), vR (some 140)]) (h' := h) f135_9 rfl ?_
  refine y_ia (pc' := 11) (x := (zV h 140 ((zw ((zw (6 * x0)) + x1))).toNat)) f135_10 (ys140 w) k.1 rfl rfl ?_
  replace k := k.2
  refine y_sto (pc' := 12) (k := 3) (L' := [some (vR (some 137)), some (vI x0), some (vI x1), some (vI (zV h 140 ((zw ((zw (6 * x0)) + x1))).toNat)), none, none]) f135_11 rfl rfl rfl rfl rfl rfl ?_
  refine y_s (pc' := 13) (L' := [some (vR (some 137)), some (vI x0), some (vI x1), some (vI (zV h 140 ((zw ((zw (6 * x0)) + x1))).toNat)), none, none]) (st' := [vI 0]) (h' := h) f135_12 rfl ?_
  refine y_sto (pc' := 15) (k := 4) (L' := [some (vR (some 137)), some (vI x0), some (vI x1), some (vI (zV h 140 ((zw ((zw (6 * x0)) + x1))).toNat)), some (vI 0), none]) f135_13 rfl rfl rfl rfl rfl rfl ?_
  exact k
theorem W135_15 {d : Nat} {K : Int → Hp → Prop} (w : yWF zl nl h) {l1 : Int} {l2 : Int} {l3 : Int} {l4 : Int} {l5 : Option Int} (hd : 1 ≤ d) (k : (((zV h 137 16) = (-1) → K l3 h) ∧ (¬ ((zV h 137 16) = (-1)) → ((0 ≤ (zV h 137 16) ∧ (zV h 137 16) < 6) ∧ (((zV h 145 ((zV h 137 16)).toNat) ≤ l4 → K l3 h) ∧ (¬ ((zV h 145 ((zV h 137 16)).toNat) ≤ l4) → ((0 ≤ (zw ((zw (10 * (zV h 137 16))) + l4)) ∧ (zw ((zw (10 * (zV h 137 16))) + l4)) < 61) ∧ ((2 ≤ (zV h 146 ((zw ((zw (10 * (zV h 137 16))) + l4))).toNat) → ZW d prog_10_method_26_code 8 15 [some (vR (some 137)), some (vI l1), some (vI l2), some (vI l3), some (vI (zw (l4 + 1))), some (vI (zw ((zw (10 * (zV h 137 16))) + l4)))] [] h (yq 1 (yqI K))) ∧ (¬ (2 ≤ (zV h 146 ((zw ((zw (10 * (zV h 137 16))) + l4))).toNat)) → yI (d - 1) 136 [vR (some 137), vI l1, vI l2, vI (zw ((zw (10 * (zV h 137 16))) + l4))] h (fun x h' => ZW d prog_10_method_26_code 8 68 [some (vR (some 137)), some (vI l1), some (vI l2), some (vI l3), some (vI l4), some (vI (zw ((zw (10 * (zV h 137 16))) + l4)))] [vI x] h' (yq 1 (yqI K)))))))))))) : ZW d prog_10_method_26_code 8 15 [some (vR (some 137)), some (vI l1), some (vI l2), some (vI l3), some (vI l4), yo l5] [] h (yq 1 (yqI K)) := by
  refine y_s (pc' := 16) (L' := [some (vR (some 137)), some (vI l1), some (vI l2), some (vI l3), some (vI l4), yo l5]) (st' := [vR (some 137)]) (h' := h) f135_15 rfl ?_
  refine y_gi (pc' := 19) f135_16 yf_8_110 rfl rfl (ys137 w) rfl ?_
  refine y_s (pc' := 20) (L' := [some (vR (some 137)), some (vI l1), some (vI l2), some (vI l3), some (vI l4), yo l5]) (st' := [vI (-1), vI (zV h 137 16)]) (h' := h) f135_19 rfl ?_
  refine y_ic (pcT := 108) (pc' := 23) (P := (zV h 137 16) = (-1)) f135_20 rfl rfl rfl (fun c => ?_) (fun c => ?_)
  · replace k := k.1 c
    refine y_s (pc' := 109) (L' := [some (vR (some 137)), some (vI l1), some (vI l2), some (vI l3), some (vI l4), yo l5]) (st' := [vI l3]) (h' := h) f135_108 rfl ?_
    exact y_ri f135_109 ⟨rfl, k⟩
  · replace k := k.2 c
    refine y_s (pc' := 25) (L' := [some (vR (some 137)), some (vI l1), some (vI l2), some (vI l3), some (vI l4), yo l5]) (st' := [vI l4]) (h' := h) f135_23 rfl ?_
    refine y_s (pc' := 26) (L' := [some (vR (some 137)), some (vI l1), some (vI l2), some (vI l3), some (vI l4), yo l5]) (st' := [vR (some 137), vI l4]) (h' := h) f135_25 rfl ?_
    refine y_gr (pc' := 29) f135_26 yf_8_33 rfl rfl (ys137 w) (yp137_17 w) rfl ?_
    refine y_s (pc' := 30) (L' := [some (vR (some 137)), some (vI l1), some (vI l2), some (vI l3), some (vI l4), yo l5]) (st' := [vR (some 137), vR (some 145), vI l4]) (h' := h) f135_29 rfl ?_
    refine y_gi (pc' := 33) f135_30 yf_8_110 rfl rfl (ys137 w) rfl ?_
    refine y_ia (pc' := 34) (x := (zV h 145 ((zV h 137 16)).toNat)) f135_33 (ys145 w) k.1 rfl rfl ?_
    replace k := k.2
    refine y_ic (pcT := 108) (pc' := 37) (P := (zV h 145 ((zV h 137 16)).toNat) ≤ l4) f135_34 rfl rfl rfl (fun c => ?_) (fun c => ?_)
    · replace k := k.1 c
      refine y_s (pc' := 109) (L' := [some (vR (some 137)), some (vI l1), some (vI l2), some (vI l3), some (vI l4), yo l5]) (st' := [vI l3]) (h' := h) f135_108 rfl ?_
      exact y_ri f135_109 ⟨rfl, k⟩
    · replace k := k.2 c
      refine y_s (pc' := 39) (L' := [some (vR (some 137)), some (vI l1), some (vI l2), some (vI l3), some (vI l4), yo l5]) (st' := [vI 10]) (h' := h) f135_37 rfl ?_
      refine y_s (pc' := 40) (L' := [some (vR (some 137)), some (vI l1), some (vI l2), some (vI l3), some (vI l4), yo l5]) (st' := [vR (some 137), vI 10]) (h' := h) f135_39 rfl ?_
      refine y_gi (pc' := 43) f135_40 yf_8_110 rfl rfl (ys137 w) rfl ?_
      refine y_s (pc' := 44) (L' := [some (vR (some 137)), some (vI l1), some (vI l2), some (vI l3), some (vI l4), yo l5]) (st' := [vI (zw (10 * (zV h 137 16)))]) (h' := h) f135_43 rfl ?_
      refine y_s (pc' := 46) (L' := [some (vR (some 137)), some (vI l1), some (vI l2), some (vI l3), some (vI l4), yo l5]) (st' := [vI l4, vI (zw (10 * (zV h 137 16)))]) (h' := h) f135_44 rfl ?_
      refine y_s (pc' := 47) (L' := [some (vR (some 137)), some (vI l1), some (vI l2), some (vI l3), some (vI l4), yo l5]) (st' := [vI (zw ((zw (10 * (zV h 137 16))) + l4))]) (h' := h) f135_46 rfl ?_
      refine y_sto (pc' := 49) (k := 5) (L' := [some (vR (some 137)), some (vI l1), some (vI l2), some (vI l3), some (vI l4), some (vI (zw ((zw (10 * (zV h 137 16))) + l4)))]) f135_47 rfl rfl rfl rfl rfl rfl ?_
      refine y_s (pc' := 50) (L' := [some (vR (some 137)), some (vI l1), some (vI l2), some (vI l3), some (vI l4), some (vI (zw ((zw (10 * (zV h 137 16))) + l4)))]) (st' := [vR (some 137)]) (h' := h) f135_49 rfl ?_
      refine y_gr (pc' := 53) f135_50 yf_8_36 rfl rfl (ys137 w) (yp137_18 w) rfl ?_
      refine y_s (pc' := 55) (L' := [some (vR (some 137)), some (vI l1), some (vI l2), some (vI l3), some (vI l4), some (vI (zw ((zw (10 * (zV h 137 16))) + l4)))]) (st' := [vI (zw ((zw (10 * (zV h 137 16))) + l4)), vR (some 146)]) (h' := h) f135_53 rfl ?_
      refine y_ia (pc' := 56) (x := (zV h 146 ((zw ((zw (10 * (zV h 137 16))) + l4))).toNat)) f135_55 (ys146 w) k.1 rfl rfl ?_
      replace k := k.2
      refine y_s (pc' := 57) (L' := [some (vR (some 137)), some (vI l1), some (vI l2), some (vI l3), some (vI l4), some (vI (zw ((zw (10 * (zV h 137 16))) + l4)))]) (st' := [vI 2, vI (zV h 146 ((zw ((zw (10 * (zV h 137 16))) + l4))).toNat)]) (h' := h) f135_56 rfl ?_
      refine y_ic (pcT := 102) (pc' := 60) (P := 2 ≤ (zV h 146 ((zw ((zw (10 * (zV h 137 16))) + l4))).toNat)) f135_57 rfl rfl rfl (fun c => ?_) (fun c => ?_)
      · replace k := k.1 c
        refine y_inc (pc' := 105) (L' := [some (vR (some 137)), some (vI l1), some (vI l2), some (vI l3), some (vI (zw (l4 + 1))), some (vI (zw ((zw (10 * (zV h 137 16))) + l4)))]) f135_102 rfl rfl rfl rfl ?_
        refine y_go (pc' := 15) f135_105 rfl ?_
        exact k
      · replace k := k.2 c
        refine y_s (pc' := 61) (L' := [some (vR (some 137)), some (vI l1), some (vI l2), some (vI l3), some (vI l4), some (vI (zw ((zw (10 * (zV h 137 16))) + l4)))]) (st' := [vR (some 137)]) (h' := h) f135_60 rfl ?_
        refine y_s (pc' := 62) (L' := [some (vR (some 137)), some (vI l1), some (vI l2), some (vI l3), some (vI l4), some (vI (zw ((zw (10 * (zV h 137 16))) + l4)))]) (st' := [vI l1, vR (some 137)]) (h' := h) f135_61 rfl ?_
        refine y_s (pc' := 63) (L' := [some (vR (some 137)), some (vI l1), some (vI l2), some (vI l3), some (vI l4), some (vI (zw ((zw (10 * (zV h 137 16))) + l4)))]) (st' := [vI l2, vI l1, vR (some 137)]) (h' := h) f135_62 rfl ?_
        refine y_s (pc' := 65) (L' := [some (vR (some 137)), some (vI l1), some (vI l2), some (vI l3), some (vI l4), some (vI (zw ((zw (10 * (zV h 137 16))) + l4)))]) (st' := [vI (zw ((zw (10 * (zV h 137 16))) + l4)), vI l2, vI l1, vR (some 137)]) (h' := h) f135_63 rfl ?_
        refine y_cI (pc' := 68) (as := [vR (some 137), vI l1, vI l2, vI (zw ((zw (10 * (zV h 137 16))) + l4))]) (r := []) f135_65 (yzv ym_8_242 rfl (ys137 w) rfl rfl) (by omega) rfl ?_
        exact k
theorem W135_68 {d : Nat} {K : Int → Hp → Prop} (w : yWF zl nl h) {l1 : Int} {l2 : Int} {l3 : Int} {l4 : Int} {l5 : Int} {s0 : Int} (k : ((s0 = 0 → ZW d prog_10_method_26_code 8 15 [some (vR (some 137)), some (vI l1), some (vI l2), some (vI l3), some (vI (zw (l4 + 1))), some (vI l5)] [] h (yq 1 (yqI K))) ∧ (¬ (s0 = 0) → ((0 ≤ l5 ∧ l5 < 61) ∧ (((zV h 146 (l5).toNat) ≠ 0 → ((0 ≤ l5 ∧ l5 < 61) ∧ ZW d prog_10_method_26_code 8 15 [some (vR (some 137)), some (vI l1), some (vI l2), some (vI (zw (l3 + (zw (-(zV h 147 (l5).toNat)))))), some (vI (zw (l4 + 1))), some (vI l5)] [] h (yq 1 (yqI K)))) ∧ (¬ ((zV h 146 (l5).toNat) ≠ 0) → ((0 ≤ l5 ∧ l5 < 61) ∧ ZW d prog_10_method_26_code 8 15 [some (vR (some 137)), some (vI l1), some (vI l2), some (vI (zw (l3 + (zV h 147 (l5).toNat)))), some (vI (zw (l4 + 1))), some (vI l5)] [] h (yq 1 (yqI K))))))))) : ZW d prog_10_method_26_code 8 68 [some (vR (some 137)), some (vI l1), some (vI l2), some (vI l3), some (vI l4), some (vI l5)] [vI s0] h (yq 1 (yqI K)) := by
  refine y_if (pcT := 102) (pc' := 71) (P := s0 = 0) f135_68 rfl rfl rfl (fun c => ?_) (fun c => ?_)
  · replace k := k.1 c
    refine y_inc (pc' := 105) (L' := [some (vR (some 137)), some (vI l1), some (vI l2), some (vI l3), some (vI (zw (l4 + 1))), some (vI l5)]) f135_102 rfl rfl rfl rfl ?_
    refine y_go (pc' := 15) f135_105 rfl ?_
    exact k
  · replace k := k.2 c
    refine y_s (pc' := 72) (L' := [some (vR (some 137)), some (vI l1), some (vI l2), some (vI l3), some (vI l4), some (vI l5)]) (st' := [vI l3]) (h' := h) f135_71 rfl ?_
    refine y_s (pc' := 73) (L' := [some (vR (some 137)), some (vI l1), some (vI l2), some (vI l3), some (vI l4), some (vI l5)]) (st' := [vR (some 137), vI l3]) (h' := h) f135_72 rfl ?_
    refine y_gr (pc' := 76) f135_73 yf_8_36 rfl rfl (ys137 w) (yp137_18 w) rfl ?_
    refine y_s (pc' := 78) (L' := [some (vR (some 137)), some (vI l1), some (vI l2), some (vI l3), some (vI l4), some (vI l5)]) (st' := [vI l5, vR (some 146), vI l3]) (h' := h) f135_76 rfl ?_
    refine y_ia (pc' := 79) (x := (zV h 146 (l5).toNat)) f135_78 (ys146 w) k.1 rfl rfl ?_
    replace k := k.2
    refine y_if (pcT := 92) (pc' := 82) (P := (zV h 146 (l5).toNat) ≠ 0) f135_79 rfl rfl rfl (fun c => ?_) (fun c => ?_)
    · replace k := k.1 c
      refine y_s (pc' := 93) (L' := [some (vR (some 137)), some (vI l1), some (vI l2), some (vI l3), some (vI l4), some (vI l5)]) (st' := [vR (some 137), vI l3]) (h' := h) f135_92 rfl ?_
      refine y_gr (pc' := 96) f135_93 yf_8_39 rfl rfl (ys137 w) (yp137_19 w) rfl ?_
      refine y_s (pc' := 98) (L' := [some (vR (some 137)), some (vI l1), some (vI l2), some (vI l3), some (vI l4), some (vI l5)]) (st' := [vI l5, vR (some 147), vI l3]) (h' := h) f135_96 rfl ?_
      refine y_ia (pc' := 99) (x := (zV h 147 (l5).toNat)) f135_98 (ys147 w) k.1 rfl rfl ?_
      replace k := k.2
      refine y_s (pc' := 100) (L' := [some (vR (some 137)), some (vI l1), some (vI l2), some (vI l3), some (vI l4), some (vI l5)]) (st' := [vI (zw (-(zV h 147 (l5).toNat))), vI l3]) (h' := h) f135_99 rfl ?_
      refine y_s (pc' := 101) (L' := [some (vR (some 137)), some (vI l1), some (vI l2), some (vI l3), some (vI l4), some (vI l5)]) (st' := [vI (zw (l3 + (zw (-(zV h 147 (l5).toNat)))))]) (h' := h) f135_100 rfl ?_
      refine y_sto (pc' := 102) (k := 3) (L' := [some (vR (some 137)), some (vI l1), some (vI l2), some (vI (zw (l3 + (zw (-(zV h 147 (l5).toNat)))))), some (vI l4), some (vI l5)]) f135_101 rfl rfl rfl rfl rfl rfl ?_
      refine y_inc (pc' := 105) (L' := [some (vR (some 137)), some (vI l1), some (vI l2), some (vI (zw (l3 + (zw (-(zV h 147 (l5).toNat)))))), some (vI (zw (l4 + 1))), some (vI l5)]) f135_102 rfl rfl rfl rfl ?_
      refine y_go (pc' := 15) f135_105 rfl ?_
      exact k
    · replace k := k.2 c
      refine y_s (pc' := 83) (L' := [some (vR (some 137)), some (vI l1), some (vI l2), some (vI l3), some (vI l4), some (vI l5)]) (st' := [vR (some 137), vI l3]) (h' := h) f135_82 rfl ?_
      refine y_gr (pc' := 86) f135_83 yf_8_39 rfl rfl (ys137 w) (yp137_19 w) rfl ?_
      refine y_s (pc' := 88) (L' := [some (vR (some 137)), some (vI l1), some (vI l2), some (vI l3), some (vI l4), some (vI l5)]) (st' := [vI l5, vR (some 147), vI l3]) (h' := h) f135_86 rfl ?_
      refine y_ia (pc' := 89) (x := (zV h 147 (l5).toNat)) f135_88 (ys147 w) k.1 rfl rfl ?_
      replace k := k.2
      refine y_go (pc' := 100) f135_89 rfl ?_
      refine y_s (pc' := 101) (L' := [some (vR (some 137)), some (vI l1), some (vI l2), some (vI l3), some (vI l4), some (vI l5)]) (st' := [vI (zw (l3 + (zV h 147 (l5).toNat)))]) (h' := h) f135_100 rfl ?_
      refine y_sto (pc' := 102) (k := 3) (L' := [some (vR (some 137)), some (vI l1), some (vI l2), some (vI (zw (l3 + (zV h 147 (l5).toNat)))), some (vI l4), some (vI l5)]) f135_101 rfl rfl rfl rfl rfl rfl ?_
      refine y_inc (pc' := 105) (L' := [some (vR (some 137)), some (vI l1), some (vI l2), some (vI (zw (l3 + (zV h 147 (l5).toNat)))), some (vI (zw (l4 + 1))), some (vI l5)]) f135_102 rfl rfl rfl rfl ?_
      refine y_go (pc' := 15) f135_105 rfl ?_
      exact k
/-- HatterTunesModel.isTrue(III)Z -/
theorem E136 {d : Nat} {K : Int → Hp → Prop} (w : yWF zl nl h) {x0 : Int} {x1 : Int} {x2 : Int} (k : ((0 ≤ x2 ∧ x2 < 61) ∧ ZW d prog_10_method_25_code 8 11 [some (vR (some 137)), some (vI x0), some (vI x1), some (vI x2), some (vI 0), some (vI (zV h 148 (x2).toNat)), none, none, none, none] [] h (yq 2 (yqI K)))) : yI d 136 [vR (some 137), vI x0, vI x1, vI x2] h K := by
  refine y_en (L := [some (vR (some 137)), some (vI x0), some (vI x1), some (vI x2), none, none, none, none, none, none]) rfl rfl ?_
  refine y_s (pc' := 1) (L' := [some (vR (some 137)), some (vI x0), some (vI x1), some (vI x2), none, none, none, none, none, none]) (st' := [vI 0]) (h' := h) f136_0 rfl ?_
  refine y_sto (pc' := 3) (k := 4) (L' := [some (vR (some 137)), some (vI x0), some (vI x1), some (vI x2), some (vI 0), none, none, none, none, none]) f136_1 rfl rfl rfl rfl rfl rfl ?_
  refine y_s (pc' := 4) (L' := [some (vR (some 137)), some (vI x0), some (vI x1), some (vI x2), some (vI 0), none, none, none, none, none]) (st' := [vR (some 137)]) (h' := h) f136_3 rfl ?_
  refine y_gr (pc' := 7) f136_4 yf_8_42 rfl rfl (ys137 w) (yp137_20 w) rfl ?_
  refine y_s (pc' := 8) (L' := [some (vR (some 137)), some (vI x0), some (vI x1), some (vI x2), some (vI 0), none, none, none, none, none]) (st' := [vI x2, vR (some 148)]) (h' := h) f136_7 rfl ?_
  refine y_ia (pc' := 9) (x := (zV h 148 (x2).toNat)) f136_8 (ys148 w) k.1 rfl rfl ?_
  replace k := k.2
  refine y_sto (pc' := 11) (k := 5) (L' := [some (vR (some 137)), some (vI x0), some (vI x1), some (vI x2), some (vI 0), some (vI (zV h 148 (x2).toNat)), none, none, none, none]) f136_9 rfl rfl rfl rfl rfl rfl ?_
  exact k
theorem W136_11 {d : Nat} {K : Int → Hp → Prop} (w : yWF zl nl h) {l1 : Int} {l2 : Int} {l3 : Int} {l4 : Int} {l5 : Int} {l6 : Option Int} {l7 : Option Int} {l8 : Option Int} {l9 : Option Int} (hd : 1 ≤ d) (k : ((0 ≤ l3 ∧ l3 < 61) ∧ ((0 ≤ l3 ∧ l3 < 61) ∧ (((zw ((zV h 148 (l3).toNat) + (zV h 149 (l3).toNat))) ≤ l5 → (((zV h 151 0) = 0 ∨ (zV h 151 0) = 1) ∧ K (zV h 151 0) h)) ∧ (¬ ((zw ((zV h 148 (l3).toNat) + (zV h 149 (l3).toNat))) ≤ l5) → ((0 ≤ l5 ∧ l5 < 800) ∧ (((zV h 150 (l5).toNat) < 3 → (((zV h 150 (l5).toNat) ≠ 0 → (((zV h 150 (l5).toNat) ≠ 1 → ((0 ≤ (zw ((zw (l4 + (-1))) - 1)) ∧ (zw ((zw (l4 + (-1))) - 1)) < 110) ∧ (((zV h 151 ((zw ((zw (l4 + (-1))) - 1))).toNat) ≠ 0 → ((0 ≤ (zw ((zw (l4 + (-1))) - 1)) ∧ (zw ((zw (l4 + (-1))) - 1)) < 110) ∧ ZW d prog_10_method_25_code 8 11 [some (vR (some 137)), some (vI l1), some (vI l2), some (vI l3), some (vI (zw (l4 + (-1)))), some (vI (zw (l5 + 1))), some (vI (zV h 150 (l5).toNat)), yo l7, yo l8, yo l9] [] (zsetV h 151 ((zw ((zw (l4 + (-1))) - 1))).toNat 1) (yq 2 (yqI K)))) ∧ (¬ ((zV h 151 ((zw ((zw (l4 + (-1))) - 1))).toNat) ≠ 0) → ((0 ≤ (zw (l4 + (-1))) ∧ (zw (l4 + (-1))) < 110) ∧ (((zV h 151 ((zw (l4 + (-1)))).toNat) = 0 → ((0 ≤ (zw ((zw (l4 + (-1))) - 1)) ∧ (zw ((zw (l4 + (-1))) - 1)) < 110) ∧ ZW d prog_10_method_25_code 8 11 [some (vR (some 137)), some (vI l1), some (vI l2), some (vI l3), some (vI (zw (l4 + (-1)))), some (vI (zw (l5 + 1))), some (vI (zV h 150 (l5).toNat)), yo l7, yo l8, yo l9] [] (zsetV h 151 ((zw ((zw (l4 + (-1))) - 1))).toNat 0) (yq 2 (yqI K)))) ∧ (¬ ((zV h 151 ((zw (l4 + (-1)))).toNat) = 0) → ((0 ≤ (zw ((zw (l4 + (-1))) - 1)) ∧ (zw ((zw (l4 + (-1))) - 1)) < 110) ∧ ZW d prog_10_method_25_code 8 11 [some (vR (some 137)), some (vI l1), some (vI l2), some (vI l3), some (vI (zw (l4 + (-1)))), some (vI (zw (l5 + 1))), some (vI (zV h 150 (l5).toNat)), yo l7, yo l8, yo l9] [] (zsetV h 151 ((zw ((zw (l4 + (-1))) - 1))).toNat 1) (yq 2 (yqI K)))))))))) ∧ (¬ ((zV h 150 (l5).toNat) ≠ 1) → ((0 ≤ (zw ((zw (l4 + (-1))) - 1)) ∧ (zw ((zw (l4 + (-1))) - 1)) < 110) ∧ (((zV h 151 ((zw ((zw (l4 + (-1))) - 1))).toNat) = 0 → ((0 ≤ (zw ((zw (l4 + (-1))) - 1)) ∧ (zw ((zw (l4 + (-1))) - 1)) < 110) ∧ ZW d prog_10_method_25_code 8 11 [some (vR (some 137)), some (vI l1), some (vI l2), some (vI l3), some (vI (zw (l4 + (-1)))), some (vI (zw (l5 + 1))), some (vI (zV h 150 (l5).toNat)), yo l7, yo l8, yo l9] [] (zsetV h 151 ((zw ((zw (l4 + (-1))) - 1))).toNat 0) (yq 2 (yqI K)))) ∧ (¬ ((zV h 151 ((zw ((zw (l4 + (-1))) - 1))).toNat) = 0) → ((0 ≤ (zw (l4 + (-1))) ∧ (zw (l4 + (-1))) < 110) ∧ (((zV h 151 ((zw (l4 + (-1)))).toNat) = 0 → ((0 ≤ (zw ((zw (l4 + (-1))) - 1)) ∧ (zw ((zw (l4 + (-1))) - 1)) < 110) ∧ ZW d prog_10_method_25_code 8 11 [some (vR (some 137)), some (vI l1), some (vI l2), some (vI l3), some (vI (zw (l4 + (-1)))), some (vI (zw (l5 + 1))), some (vI (zV h 150 (l5).toNat)), yo l7, yo l8, yo l9] [] (zsetV h 151 ((zw ((zw (l4 + (-1))) - 1))).toNat 0) (yq 2 (yqI K)))) ∧ (¬ ((zV h 151 ((zw (l4 + (-1)))).toNat) = 0) → ((0 ≤ (zw ((zw (l4 + (-1))) - 1)) ∧ (zw ((zw (l4 + (-1))) - 1)) < 110) ∧ ZW d prog_10_method_25_code 8 11 [some (vR (some 137)), some (vI l1), some (vI l2), some (vI l3), some (vI (zw (l4 + (-1)))), some (vI (zw (l5 + 1))), some (vI (zV h 150 (l5).toNat)), yo l7, yo l8, yo l9] [] (zsetV h 151 ((zw ((zw (l4 + (-1))) - 1))).toNat 1) (yq 2 (yqI K)))))))))))) ∧ (¬ ((zV h 150 (l5).toNat) ≠ 0) → ((0 ≤ (zw (l4 - 1)) ∧ (zw (l4 - 1)) < 110) ∧ (((zV h 151 ((zw (l4 - 1))).toNat) ≠ 0 → ((0 ≤ (zw (l4 - 1)) ∧ (zw (l4 - 1)) < 110) ∧ ZW d prog_10_method_25_code 8 11 [some (vR (some 137)), some (vI l1), some (vI l2), some (vI l3), some (vI l4), some (vI (zw (l5 + 1))), some (vI (zV h 150 (l5).toNat)), yo l7, yo l8, yo l9] [] (zsetV h 151 ((zw (l4 - 1))).toNat 0) (yq 2 (yqI K)))) ∧ (¬ ((zV h 151 ((zw (l4 - 1))).toNat) ≠ 0) → ((0 ≤ (zw (l4 - 1)) ∧ (zw (l4 - 1)) < 110) ∧ ZW d prog_10_method_25_code 8 11 [some (vR (some 137)), some (vI l1), some (vI l2), some (vI l3), some (vI l4), some (vI (zw (l5 + 1))), some (vI (zV h 150 (l5).toNat)), yo l7, yo l8, yo l9] [] (zsetV h 151 ((zw (l4 - 1))).toNat 1) (yq 2 (yqI K))))))))) ∧ (¬ ((zV h 150 (l5).toNat) < 3) → yI (d - 1) 137 [vR (some 137), vI l1, vI l2, vI (zdiv (zw ((zV h 150 (l5).toNat) - 3)) 300)] h (fun x h' => ZW d prog_10_method_25_code 8 58 [some (vR (some 137)), some (vI l1), some (vI l2), some (vI l3), some (vI l4), some (vI l5), some (vI (zV h 150 (l5).toNat)), yo l7, yo l8, yo l9] [vI x] h' (yq 2 (yqI K))))))))))) : ZW d prog_10_method_25_code 8 11 [some (vR (some 137)), some (vI l1), some (vI l2), some (vI l3), some (vI l4), some (vI l5), yo l6, yo l7, yo l8, yo l9] [] h (yq 2 (yqI K)) := by
  refine y_s (pc' := 13) (L' := [some (vR (some 137)), some (vI l1), some (vI l2), some (vI l3), some (vI l4), some (vI l5), yo l6, yo l7, yo l8, yo l9]) (st' := [vI l5]) (h' := h) f136_11 rfl ?_
  refine y_s (pc' := 14) (L' := [some (vR (some 137)), some (vI l1), some (vI l2), some (vI l3), some (vI l4), some (vI l5), yo l6, yo l7, yo l8, yo l9]) (st' := [vR (some 137), vI l5]) (h' := h) f136_13 rfl ?_
  refine y_gr (pc' := 17) f136_14 yf_8_42 rfl rfl (ys137 w) (yp137_20 w) rfl ?_
  refine y_s (pc' := 18) (L' := [some (vR (some 137)), some (vI l1), some (vI l2), some (vI l3), some (vI l4), some (vI l5), yo l6, yo l7, yo l8, yo l9]) (st' := [vI l3, vR (some 148), vI l5]) (h' := h) f136_17 rfl ?_
  refine y_ia (pc' := 19) (x := (zV h 148 (l3).toNat)) f136_18 (ys148 w) k.1 rfl rfl ?_
  replace k := k.2
  refine y_s (pc' := 20) (L' := [some (vR (some 137)), some (vI l1), some (vI l2), some (vI l3), some (vI l4), some (vI l5), yo l6, yo l7, yo l8, yo l9]) (st' := [vR (some 137), vI (zV h 148 (l3).toNat), vI l5]) (h' := h) f136_19 rfl ?_
  refine y_gr (pc' := 23) f136_20 yf_8_45 rfl rfl (ys137 w) (yp137_21 w) rfl ?_
  refine y_s (pc' := 24) (L' := [some (vR (some 137)), some (vI l1), some (vI l2), some (vI l3), some (vI l4), some (vI l5), yo l6, yo l7, yo l8, yo l9]) (st' := [vI l3, vR (some 149), vI (zV h 148 (l3).toNat), vI l5]) (h' := h) f136_23 rfl ?_
  refine y_ia (pc' := 25) (x := (zV h 149 (l3).toNat)) f136_24 (ys149 w) k.1 rfl rfl ?_
  replace k := k.2
  refine y_s (pc' := 26) (L' := [some (vR (some 137)), some (vI l1), some (vI l2), some (vI l3), some (vI l4), some (vI l5), yo l6, yo l7, yo l8, yo l9]) (st' := [vI (zw ((zV h 148 (l3).toNat) + (zV h 149 (l3).toNat))), vI l5]) (h' := h) f136_25 rfl ?_
  refine y_ic (pcT := 261) (pc' := 29) (P := (zw ((zV h 148 (l3).toNat) + (zV h 149 (l3).toNat))) ≤ l5) f136_26 rfl rfl rfl (fun c => ?_) (fun c => ?_)
  · replace k := k.1 c
    refine y_s (pc' := 262) (L' := [some (vR (some 137)), some (vI l1), some (vI l2), some (vI l3), some (vI l4), some (vI l5), yo l6, yo l7, yo l8, yo l9]) (st' := [vR (some 137)]) (h' := h) f136_261 rfl ?_
    refine y_gr (pc' := 265) f136_262 yf_8_51 rfl rfl (ys137 w) (yp137_24 w) rfl ?_
    refine y_s (pc' := 266) (L' := [some (vR (some 137)), some (vI l1), some (vI l2), some (vI l3), some (vI l4), some (vI l5), yo l6, yo l7, yo l8, yo l9]) (st' := [vI 0, vR (some 151)]) (h' := h) f136_265 rfl ?_
    refine y_ba (pc' := 267) (x := (zV h 151 0)) f136_266 (ys151 w) (by decide) rfl rfl ?_
    exact y_ri f136_267 ⟨decide_eq_true k.1, k.2⟩
  · replace k := k.2 c
    refine y_s (pc' := 30) (L' := [some (vR (some 137)), some (vI l1), some (vI l2), some (vI l3), some (vI l4), some (vI l5), yo l6, yo l7, yo l8, yo l9]) (st' := [vR (some 137)]) (h' := h) f136_29 rfl ?_
    refine y_gr (pc' := 33) f136_30 yf_8_48 rfl rfl (ys137 w) (yp137_22 w) rfl ?_
    refine y_s (pc' := 35) (L' := [some (vR (some 137)), some (vI l1), some (vI l2), some (vI l3), some (vI l4), some (vI l5), yo l6, yo l7, yo l8, yo l9]) (st' := [vI l5, vR (some 150)]) (h' := h) f136_33 rfl ?_
    refine y_ia (pc' := 36) (x := (zV h 150 (l5).toNat)) f136_35 (ys150 w) k.1 rfl rfl ?_
    replace k := k.2
    refine y_sto (pc' := 38) (k := 6) (L' := [some (vR (some 137)), some (vI l1), some (vI l2), some (vI l3), some (vI l4), some (vI l5), some (vI (zV h 150 (l5).toNat)), yo l7, yo l8, yo l9]) f136_36 rfl rfl rfl rfl rfl rfl ?_
    refine y_s (pc' := 40) (L' := [some (vR (some 137)), some (vI l1), some (vI l2), some (vI l3), some (vI l4), some (vI l5), some (vI (zV h 150 (l5).toNat)), yo l7, yo l8, yo l9]) (st' := [vI (zV h 150 (l5).toNat)]) (h' := h) f136_38 rfl ?_
    refine y_s (pc' := 41) (L' := [some (vR (some 137)), some (vI l1), some (vI l2), some (vI l3), some (vI l4), some (vI l5), some (vI (zV h 150 (l5).toNat)), yo l7, yo l8, yo l9]) (st' := [vI 3, vI (zV h 150 (l5).toNat)]) (h' := h) f136_40 rfl ?_
    refine y_ic (pcT := 146) (pc' := 44) (P := (zV h 150 (l5).toNat) < 3) f136_41 rfl rfl rfl (fun c => ?_) (fun c => ?_)
    · replace k := k.1 c
      refine y_s (pc' := 148) (L' := [some (vR (some 137)), some (vI l1), some (vI l2), some (vI l3), some (vI l4), some (vI l5), some (vI (zV h 150 (l5).toNat)), yo l7, yo l8, yo l9]) (st' := [vI (zV h 150 (l5).toNat)]) (h' := h) f136_146 rfl ?_
      refine y_if (pcT := 180) (pc' := 151) (P := (zV h 150 (l5).toNat) ≠ 0) f136_148 rfl rfl rfl (fun c => ?_) (fun c => ?_)
      · replace k := k.1 c
        refine y_inc (pc' := 183) (L' := [some (vR (some 137)), some (vI l1), some (vI l2), some (vI l3), some (vI (zw (l4 + (-1)))), some (vI l5), some (vI (zV h 150 (l5).toNat)), yo l7, yo l8, yo l9]) f136_180 rfl rfl rfl rfl ?_
        refine y_s (pc' := 184) (L' := [some (vR (some 137)), some (vI l1), some (vI l2), some (vI l3), some (vI (zw (l4 + (-1)))), some (vI l5), some (vI (zV h 150 (l5).toNat)), yo l7, yo l8, yo l9]) (st' := [vR (some 137)]) (h' := h) f136_183 rfl ?_
        refine y_gr (pc' := 187) f136_184 yf_8_51 rfl rfl (ys137 w) (yp137_24 w) rfl ?_
        refine y_s (pc' := 189) (L' := [some (vR (some 137)), some (vI l1), some (vI l2), some (vI l3), some (vI (zw (l4 + (-1)))), some (vI l5), some (vI (zV h 150 (l5).toNat)), yo l7, yo l8, yo l9]) (st' := [vI (zw (l4 + (-1))), vR (some 151)]) (h' := h) f136_187 rfl ?_
        refine y_s (pc' := 190) (L' := [some (vR (some 137)), some (vI l1), some (vI l2), some (vI l3), some (vI (zw (l4 + (-1)))), some (vI l5), some (vI (zV h 150 (l5).toNat)), yo l7, yo l8, yo l9]) (st' := [vI 1, vI (zw (l4 + (-1))), vR (some 151)]) (h' := h) f136_189 rfl ?_
        refine y_s (pc' := 191) (L' := [some (vR (some 137)), some (vI l1), some (vI l2), some (vI l3), some (vI (zw (l4 + (-1)))), some (vI l5), some (vI (zV h 150 (l5).toNat)), yo l7, yo l8, yo l9]) (st' := [vI (zw ((zw (l4 + (-1))) - 1)), vR (some 151)]) (h' := h) f136_190 rfl ?_
        refine y_s (pc' := 193) (L' := [some (vR (some 137)), some (vI l1), some (vI l2), some (vI l3), some (vI (zw (l4 + (-1)))), some (vI l5), some (vI (zV h 150 (l5).toNat)), yo l7, yo l8, yo l9]) (st' := [vI (zV h 150 (l5).toNat), vI (zw ((zw (l4 + (-1))) - 1)), vR (some 151)]) (h' := h) f136_191 rfl ?_
        refine y_s (pc' := 194) (L' := [some (vR (some 137)), some (vI l1), some (vI l2), some (vI l3), some (vI (zw (l4 + (-1)))), some (vI l5), some (vI (zV h 150 (l5).toNat)), yo l7, yo l8, yo l9]) (st' := [vI 1, vI (zV h 150 (l5).toNat), vI (zw ((zw (l4 + (-1))) - 1)), vR (some 151)]) (h' := h) f136_193 rfl ?_
        refine y_ic (pcT := 227) (pc' := 197) (P := (zV h 150 (l5).toNat) ≠ 1) f136_194 rfl rfl rfl (fun c => ?_) (fun c => ?_)
        · replace k := k.1 c
          refine y_s (pc' := 228) (L' := [some (vR (some 137)), some (vI l1), some (vI l2), some (vI l3), some (vI (zw (l4 + (-1)))), some (vI l5), some (vI (zV h 150 (l5).toNat)), yo l7, yo l8, yo l9]) (st' := [vR (some 137), vI (zw ((zw (l4 + (-1))) - 1)), vR (some 151)]) (h' := h) f136_227 rfl ?_
          refine y_gr (pc' := 231) f136_228 yf_8_51 rfl rfl (ys137 w) (yp137_24 w) rfl ?_
          refine y_s (pc' := 233) (L' := [some (vR (some 137)), some (vI l1), some (vI l2), some (vI l3), some (vI (zw (l4 + (-1)))), some (vI l5), some (vI (zV h 150 (l5).toNat)), yo l7, yo l8, yo l9]) (st' := [vI (zw (l4 + (-1))), vR (some 151), vI (zw ((zw (l4 + (-1))) - 1)), vR (some 151)]) (h' := h) f136_231 rfl ?_
          refine y_s (pc' := 234) (L' := [some (vR (some 137)), some (vI l1), some (vI l2), some (vI l3), some (vI (zw (l4 + (-1)))), some (vI l5), some (vI (zV h 150 (l5).toNat)), yo l7, yo l8, yo l9]) (st' := [vI 1, vI (zw (l4 + (-1))), vR (some 151), vI (zw ((zw (l4 + (-1))) - 1)), vR (some 151)]) (h' := h) f136_233 rfl ?_
          refine y_s (pc' := 235) (L' := [some (vR (some 137)), some (vI l1), some (vI l2), some (vI l3), some (vI (zw (l4 + (-1)))), some (vI l5), some (vI (zV h 150 (l5).toNat)), yo l7, yo l8, yo l9]) (st' := [vI (zw ((zw (l4 + (-1))) - 1)), vR (some 151), vI (zw ((zw (l4 + (-1))) - 1)), vR (some 151)]) (h' := h) f136_234 rfl ?_
          refine y_ba (pc' := 236) (x := (zV h 151 ((zw ((zw (l4 + (-1))) - 1))).toNat)) f136_235 (ys151 w) k.1 rfl rfl ?_
          replace k := k.2
          refine y_if (pcT := 249) (pc' := 239) (P := (zV h 151 ((zw ((zw (l4 + (-1))) - 1))).toNat) ≠ 0) f136_236 rfl rfl rfl (fun c => ?_) (fun c => ?_)
          · replace k := k.1 c
            refine y_s (pc' := 250) (L' := [some (vR (some 137)), some (vI l1), some (vI l2), some (vI l3), some (vI (zw (l4 + (-1)))), some (vI l5), some (vI (zV h 150 (l5).toNat)), yo l7, yo l8, yo l9]) (st' := [vI 1, vI (zw ((zw (l4 + (-1))) - 1)), vR (some 151)]) (h' := h) f136_249 rfl ?_
            refine y_go (pc' := 254) f136_250 rfl ?_
            refine y_bs (pc' := 255) (h' := (zsetV h 151 ((zw ((zw (l4 + (-1))) - 1))).toNat 1)) f136_254 (ys151 w) (by decide) k.1 (by decide) rfl rfl ?_
            replace k := k.2
            refine y_inc (pc' := 258) (L' := [some (vR (some 137)), some (vI l1), some (vI l2), some (vI l3), some (vI (zw (l4 + (-1)))), some (vI (zw (l5 + 1))), some (vI (zV h 150 (l5).toNat)), yo l7, yo l8, yo l9]) f136_255 rfl rfl rfl rfl ?_
            refine y_go (pc' := 11) f136_258 rfl ?_
            exact k
          · replace k := k.2 c
            refine y_s (pc' := 240) (L' := [some (vR (some 137)), some (vI l1), some (vI l2), some (vI l3), some (vI (zw (l4 + (-1)))), some (vI l5), some (vI (zV h 150 (l5).toNat)), yo l7, yo l8, yo l9]) (st' := [vR (some 137), vI (zw ((zw (l4 + (-1))) - 1)), vR (some 151)]) (h' := h) f136_239 rfl ?_
            refine y_gr (pc' := 243) f136_240 yf_8_51 rfl rfl (ys137 w) (yp137_24 w) rfl ?_
            refine y_s (pc' := 245) (L' := [some (vR (some 137)), some (vI l1), some (vI l2), some (vI l3), some (vI (zw (l4 + (-1)))), some (vI l5), some (vI (zV h 150 (l5).toNat)), yo l7, yo l8, yo l9]) (st' := [vI (zw (l4 + (-1))), vR (some 151), vI (zw ((zw (l4 + (-1))) - 1)), vR (some 151)]) (h' := h) f136_243 rfl ?_
            refine y_ba (pc' := 246) (x := (zV h 151 ((zw (l4 + (-1)))).toNat)) f136_245 (ys151 w) k.1 rfl rfl ?_
            replace k := k.2
            refine y_if (pcT := 253) (pc' := 249) (P := (zV h 151 ((zw (l4 + (-1)))).toNat) = 0) f136_246 rfl rfl rfl (fun c => ?_) (fun c => ?_)
            · replace k := k.1 c
              refine y_s (pc' := 254) (L' := [some (vR (some 137)), some (vI l1), some (vI l2), some (vI l3), some (vI (zw (l4 + (-1)))), some (vI l5), some (vI (zV h 150 (l5).toNat)), yo l7, yo l8, yo l9]) (st' := [vI 0, vI (zw ((zw (l4 + (-1))) - 1)), vR (some 151)]) (h' := h) f136_253 rfl ?_
              refine y_bs (pc' := 255) (h' := (zsetV h 151 ((zw ((zw (l4 + (-1))) - 1))).toNat 0)) f136_254 (ys151 w) (by decide) k.1 (by decide) rfl rfl ?_
              replace k := k.2
              refine y_inc (pc' := 258) (L' := [some (vR (some 137)), some (vI l1), some (vI l2), some (vI l3), some (vI (zw (l4 + (-1)))), some (vI (zw (l5 + 1))), some (vI (zV h 150 (l5).toNat)), yo l7, yo l8, yo l9]) f136_255 rfl rfl rfl rfl ?_
              refine y_go (pc' := 11) f136_258 rfl ?_
              exact k
            · replace k := k.2 c
              refine y_s (pc' := 250) (L' := [some (vR (some 137)), some (vI l1), some (vI l2), some (vI l3), some (vI (zw (l4 + (-1)))), some (vI l5), some (vI (zV h 150 (l5).toNat)), yo l7, yo l8, yo l9]) (st' := [vI 1, vI (zw ((zw (l4 + (-1))) - 1)), vR (some 151)]) (h' := h) f136_249 rfl ?_
              refine y_go (pc' := 254) f136_250 rfl ?_
              refine y_bs (pc' := 255) (h' := (zsetV h 151 ((zw ((zw (l4 + (-1))) - 1))).toNat 1)) f136_254 (ys151 w) (by decide) k.1 (by decide) rfl rfl ?_
              replace k := k.2
              refine y_inc (pc' := 258) (L' := [some (vR (some 137)), some (vI l1), some (vI l2), some (vI l3), some (vI (zw (l4 + (-1)))), some (vI (zw (l5 + 1))), some (vI (zV h 150 (l5).toNat)), yo l7, yo l8, yo l9]) f136_255 rfl rfl rfl rfl ?_
              refine y_go (pc' := 11) f136_258 rfl ?_
              exact k
        · replace k := k.2 c
          refine y_s (pc' := 198) (L' := [some (vR (some 137)), some (vI l1), some (vI l2), some (vI l3), some (vI (zw (l4 + (-1)))), some (vI l5), some (vI (zV h 150 (l5).toNat)), yo l7, yo l8, yo l9]) (st' := [vR (some 137), vI (zw ((zw (l4 + (-1))) - 1)), vR (some 151)]) (h' := h) f136_197 rfl ?_
          refine y_gr (pc' := 201) f136_198 yf_8_51 rfl rfl (ys137 w) (yp137_24 w) rfl ?_
          refine y_s (pc' := 203) (L' := [some (vR (some 137)), some (vI l1), some (vI l2), some (vI l3), some (vI (zw (l4 + (-1)))), some (vI l5), some (vI (zV h 150 (l5).toNat)), yo l7, yo l8, yo l9]) (st' := [vI (zw (l4 + (-1))), vR (some 151), vI (zw ((zw (l4 + (-1))) - 1)), vR (some 151)]) (h' := h) f136_201 rfl ?_
          refine y_s (pc' := 204) (L' := [some (vR (some 137)), some (vI l1), some (vI l2), some (vI l3), some (vI (zw (l4 + (-1)))), some (vI l5), some (vI (zV h 150 (l5).toNat)), yo l7, yo l8, yo l9]) (st' := [vI 1, vI (zw (l4 + (-1))), vR (some 151), vI (zw ((zw (l4 + (-1))) - 1)), vR (some 151)]) (h' := h) f136_203 rfl ?_
          refine y_s (pc' := 205) (L' := [some (vR (some 137)), some (vI l1), some (vI l2), some (vI l3), some (vI (zw (l4 + (-1)))), some (vI l5), some (vI (zV h 150 (l5).toNat)), yo l7, yo l8, yo l9]) (st' := [vI (zw ((zw (l4 + (-1))) - 1)), vR (some 151), vI (zw ((zw (l4 + (-1))) - 1)), vR (some 151)]) (h' := h) f136_204 rfl ?_
          refine y_ba (pc' := 206) (x := (zV h 151 ((zw ((zw (l4 + (-1))) - 1))).toNat)) f136_205 (ys151 w) k.1 rfl rfl ?_
          replace k := k.2
          refine y_if (pcT := 223) (pc' := 209) (P := (zV h 151 ((zw ((zw (l4 + (-1))) - 1))).toNat) = 0) f136_206 rfl rfl rfl (fun c => ?_) (fun c => ?_)
          · replace k := k.1 c
            refine y_s (pc' := 224) (L' := [some (vR (some 137)), some (vI l1), some (vI l2), some (vI l3), some (vI (zw (l4 + (-1)))), some (vI l5), some (vI (zV h 150 (l5).toNat)), yo l7, yo l8, yo l9]) (st' := [vI 0, vI (zw ((zw (l4 + (-1))) - 1)), vR (some 151)]) (h' := h) f136_223 rfl ?_
            refine y_go (pc' := 254) f136_224 rfl ?_
            refine y_bs (pc' := 255) (h' := (zsetV h 151 ((zw ((zw (l4 + (-1))) - 1))).toNat 0)) f136_254 (ys151 w) (by decide) k.1 (by decide) rfl rfl ?_
            replace k := k.2
            refine y_inc (pc' := 258) (L' := [some (vR (some 137)), some (vI l1), some (vI l2), some (vI l3), some (vI (zw (l4 + (-1)))), some (vI (zw (l5 + 1))), some (vI (zV h 150 (l5).toNat)), yo l7, yo l8, yo l9]) f136_255 rfl rfl rfl rfl ?_
            refine y_go (pc' := 11) f136_258 rfl ?_
            exact k
          · replace k := k.2 c
            refine y_s (pc' := 210) (L' := [some (vR (some 137)), some (vI l1), some (vI l2), some (vI l3), some (vI (zw (l4 + (-1)))), some (vI l5), some (vI (zV h 150 (l5).toNat)), yo l7, yo l8, yo l9]) (st' := [vR (some 137), vI (zw ((zw (l4 + (-1))) - 1)), vR (some 151)]) (h' := h) f136_209 rfl ?_
            refine y_gr (pc' := 213) f136_210 yf_8_51 rfl rfl (ys137 w) (yp137_24 w) rfl ?_
            refine y_s (pc' := 215) (L' := [some (vR (some 137)), some (vI l1), some (vI l2), some (vI l3), some (vI (zw (l4 + (-1)))), some (vI l5), some (vI (zV h 150 (l5).toNat)), yo l7, yo l8, yo l9]) (st' := [vI (zw (l4 + (-1))), vR (some 151), vI (zw ((zw (l4 + (-1))) - 1)), vR (some 151)]) (h' := h) f136_213 rfl ?_
            refine y_ba (pc' := 216) (x := (zV h 151 ((zw (l4 + (-1)))).toNat)) f136_215 (ys151 w) k.1 rfl rfl ?_
            replace k := k.2
            refine y_if (pcT := 223) (pc' := 219) (P := (zV h 151 ((zw (l4 + (-1)))).toNat) = 0) f136_216 rfl rfl rfl (fun c => ?_) (fun c => ?_)
            · replace k := k.1 c
              refine y_s (pc' := 224) (L' := [some (vR (some 137)), some (vI l1), some (vI l2), some (vI l3), some (vI (zw (l4 + (-1)))), some (vI l5), some (vI (zV h 150 (l5).toNat)), yo l7, yo l8, yo l9]) (st' := [vI 0, vI (zw ((zw (l4 + (-1))) - 1)), vR (some 151)]) (h' := h) f136_223 rfl ?_
              refine y_go (pc' := 254) f136_224 rfl ?_
              refine y_bs (pc' := 255) (h' := (zsetV h 151 ((zw ((zw (l4 + (-1))) - 1))).toNat 0)) f136_254 (ys151 w) (by decide) k.1 (by decide) rfl rfl ?_
              replace k := k.2
              refine y_inc (pc' := 258) (L' := [some (vR (some 137)), some (vI l1), some (vI l2), some (vI l3), some (vI (zw (l4 + (-1)))), some (vI (zw (l5 + 1))), some (vI (zV h 150 (l5).toNat)), yo l7, yo l8, yo l9]) f136_255 rfl rfl rfl rfl ?_
              refine y_go (pc' := 11) f136_258 rfl ?_
              exact k
            · replace k := k.2 c
              refine y_s (pc' := 220) (L' := [some (vR (some 137)), some (vI l1), some (vI l2), some (vI l3), some (vI (zw (l4 + (-1)))), some (vI l5), some (vI (zV h 150 (l5).toNat)), yo l7, yo l8, yo l9]) (st' := [vI 1, vI (zw ((zw (l4 + (-1))) - 1)), vR (some 151)]) (h' := h) f136_219 rfl ?_
              refine y_go (pc' := 254) f136_220 rfl ?_
              refine y_bs (pc' := 255) (h' := (zsetV h 151 ((zw ((zw (l4 + (-1))) - 1))).toNat 1)) f136_254 (ys151 w) (by decide) k.1 (by decide) rfl rfl ?_
              replace k := k.2
              refine y_inc (pc' := 258) (L' := [some (vR (some 137)), some (vI l1), some (vI l2), some (vI l3), some (vI (zw (l4 + (-1)))), some (vI (zw (l5 + 1))), some (vI (zV h 150 (l5).toNat)), yo l7, yo l8, yo l9]) f136_255 rfl rfl rfl rfl ?_
              refine y_go (pc' := 11) f136_258 rfl ?_
              exact k
      · replace k := k.2 c
        refine y_s (pc' := 152) (L' := [some (vR (some 137)), some (vI l1), some (vI l2), some (vI l3), some (vI l4), some (vI l5), some (vI (zV h 150 (l5).toNat)), yo l7, yo l8, yo l9]) (st' := [vR (some 137)]) (h' := h) f136_151 rfl ?_
        refine y_gr (pc' := 155) f136_152 yf_8_51 rfl rfl (ys137 w) (yp137_24 w) rfl ?_
        refine y_s (pc' := 157) (L' := [some (vR (some 137)), some (vI l1), some (vI l2), some (vI l3), some (vI l4), some (vI l5), some (vI (zV h 150 (l5).toNat)), yo l7, yo l8, yo l9]) (st' := [vI l4, vR (some 151)]) (h' := h) f136_155 rfl ?_
        refine y_s (pc' := 158) (L' := [some (vR (some 137)), some (vI l1), some (vI l2), some (vI l3), some (vI l4), some (vI l5), some (vI (zV h 150 (l5).toNat)), yo l7, yo l8, yo l9]) (st' := [vI 1, vI l4, vR (some 151)]) (h' := h) f136_157 rfl ?_
        refine y_s (pc' := 159) (L' := [some (vR (some 137)), some (vI l1), some (vI l2), some (vI l3), some (vI l4), some (vI l5), some (vI (zV h 150 (l5).toNat)), yo l7, yo l8, yo l9]) (st' := [vI (zw (l4 - 1)), vR (some 151)]) (h' := h) f136_158 rfl ?_
        refine y_s (pc' := 160) (L' := [some (vR (some 137)), some (vI l1), some (vI l2), some (vI l3), some (vI l4), some (vI l5), some (vI (zV h 150 (l5).toNat)), yo l7, yo l8, yo l9]) (st' := [vR (some 137), vI (zw (l4 - 1)), vR (some 151)]) (h' := h) f136_159 rfl ?_
        refine y_gr (pc' := 163) f136_160 yf_8_51 rfl rfl (ys137 w) (yp137_24 w) rfl ?_
        refine y_s (pc' := 165) (L' := [some (vR (some 137)), some (vI l1), some (vI l2), some (vI l3), some (vI l4), some (vI l5), some (vI (zV h 150 (l5).toNat)), yo l7, yo l8, yo l9]) (st' := [vI l4, vR (some 151), vI (zw (l4 - 1)), vR (some 151)]) (h' := h) f136_163 rfl ?_
        refine y_s (pc' := 166) (L' := [some (vR (some 137)), some (vI l1), some (vI l2), some (vI l3), some (vI l4), some (vI l5), some (vI (zV h 150 (l5).toNat)), yo l7, yo l8, yo l9]) (st' := [vI 1, vI l4, vR (some 151), vI (zw (l4 - 1)), vR (some 151)]) (h' := h) f136_165 rfl ?_
        refine y_s (pc' := 167) (L' := [some (vR (some 137)), some (vI l1), some (vI l2), some (vI l3), some (vI l4), some (vI l5), some (vI (zV h 150 (l5).toNat)), yo l7, yo l8, yo l9]) (st' := [vI (zw (l4 - 1)), vR (some 151), vI (zw (l4 - 1)), vR (some 151)]) (h' := h) f136_166 rfl ?_
        refine y_ba (pc' := 168) (x := (zV h 151 ((zw (l4 - 1))).toNat)) f136_167 (ys151 w) k.1 rfl rfl ?_
        replace k := k.2
        refine y_if (pcT := 175) (pc' := 171) (P := (zV h 151 ((zw (l4 - 1))).toNat) ≠ 0) f136_168 rfl rfl rfl (fun c => ?_) (fun c => ?_)
        · replace k := k.1 c
          refine y_s (pc' := 176) (L' := [some (vR (some 137)), some (vI l1), some (vI l2), some (vI l3), some (vI l4), some (vI l5), some (vI (zV h 150 (l5).toNat)), yo l7, yo l8, yo l9]) (st' := [vI 0, vI (zw (l4 - 1)), vR (some 151)]) (h' := h) f136_175 rfl ?_
          refine y_bs (pc' := 177) (h' := (zsetV h 151 ((zw (l4 - 1))).toNat 0)) f136_176 (ys151 w) (by decide) k.1 (by decide) rfl rfl ?_
          replace k := k.2
          refine y_go (pc' := 255) f136_177 rfl ?_
          refine y_inc (pc' := 258) (L' := [some (vR (some 137)), some (vI l1), some (vI l2), some (vI l3), some (vI l4), some (vI (zw (l5 + 1))), some (vI (zV h 150 (l5).toNat)), yo l7, yo l8, yo l9]) f136_255 rfl rfl rfl rfl ?_
          refine y_go (pc' := 11) f136_258 rfl ?_
          exact k
        · replace k := k.2 c
          refine y_s (pc' := 172) (L' := [some (vR (some 137)), some (vI l1), some (vI l2), some (vI l3), some (vI l4), some (vI l5), some (vI (zV h 150 (l5).toNat)), yo l7, yo l8, yo l9]) (st' := [vI 1, vI (zw (l4 - 1)), vR (some 151)]) (h' := h) f136_171 rfl ?_
          refine y_go (pc' := 176) f136_172 rfl ?_
          refine y_bs (pc' := 177) (h' := (zsetV h 151 ((zw (l4 - 1))).toNat 1)) f136_176 (ys151 w) (by decide) k.1 (by decide) rfl rfl ?_
          replace k := k.2
          refine y_go (pc' := 255) f136_177 rfl ?_
          refine y_inc (pc' := 258) (L' := [some (vR (some 137)), some (vI l1), some (vI l2), some (vI l3), some (vI l4), some (vI (zw (l5 + 1))), some (vI (zV h 150 (l5).toNat)), yo l7, yo l8, yo l9]) f136_255 rfl rfl rfl rfl ?_
          refine y_go (pc' := 11) f136_258 rfl ?_
          exact k
    · replace k := k.2 c
      refine y_s (pc' := 45) (L' := [some (vR (some 137)), some (vI l1), some (vI l2), some (vI l3), some (vI l4), some (vI l5), some (vI (zV h 150 (l5).toNat)), yo l7, yo l8, yo l9]) (st' := [vR (some 137)]) (h' := h) f136_44 rfl ?_
      refine y_s (pc' := 46) (L' := [some (vR (some 137)), some (vI l1), some (vI l2), some (vI l3), some (vI l4), some (vI l5), some (vI (zV h 150 (l5).toNat)), yo l7, yo l8, yo l9]) (st' := [vI l1, vR (some 137)]) (h' := h) f136_45 rfl ?_
      refine y_s (pc' := 47) (L' := [some (vR (some 137)), some (vI l1), some (vI l2), some (vI l3), some (vI l4), some (vI l5), some (vI (zV h 150 (l5).toNat)), yo l7, yo l8, yo l9]) (st' := [vI l2, vI l1, vR (some 137)]) (h' := h) f136_46 rfl ?_
      refine y_s (pc' := 49) (L' := [some (vR (some 137)), some (vI l1), some (vI l2), some (vI l3), some (vI l4), some (vI l5), some (vI (zV h 150 (l5).toNat)), yo l7, yo l8, yo l9]) (st' := [vI (zV h 150 (l5).toNat), vI l2, vI l1, vR (some 137)]) (h' := h) f136_47 rfl ?_
      refine y_s (pc' := 50) (L' := [some (vR (some 137)), some (vI l1), some (vI l2), some (vI l3), some (vI l4), some (vI l5), some (vI (zV h 150 (l5).toNat)), yo l7, yo l8, yo l9]) (st' := [vI 3, vI (zV h 150 (l5).toNat), vI l2, vI l1, vR (some 137)]) (h' := h) f136_49 rfl ?_
      refine y_s (pc' := 51) (L' := [some (vR (some 137)), some (vI l1), some (vI l2), some (vI l3), some (vI l4), some (vI l5), some (vI (zV h 150 (l5).toNat)), yo l7, yo l8, yo l9]) (st' := [vI (zw ((zV h 150 (l5).toNat) - 3)), vI l2, vI l1, vR (some 137)]) (h' := h) f136_50 rfl ?_
      refine y_s (pc' := 54) (L' := [some (vR (some 137)), some (vI l1), some (vI l2), some (vI l3), some (vI l4), some (vI l5), some (vI (zV h 150 (l5).toNat)), yo l7, yo l8, yo l9]) (st' := [vI 300, vI (zw ((zV h 150 (l5).toNat) - 3)), vI l2, vI l1, vR (some 137)]) (h' := h) f136_51 rfl ?_
      refine y_dv (pc' := 55) f136_54 (by decide) rfl ?_
      refine y_cI (pc' := 58) (as := [vR (some 137), vI l1, vI l2, vI (zdiv (zw ((zV h 150 (l5).toNat) - 3)) 300)]) (r := []) f136_55 (yzv ym_8_238 rfl (ys137 w) rfl rfl) (by omega) rfl ?_
      exact k
theorem W136_58 {d : Nat} {K : Int → Hp → Prop} (w : yWF zl nl h) {l1 : Int} {l2 : Int} {l3 : Int} {l4 : Int} {l5 : Int} {l6 : Int} {l7 : Option Int} {l8 : Option Int} {l9 : Option Int} {s0 : Int} (k : (((zrem (zdiv (zw (l6 - 3)) 100) 3) ≠ 0 → (((zrem (zdiv (zw (l6 - 3)) 100) 3) ≠ 1 → ((s0 ≤ (zrem (zw (l6 - 3)) 100) → ((0 ≤ l4 ∧ l4 < 110) ∧ ZW d prog_10_method_25_code 8 11 [some (vR (some 137)), some (vI l1), some (vI l2), some (vI l3), some (vI (zw (l4 + 1))), some (vI (zw (l5 + 1))), some (vI l6), some (vI s0), some (vI (zrem (zw (l6 - 3)) 100)), some (vI (zrem (zdiv (zw (l6 - 3)) 100) 3))] [] (zsetV h 151 (l4).toNat 0) (yq 2 (yqI K)))) ∧ (¬ (s0 ≤ (zrem (zw (l6 - 3)) 100)) → ((0 ≤ l4 ∧ l4 < 110) ∧ ZW d prog_10_method_25_code 8 11 [some (vR (some 137)), some (vI l1), some (vI l2), some (vI l3), some (vI (zw (l4 + 1))), some (vI (zw (l5 + 1))), some (vI l6), some (vI s0), some (vI (zrem (zw (l6 - 3)) 100)), some (vI (zrem (zdiv (zw (l6 - 3)) 100) 3))] [] (zsetV h 151 (l4).toNat 1) (yq 2 (yqI K)))))) ∧ (¬ ((zrem (zdiv (zw (l6 - 3)) 100) 3) ≠ 1) → ((s0 ≠ (zrem (zw (l6 - 3)) 100) → ((0 ≤ l4 ∧ l4 < 110) ∧ ZW d prog_10_method_25_code 8 11 [some (vR (some 137)), some (vI l1), some (vI l2), some (vI l3), some (vI (zw (l4 + 1))), some (vI (zw (l5 + 1))), some (vI l6), some (vI s0), some (vI (zrem (zw (l6 - 3)) 100)), some (vI (zrem (zdiv (zw (l6 - 3)) 100) 3))] [] (zsetV h 151 (l4).toNat 0) (yq 2 (yqI K)))) ∧ (¬ (s0 ≠ (zrem (zw (l6 - 3)) 100)) → ((0 ≤ l4 ∧ l4 < 110) ∧ ZW d prog_10_method_25_code 8 11 [some (vR (some 137)), some (vI l1), some (vI l2), some (vI l3), some (vI (zw (l4 + 1))), some (vI (zw (l5 + 1))), some (vI l6), some (vI s0), some (vI (zrem (zw (l6 - 3)) 100)), some (vI (zrem (zdiv (zw (l6 - 3)) 100) 3))] [] (zsetV h 151 (l4).toNat 1) (yq 2 (yqI K)))))))) ∧ (¬ ((zrem (zdiv (zw (l6 - 3)) 100) 3) ≠ 0) → (((zrem (zw (l6 - 3)) 100) ≤ s0 → ((0 ≤ l4 ∧ l4 < 110) ∧ ZW d prog_10_method_25_code 8 11 [some (vR (some 137)), some (vI l1), some (vI l2), some (vI l3), some (vI (zw (l4 + 1))), some (vI (zw (l5 + 1))), some (vI l6), some (vI s0), some (vI (zrem (zw (l6 - 3)) 100)), some (vI (zrem (zdiv (zw (l6 - 3)) 100) 3))] [] (zsetV h 151 (l4).toNat 0) (yq 2 (yqI K)))) ∧ (¬ ((zrem (zw (l6 - 3)) 100) ≤ s0) → ((0 ≤ l4 ∧ l4 < 110) ∧ ZW d prog_10_method_25_code 8 11 [some (vR (some 137)), some (vI l1), some (vI l2), some (vI l3), some (vI (zw (l4 + 1))), some (vI (zw (l5 + 1))), some (vI l6), some (vI s0), some (vI (zrem (zw (l6 - 3)) 100)), some (vI (zrem (zdiv (zw (l6 - 3)) 100) 3))] [] (zsetV h 151 (l4).toNat 1) (yq 2 (yqI K)))))))) : ZW d prog_10_method_25_code 8 58 [some (vR (some 137)), some (vI l1), some (vI l2), some (vI l3), some (vI l4), some (vI l5), some (vI l6), yo l7, yo l8, yo l9] [vI s0] h (yq 2 (yqI K)) := by
  refine y_sto (pc' := 60) (k := 7) (L' := [some (vR (some 137)), some (vI l1), some (vI l2), some (vI l3), some (vI l4), some (vI l5), some (vI l6), some (vI s0), yo l8, yo l9]) f136_58 rfl rfl rfl rfl rfl rfl ?_
  refine y_s (pc' := 62) (L' := [some (vR (some 137)), some (vI l1), some (vI l2), some (vI l3), some (vI l4), some (vI l5), some (vI l6), some (vI s0), yo l8, yo l9]) (st' := [vI l6]) (h' := h) f136_60 rfl ?_
  refine y_s (pc' := 63) (L' := [some (vR (some 137)), some (vI l1), some (vI l2), some (vI l3), some (vI l4), some (vI l5), some (vI l6), some (vI s0), yo l8, yo l9]) (st' := [vI 3, vI l6]) (h' := h) f136_62 rfl ?_
  refine y_s (pc' := 64) (L' := [some (vR (some 137)), some (vI l1), some (vI l2), some (vI l3), some (vI l4), some (vI l5), some (vI l6), some (vI s0), yo l8, yo l9]) (st' := [vI (zw (l6 - 3))]) (h' := h) f136_63 rfl ?_
  refine y_s (pc' := 66) (L' := [some (vR (some 137)), some (vI l1), some (vI l2), some (vI l3), some (vI l4), some (vI l5), some (vI l6), some (vI s0), yo l8, yo l9]) (st' := [vI 100, vI (zw (l6 - 3))]) (h' := h) f136_64 rfl ?_
  refine y_rm (pc' := 67) f136_66 (by decide) rfl ?_
  refine y_sto (pc' := 69) (k := 8) (L' := [some (vR (some 137)), some (vI l1), some (vI l2), some (vI l3), some (vI l4), some (vI l5), some (vI l6), some (vI s0), some (vI (zrem (zw (l6 - 3)) 100)), yo l9]) f136_67 rfl rfl rfl rfl rfl rfl ?_
  refine y_s (pc' := 71) (L' := [some (vR (some 137)), some (vI l1), some (vI l2), some (vI l3), some (vI l4), some (vI l5), some (vI l6), some (vI s0), some (vI (zrem (zw (l6 - 3)) 100)), yo l9]) (st' := [vI l6]) (h' := h) f136_69 rfl ?_
  refine y_s (pc' := 72) (L' := [some (vR (some 137)), some (vI l1), some (vI l2), some (vI l3), some (vI l4), some (vI l5), some (vI l6), some (vI s0), some (vI (zrem (zw (l6 - 3)) 100)), yo l9]) (st' := [vI 3, vI l6]) (h' := h) f136_71 rfl ?_
  refine y_s (pc' := 73) (L' := [some (vR (some 137)), some (vI l1), some (vI l2), some (vI l3), some (vI l4), some (vI l5), some (vI l6), some (vI s0), some (vI (zrem (zw (l6 - 3)) 100)), yo l9]) (st' := [vI (zw (l6 - 3))]) (h' := h) f136_72 rfl ?_
  refine y_s (pc' := 75) (L' := [some (vR (some 137)), some (vI l1), some (vI l2), some (vI l3), some (vI l4), some (vI l5), some (vI l6), some (vI s0), some (vI (zrem (zw (l6 - 3)) 100)), yo l9]) (st' := [vI 100, vI (zw (l6 - 3))]) (h' := h) f136_73 rfl ?_
  refine y_dv (pc' := 76) f136_75 (by decide) rfl ?_
  refine y_s (pc' := 77) (L' := [some (vR (some 137)), some (vI l1), some (vI l2), some (vI l3), some (vI l4), some (vI l5), some (vI l6), some (vI s0), some (vI (zrem (zw (l6 - 3)) 100)), yo l9]) (st' := [vI 3, vI (zdiv (zw (l6 - 3)) 100)]) (h' := h) f136_76 rfl ?_
  refine y_rm (pc' := 78) f136_77 (by decide) rfl ?_
  refine y_sto (pc' := 80) (k := 9) (L' := [some (vR (some 137)), some (vI l1), some (vI l2), some (vI l3), some (vI l4), some (vI l5), some (vI l6), some (vI s0), some (vI (zrem (zw (l6 - 3)) 100)), some (vI (zrem (zdiv (zw (l6 - 3)) 100) 3))]) f136_78 rfl rfl rfl rfl rfl rfl ?_
  refine y_s (pc' := 81) (L' := [some (vR (some 137)), some (vI l1), some (vI l2), some (vI l3), some (vI l4), some (vI l5), some (vI l6), some (vI s0), some (vI (zrem (zw (l6 - 3)) 100)), some (vI (zrem (zdiv (zw (l6 - 3)) 100) 3))]) (st' := [vR (some 137)]) (h' := h) f136_80 rfl ?_
  refine y_gr (pc' := 84) f136_81 yf_8_51 rfl rfl (ys137 w) (yp137_24 w) rfl ?_
  refine y_s (pc' := 86) (L' := [some (vR (some 137)), some (vI l1), some (vI l2), some (vI l3), some (vI l4), some (vI l5), some (vI l6), some (vI s0), some (vI (zrem (zw (l6 - 3)) 100)), some (vI (zrem (zdiv (zw (l6 - 3)) 100) 3))]) (st' := [vI l4, vR (some 151)]) (h' := h) f136_84 rfl ?_
  refine y_inc (pc' := 89) (L' := [some (vR (some 137)), some (vI l1), some (vI l2), some (vI l3), some (vI (zw (l4 + 1))), some (vI l5), some (vI l6), some (vI s0), some (vI (zrem (zw (l6 - 3)) 100)), some (vI (zrem (zdiv (zw (l6 - 3)) 100) 3))]) f136_86 rfl rfl rfl rfl ?_
  refine y_s (pc' := 91) (L' := [some (vR (some 137)), some (vI l1), some (vI l2), some (vI l3), some (vI (zw (l4 + 1))), some (vI l5), some (vI l6), some (vI s0), some (vI (zrem (zw (l6 - 3)) 100)), some (vI (zrem (zdiv (zw (l6 - 3)) 100) 3))]) (st' := [vI (zrem (zdiv (zw (l6 - 3)) 100) 3), vI l4, vR (some 151)]) (h' := h) f136_89 rfl ?_
  refine y_if (pcT := 109) (pc' := 94) (P := (zrem (zdiv (zw (l6 - 3)) 100) 3) ≠ 0) f136_91 rfl rfl rfl (fun c => ?_) (fun c => ?_)
  · replace k := k.1 c
    refine y_s (pc' := 111) (L' := [some (vR (some 137)), some (vI l1), some (vI l2), some (vI l3), some (vI (zw (l4 + 1))), some (vI l5), some (vI l6), some (vI s0), some (vI (zrem (zw (l6 - 3)) 100)), some (vI (zrem (zdiv (zw (l6 - 3)) 100) 3))]) (st' := [vI (zrem (zdiv (zw (l6 - 3)) 100) 3), vI l4, vR (some 151)]) (h' := h) f136_109 rfl ?_
    refine y_s (pc' := 112) (L' := [some (vR (some 137)), some (vI l1), some (vI l2), some (vI l3), some (vI (zw (l4 + 1))), some (vI l5), some (vI l6), some (vI s0), some (vI (zrem (zw (l6 - 3)) 100)), some (vI (zrem (zdiv (zw (l6 - 3)) 100) 3))]) (st' := [vI 1, vI (zrem (zdiv (zw (l6 - 3)) 100) 3), vI l4, vR (some 151)]) (h' := h) f136_111 rfl ?_
    refine y_ic (pcT := 130) (pc' := 115) (P := (zrem (zdiv (zw (l6 - 3)) 100) 3) ≠ 1) f136_112 rfl rfl rfl (fun c => ?_) (fun c => ?_)
    · replace k := k.1 c
      refine y_s (pc' := 132) (L' := [some (vR (some 137)), some (vI l1), some (vI l2), some (vI l3), some (vI (zw (l4 + 1))), some (vI l5), some (vI l6), some (vI s0), some (vI (zrem (zw (l6 - 3)) 100)), some (vI (zrem (zdiv (zw (l6 - 3)) 100) 3))]) (st' := [vI s0, vI l4, vR (some 151)]) (h' := h) f136_130 rfl ?_
      refine y_s (pc' := 134) (L' := [some (vR (some 137)), some (vI l1), some (vI l2), some (vI l3), some (vI (zw (l4 + 1))), some (vI l5), some (vI l6), some (vI s0), some (vI (zrem (zw (l6 - 3)) 100)), some (vI (zrem (zdiv (zw (l6 - 3)) 100) 3))]) (st' := [vI (zrem (zw (l6 - 3)) 100), vI s0, vI l4, vR (some 151)]) (h' := h) f136_132 rfl ?_
      refine y_ic (pcT := 141) (pc' := 137) (P := s0 ≤ (zrem (zw (l6 - 3)) 100)) f136_134 rfl rfl rfl (fun c => ?_) (fun c => ?_)
      · replace k := k.1 c
        refine y_s (pc' := 142) (L' := [some (vR (some 137)), some (vI l1), some (vI l2), some (vI l3), some (vI (zw (l4 + 1))), some (vI l5), some (vI l6), some (vI s0), some (vI (zrem (zw (l6 - 3)) 100)), some (vI (zrem (zdiv (zw (l6 - 3)) 100) 3))]) (st' := [vI 0, vI l4, vR (some 151)]) (h' := h) f136_141 rfl ?_
        refine y_bs (pc' := 143) (h' := (zsetV h 151 (l4).toNat 0)) f136_142 (ys151 w) (by decide) k.1 (by decide) rfl rfl ?_
        replace k := k.2
        refine y_go (pc' := 255) f136_143 rfl ?_
        refine y_inc (pc' := 258) (L' := [some (vR (some 137)), some (vI l1), some (vI l2), some (vI l3), some (vI (zw (l4 + 1))), some (vI (zw (l5 + 1))), some (vI l6), some (vI s0), some (vI (zrem (zw (l6 - 3)) 100)), some (vI (zrem (zdiv (zw (l6 - 3)) 100) 3))]) f136_255 rfl rfl rfl rfl ?_
        refine y_go (pc' := 11) f136_258 rfl ?_
        exact k
      · replace k := k.2 c
        refine y_s (pc' := 138) (L' := [some (vR (some 137)), some (vI l1), some (vI l2), some (vI l3), some (vI (zw (l4 + 1))), some (vI l5), some (vI l6), some (vI s0), some (vI (zrem (zw (l6 - 3)) 100)), some (vI (zrem (zdiv (zw (l6 - 3)) 100) 3))]) (st' := [vI 1, vI l4, vR (some 151)]) (h' := h) f136_137 rfl ?_
        refine y_go (pc' := 142) f136_138 rfl ?_
        refine y_bs (pc' := 143) (h' := (zsetV h 151 (l4).toNat 1)) f136_142 (ys151 w) (by decide) k.1 (by decide) rfl rfl ?_
        replace k := k.2
        refine y_go (pc' := 255) f136_143 rfl ?_
        refine y_inc (pc' := 258) (L' := [some (vR (some 137)), some (vI l1), some (vI l2), some (vI l3), some (vI (zw (l4 + 1))), some (vI (zw (l5 + 1))), some (vI l6), some (vI s0), some (vI (zrem (zw (l6 - 3)) 100)), some (vI (zrem (zdiv (zw (l6 - 3)) 100) 3))]) f136_255 rfl rfl rfl rfl ?_
        refine y_go (pc' := 11) f136_258 rfl ?_
        exact k
    · replace k := k.2 c
      refine y_s (pc' := 117) (L' := [some (vR (some 137)), some (vI l1), some (vI l2), some (vI l3), some (vI (zw (l4 + 1))), some (vI l5), some (vI l6), some (vI s0), some (vI (zrem (zw (l6 - 3)) 100)), some (vI (zrem (zdiv (zw (l6 - 3)) 100) 3))]) (st' := [vI s0, vI l4, vR (some 151)]) (h' := h) f136_115 rfl ?_
      refine y_s (pc' := 119) (L' := [some (vR (some 137)), some (vI l1), some (vI l2), some (vI l3), some (vI (zw (l4 + 1))), some (vI l5), some (vI l6), some (vI s0), some (vI (zrem (zw (l6 - 3)) 100)), some (vI (zrem (zdiv (zw (l6 - 3)) 100) 3))]) (st' := [vI (zrem (zw (l6 - 3)) 100), vI s0, vI l4, vR (some 151)]) (h' := h) f136_117 rfl ?_
      refine y_ic (pcT := 126) (pc' := 122) (P := s0 ≠ (zrem (zw (l6 - 3)) 100)) f136_119 rfl rfl rfl (fun c => ?_) (fun c => ?_)
      · replace k := k.1 c
        refine y_s (pc' := 127) (L' := [some (vR (some 137)), some (vI l1), some (vI l2), some (vI l3), some (vI (zw (l4 + 1))), some (vI l5), some (vI l6), some (vI s0), some (vI (zrem (zw (l6 - 3)) 100)), some (vI (zrem (zdiv (zw (l6 - 3)) 100) 3))]) (st' := [vI 0, vI l4, vR (some 151)]) (h' := h) f136_126 rfl ?_
        refine y_go (pc' := 142) f136_127 rfl ?_
        refine y_bs (pc' := 143) (h' := (zsetV h 151 (l4).toNat 0)) f136_142 (ys151 w) (by decide) k.1 (by decide) rfl rfl ?_
        replace k := k.2
        refine y_go (pc' := 255) f136_143 rfl ?_
        refine y_inc (pc' := 258) (L' := [some (vR (some 137)), some (vI l1), some (vI l2), some (vI l3), some (vI (zw (l4 + 1))), some (vI (zw (l5 + 1))), some (vI l6), some (vI s0), some (vI (zrem (zw (l6 - 3)) 100)), some (vI (zrem (zdiv (zw (l6 - 3)) 100) 3))]) f136_255 rfl rfl rfl rfl ?_
        refine y_go (pc' := 11) f136_258 rfl ?_
        exact k
      · replace k := k.2 c
        refine y_s (pc' := 123) (L' := [some (vR (some 137)), some (vI l1), some (vI l2), some (vI l3), some (vI (zw (l4 + 1))), some (vI l5), some (vI l6), some (vI s0), some (vI (zrem (zw (l6 - 3)) 100)), some (vI (zrem (zdiv (zw (l6 - 3)) 100) 3))]) (st' := [vI 1, vI l4, vR (some 151)]) (h' := h) f136_122 rfl ?_
        refine y_go (pc' := 142) f136_123 rfl ?_
        refine y_bs (pc' := 143) (h' := (zsetV h 151 (l4).toNat 1)) f136_142 (ys151 w) (by decide) k.1 (by decide) rfl rfl ?_
        replace k := k.2
        refine y_go (pc' := 255) f136_143 rfl ?_
        refine y_inc (pc' := 258) (L' := [some (vR (some 137)), some (vI l1), some (vI l2), some (vI l3), some (vI (zw (l4 + 1))), some (vI (zw (l5 + 1))), some (vI l6), some (vI s0), some (vI (zrem (zw (l6 - 3)) 100)), some (vI (zrem (zdiv (zw (l6 - 3)) 100) 3))]) f136_255 rfl rfl rfl rfl ?_
        refine y_go (pc' := 11) f136_258 rfl ?_
        exact k
  · replace k := k.2 c
    refine y_s (pc' := 96) (L' := [some (vR (some 137)), some (vI l1), some (vI l2), some (vI l3), some (vI (zw (l4 + 1))), some (vI l5), some (vI l6), some (vI s0), some (vI (zrem (zw (l6 - 3)) 100)), some (vI (zrem (zdiv (zw (l6 - 3)) 100) 3))]) (st' := [vI s0, vI l4, vR (some 151)]) (h' := h) f136_94 rfl ?_
    refine y_s (pc' := 98) (L' := [some (vR (some 137)), some (vI l1), some (vI l2), some (vI l3), some (vI (zw (l4 + 1))), some (vI l5), some (vI l6), some (vI s0), some (vI (zrem (zw (l6 - 3)) 100)), some (vI (zrem (zdiv (zw (l6 - 3)) 100) 3))]) (st' := [vI (zrem (zw (l6 - 3)) 100), vI s0, vI l4, vR (some 151)]) (h' := h) f136_96 rfl ?_
    refine y_ic (pcT := 105) (pc' := 101) (P := (zrem (zw (l6 - 3)) 100) ≤ s0) f136_98 rfl rfl rfl (fun c => ?_) (fun c => ?_)
    · replace k := k.1 c
      refine y_s (pc' := 106) (L' := [some (vR (some 137)), some (vI l1), some (vI l2), some (vI l3), some (vI (zw (l4 + 1))), some (vI l5), some (vI l6), some (vI s0), some (vI (zrem (zw (l6 - 3)) 100)), some (vI (zrem (zdiv (zw (l6 - 3)) 100) 3))]) (st' := [vI 0, vI l4, vR (some 151)]) (h' := h) f136_105 rfl ?_
      refine y_go (pc' := 142) f136_106 rfl ?_
      refine y_bs (pc' := 143) (h' := (zsetV h 151 (l4).toNat 0)) f136_142 (ys151 w) (by decide) k.1 (by decide) rfl rfl ?_
      replace k := k.2
      refine y_go (pc' := 255) f136_143 rfl ?_
      refine y_inc (pc' := 258) (L' := [some (vR (some 137)), some (vI l1), some (vI l2), some (vI l3), some (vI (zw (l4 + 1))), some (vI (zw (l5 + 1))), some (vI l6), some (vI s0), some (vI (zrem (zw (l6 - 3)) 100)), some (vI (zrem (zdiv (zw (l6 - 3)) 100) 3))]) f136_255 rfl rfl rfl rfl ?_
      refine y_go (pc' := 11) f136_258 rfl ?_
      exact k
    · replace k := k.2 c
      refine y_s (pc' := 102) (L' := [some (vR (some 137)), some (vI l1), some (vI l2), some (vI l3), some (vI (zw (l4 + 1))), some (vI l5), some (vI l6), some (vI s0), some (vI (zrem (zw (l6 - 3)) 100)), some (vI (zrem (zdiv (zw (l6 - 3)) 100) 3))]) (st' := [vI 1, vI l4, vR (some 151)]) (h' := h) f136_101 rfl ?_
      refine y_go (pc' := 142) f136_102 rfl ?_
      refine y_bs (pc' := 143) (h' := (zsetV h 151 (l4).toNat 1)) f136_142 (ys151 w) (by decide) k.1 (by decide) rfl rfl ?_
      replace k := k.2
      refine y_go (pc' := 255) f136_143 rfl ?_
      refine y_inc (pc' := 258) (L' := [some (vR (some 137)), some (vI l1), some (vI l2), some (vI l3), some (vI (zw (l4 + 1))), some (vI (zw (l5 + 1))), some (vI l6), some (vI s0), some (vI (zrem (zw (l6 - 3)) 100)), some (vI (zrem (zdiv (zw (l6 - 3)) 100) 3))]) f136_255 rfl rfl rfl rfl ?_
      refine y_go (pc' := 11) f136_258 rfl ?_
      exact k
/-- HatterTunesModel.growBy()I -/
theorem E143 {d : Nat} {K : Int → Hp → Prop} (w : yWF zl nl h) (k : ZW d prog_10_method_27_code 8 4 [some (vR (some 137)), some (vI 0), some (vI 0)] [] h (yq 1 (yqI K))) : yI d 143 [vR (some 137)] h K := by
  refine y_en (L := [some (vR (some 137)), none, none]) rfl rfl ?_
  refine y_s (pc' := 1) (L' := [some (vR (some 137)), none, none]) (st' := [vI 0]) (h' := h) f143_0 rfl ?_
  refine y_sto (pc' := 2) (k := 1) (L' := [some (vR (some 137)), some (vI 0), none]) f143_1 rfl rfl rfl rfl rfl rfl ?_
  refine y_s (pc' := 3) (L' := [some (vR (some 137)), some (vI 0), none]) (st' := [vI 0]) (h' := h) f143_2 rfl ?_
  refine y_sto (pc' := 4) (k := 2) (L' := [some (vR (some 137)), some (vI 0), some (vI 0)]) f143_3 rfl rfl rfl rfl rfl rfl ?_
  exact k
theorem W143_4 {d : Nat} {K : Int → Hp → Prop} (w : yWF zl nl h) {l1 : Int} {l2 : Int} (k : (((zV h 137 16) = (-1) → K l1 h) ∧ (¬ ((zV h 137 16) = (-1)) → ((0 ≤ (zV h 137 16) ∧ (zV h 137 16) < 6) ∧ (((zV h 145 ((zV h 137 16)).toNat) ≤ l2 → K l1 h) ∧ (¬ ((zV h 145 ((zV h 137 16)).toNat) ≤ l2) → ((0 ≤ (zw ((zw (10 * (zV h 137 16))) + l2)) ∧ (zw ((zw (10 * (zV h 137 16))) + l2)) < 61) ∧ (((zV h 146 ((zw ((zw (10 * (zV h 137 16))) + l2))).toNat) ≠ 2 → ZW d prog_10_method_27_code 8 4 [some (vR (some 137)), some (vI l1), some (vI (zw (l2 + 1)))] [] h (yq 1 (yqI K))) ∧ (¬ ((zV h 146 ((zw ((zw (10 * (zV h 137 16))) + l2))).toNat) ≠ 2) → ((0 ≤ (zw ((zw (10 * (zV h 137 16))) + l2)) ∧ (zw ((zw (10 * (zV h 137 16))) + l2)) < 61) ∧ ZW d prog_10_method_27_code 8 4 [some (vR (some 137)), some (vI (zV h 147 ((zw ((zw (10 * (zV h 137 16))) + l2))).toNat)), some (vI (zw (l2 + 1)))] [] h (yq 1 (yqI K)))))))))))) : ZW d prog_10_method_27_code 8 4 [some (vR (some 137)), some (vI l1), some (vI l2)] [] h (yq 1 (yqI K)) := by
  refine y_s (pc' := 5) (L' := [some (vR (some 137)), some (vI l1), some (vI l2)]) (st' := [vR (some 137)]) (h' := h) f143_4 rfl ?_
  refine y_gi (pc' := 8) f143_5 yf_8_110 rfl rfl (ys137 w) rfl ?_
  refine y_s (pc' := 9) (L' := [some (vR (some 137)), some (vI l1), some (vI l2)]) (st' := [vI (-1), vI (zV h 137 16)]) (h' := h) f143_8 rfl ?_
  refine y_ic (pcT := 64) (pc' := 12) (P := (zV h 137 16) = (-1)) f143_9 rfl rfl rfl (fun c => ?_) (fun c => ?_)
  · replace k := k.1 c
    refine y_s (pc' := 65) (L' := [some (vR (some 137)), some (vI l1), some (vI l2)]) (st' := [vI l1]) (h' := h) f143_64 rfl ?_
    exact y_ri f143_65 ⟨rfl, k⟩
  · replace k := k.2 c
    refine y_s (pc' := 13) (L' := [some (vR (some 137)), some (vI l1), some (vI l2)]) (st' := [vI l2]) (h' := h) f143_12 rfl ?_
    refine y_s (pc' := 14) (L' := [some (vR (some 137)), some (vI l1), some (vI l2)]) (st' := [vR (some 137), vI l2]) (h' := h) f143_13 rfl ?_
    refine y_gr (pc' := 17) f143_14 yf_8_33 rfl rfl (ys137 w) (yp137_17 w) rfl ?_
    refine y_s (pc' := 18) (L' := [some (vR (some 137)), some (vI l1), some (vI l2)]) (st' := [vR (some 137), vR (some 145), vI l2]) (h' := h) f143_17 rfl ?_
    refine y_gi (pc' := 21) f143_18 yf_8_110 rfl rfl (ys137 w) rfl ?_
    refine y_ia (pc' := 22) (x := (zV h 145 ((zV h 137 16)).toNat)) f143_21 (ys145 w) k.1 rfl rfl ?_
    replace k := k.2
    refine y_ic (pcT := 64) (pc' := 25) (P := (zV h 145 ((zV h 137 16)).toNat) ≤ l2) f143_22 rfl rfl rfl (fun c => ?_) (fun c => ?_)
    · replace k := k.1 c
      refine y_s (pc' := 65) (L' := [some (vR (some 137)), some (vI l1), some (vI l2)]) (st' := [vI l1]) (h' := h) f143_64 rfl ?_
      exact y_ri f143_65 ⟨rfl, k⟩
    · replace k := k.2 c
      refine y_s (pc' := 26) (L' := [some (vR (some 137)), some (vI l1), some (vI l2)]) (st' := [vR (some 137)]) (h' := h) f143_25 rfl ?_
      refine y_gr (pc' := 29) f143_26 yf_8_36 rfl rfl (ys137 w) (yp137_18 w) rfl ?_
      refine y_s (pc' := 31) (L' := [some (vR (some 137)), some (vI l1), some (vI l2)]) (st' := [vI 10, vR (some 146)]) (h' := h) f143_29 rfl ?_
      refine y_s (pc' := 32) (L' := [some (vR (some 137)), some (vI l1), some (vI l2)]) (st' := [vR (some 137), vI 10, vR (some 146)]) (h' := h) f143_31 rfl ?_
      refine y_gi (pc' := 35) f143_32 yf_8_110 rfl rfl (ys137 w) rfl ?_
      refine y_s (pc' := 36) (L' := [some (vR (some 137)), some (vI l1), some (vI l2)]) (st' := [vI (zw (10 * (zV h 137 16))), vR (some 146)]) (h' := h) f143_35 rfl ?_
      refine y_s (pc' := 37) (L' := [some (vR (some 137)), some (vI l1), some (vI l2)]) (st' := [vI l2, vI (zw (10 * (zV h 137 16))), vR (some 146)]) (h' := h) f143_36 rfl ?_
      refine y_s (pc' := 38) (L' := [some (vR (some 137)), some (vI l1), some (vI l2)]) (st' := [vI (zw ((zw (10 * (zV h 137 16))) + l2)), vR (some 146)]) (h' := h) f143_37 rfl ?_
      refine y_ia (pc' := 39) (x := (zV h 146 ((zw ((zw (10 * (zV h 137 16))) + l2))).toNat)) f143_38 (ys146 w) k.1 rfl rfl ?_
      replace k := k.2
      refine y_s (pc' := 40) (L' := [some (vR (some 137)), some (vI l1), some (vI l2)]) (st' := [vI 2, vI (zV h 146 ((zw ((zw (10 * (zV h 137 16))) + l2))).toNat)]) (h' := h) f143_39 rfl ?_
      refine y_ic (pcT := 58) (pc' := 43) (P := (zV h 146 ((zw ((zw (10 * (zV h 137 16))) + l2))).toNat) ≠ 2) f143_40 rfl rfl rfl (fun c => ?_) (fun c => ?_)
      · replace k := k.1 c
        refine y_inc (pc' := 61) (L' := [some (vR (some 137)), some (vI l1), some (vI (zw (l2 + 1)))]) f143_58 rfl rfl rfl rfl ?_
        refine y_go (pc' := 4) f143_61 rfl ?_
        exact k
      · replace k := k.2 c
        refine y_s (pc' := 44) (L' := [some (vR (some 137)), some (vI l1), some (vI l2)]) (st' := [vR (some 137)]) (h' := h) f143_43 rfl ?_
        refine y_gr (pc' := 47) f143_44 yf_8_39 rfl rfl (ys137 w) (yp137_19 w) rfl ?_
        refine y_s (pc' := 49) (L' := [some (vR (some 137)), some (vI l1), some (vI l2)]) (st' := [vI 10, vR (some 147)]) (h' := h) f143_47 rfl ?_
        refine y_s (pc' := 50) (L' := [some (vR (some 137)), some (vI l1), some (vI l2)]) (st' := [vR (some 137), vI 10, vR (some 147)]) (h' := h) f143_49 rfl ?_
        refine y_gi (pc' := 53) f143_50 yf_8_110 rfl rfl (ys137 w) rfl ?_
        refine y_s (pc' := 54) (L' := [some (vR (some 137)), some (vI l1), some (vI l2)]) (st' := [vI (zw (10 * (zV h 137 16))), vR (some 147)]) (h' := h) f143_53 rfl ?_
        refine y_s (pc' := 55) (L' := [some (vR (some 137)), some (vI l1), some (vI l2)]) (st' := [vI l2, vI (zw (10 * (zV h 137 16))), vR (some 147)]) (h' := h) f143_54 rfl ?_
        refine y_s (pc' := 56) (L' := [some (vR (some 137)), some (vI l1), some (vI l2)]) (st' := [vI (zw ((zw (10 * (zV h 137 16))) + l2)), vR (some 147)]) (h' := h) f143_55 rfl ?_
        refine y_ia (pc' := 57) (x := (zV h 147 ((zw ((zw (10 * (zV h 137 16))) + l2))).toNat)) f143_56 (ys147 w) k.1 rfl rfl ?_
        replace k := k.2
        refine y_sto (pc' := 58) (k := 1) (L' := [some (vR (some 137)), some (vI (zV h 147 ((zw ((zw (10 * (zV h 137 16))) + l2))).toNat)), some (vI l2)]) f143_57 rfl rfl rfl rfl rfl rfl ?_
        refine y_inc (pc' := 61) (L' := [some (vR (some 137)), some (vI (zV h 147 ((zw ((zw (10 * (zV h 137 16))) + l2))).toNat)), some (vI (zw (l2 + 1)))]) f143_58 rfl rfl rfl rfl ?_
        refine y_go (pc' := 4) f143_61 rfl ?_
        exact k
/-- HatterTunesModel.heard(I)I -/
theorem E146 {d : Nat} {K : Int → Hp → Prop} (w : yWF zl nl h) {x0 : Int} (hd : 1 ≤ d) (k : yU (d - 1) 147 [vR (some 137), vI x0, vR (some 163)] h (fun h' => ZW d prog_10_method_32_code 8 9 [some (vR (some 137)), some (vI x0), none, none, none] [] h' (yq 1 (yqI K)))) : yI d 146 [vR (some 137), vI x0] h K := by
  refine y_en (L := [some (vR (some 137)), some (vI x0), none, none, none]) rfl rfl ?_
  refine y_s (pc' := 1) (L' := [some (vR (some 137)), some (vI x0), none, none, none]) (st' := [vR (some 137)]) (h' := h) f146_0 rfl ?_
  refine y_s (pc' := 2) (L' := [some (vR (some 137)), some (vI x0), none, none, none]) (st' := [vI x0, vR (some 137)]) (h' := h) f146_1 rfl ?_
  refine y_s (pc' := 3) (L' := [some (vR (some 137)), some (vI x0), none, none, none]) (st' := [vR (some 137), vI x0, vR (some 137)]) (h' := h) f146_2 rfl ?_
  refine y_gr (pc' := 6) f146_3 yf_8_88 rfl rfl (ys137 w) (yp137_41 w) rfl ?_
  refine y_cU (pc' := 9) (as := [vR (some 137), vI x0, vR (some 163)]) (r := []) f146_6 (yzv ym_8_253 rfl (ys137 w) rfl rfl) (by omega) rfl ?_
  exact k
theorem W146_9 {d : Nat} {K : Int → Hp → Prop} (w : yWF zl nl h) {l1 : Int} (k : ZW d prog_10_method_32_code 8 11 [some (vR (some 137)), some (vI l1), some (vI 0), none, none] [] h (yq 1 (yqI K))) : ZW d prog_10_method_32_code 8 9 [some (vR (some 137)), some (vI l1), none, none, none] [] h (yq 1 (yqI K)) := by
  refine y_s (pc' := 10) (L' := [some (vR (some 137)), some (vI l1), none, none, none]) (st' := [vI 0]) (h' := h) f146_9 rfl ?_
  refine y_sto (pc' := 11) (k := 2) (L' := [some (vR (some 137)), some (vI l1), some (vI 0), none, none]) f146_10 rfl rfl rfl rfl rfl rfl ?_
  exact k
theorem W146_11 {d : Nat} {K : Int → Hp → Prop} (w : yWF zl nl h) {l1 : Int} {l2 : Int} {l3 : Option Int} {l4 : Option Int} (k : ((l2 = 0 → ((6 < (zw (l2 + (zV h 137 6))) → ZW d prog_10_method_32_code 8 52 [some (vR (some 137)), some (vI l1), some (vI l2), some (vI 0), some (vI 0)] [] h (yq 1 (yqI K))) ∧ (¬ (6 < (zw (l2 + (zV h 137 6)))) → ZW d prog_10_method_32_code 8 52 [some (vR (some 137)), some (vI l1), some (vI l2), some (vI 1), some (vI 0)] [] h (yq 1 (yqI K))))) ∧ (¬ (l2 = 0) → ((6 < (zw (l2 + (zV h 137 6))) → K (-5) h) ∧ (¬ (6 < (zw (l2 + (zV h 137 6)))) → ((6 ≤ l2 → K (-5) h) ∧ (¬ (6 ≤ l2) → ((6 < (zw (l2 + (zV h 137 6))) → ZW d prog_10_method_32_code 8 52 [some (vR (some 137)), some (vI l1), some (vI l2), some (vI 0), some (vI 0)] [] h (yq 1 (yqI K))) ∧ (¬ (6 < (zw (l2 + (zV h 137 6)))) → ZW d prog_10_method_32_code 8 52 [some (vR (some 137)), some (vI l1), some (vI l2), some (vI 1), some (vI 0)] [] h (yq 1 (yqI K))))))))))) : ZW d prog_10_method_32_code 8 11 [some (vR (some 137)), some (vI l1), some (vI l2), yo l3, yo l4] [] h (yq 1 (yqI K)) := by
  refine y_s (pc' := 12) (L' := [some (vR (some 137)), some (vI l1), some (vI l2), yo l3, yo l4]) (st' := [vI l2]) (h' := h) f146_11 rfl ?_
  refine y_if (pcT := 32) (pc' := 15) (P := l2 = 0) f146_12 rfl rfl rfl (fun c => ?_) (fun c => ?_)
  · replace k := k.1 c
    refine y_s (pc' := 33) (L' := [some (vR (some 137)), some (vI l1), some (vI l2), yo l3, yo l4]) (st' := [vI l2]) (h' := h) f146_32 rfl ?_
    refine y_s (pc' := 34) (L' := [some (vR (some 137)), some (vI l1), some (vI l2), yo l3, yo l4]) (st' := [vR (some 137), vI l2]) (h' := h) f146_33 rfl ?_
    refine y_gi (pc' := 37) f146_34 yf_8_154 rfl rfl (ys137 w) rfl ?_
    refine y_s (pc' := 38) (L' := [some (vR (some 137)), some (vI l1), some (vI l2), yo l3, yo l4]) (st' := [vI (zw (l2 + (zV h 137 6)))]) (h' := h) f146_37 rfl ?_
    refine y_s (pc' := 40) (L' := [some (vR (some 137)), some (vI l1), some (vI l2), yo l3, yo l4]) (st' := [vI 6, vI (zw (l2 + (zV h 137 6)))]) (h' := h) f146_38 rfl ?_
    refine y_ic (pcT := 47) (pc' := 43) (P := 6 < (zw (l2 + (zV h 137 6)))) f146_40 rfl rfl rfl (fun c => ?_) (fun c => ?_)
    · replace k := k.1 c
      refine y_s (pc' := 48) (L' := [some (vR (some 137)), some (vI l1), some (vI l2), yo l3, yo l4]) (st' := [vI 0]) (h' := h) f146_47 rfl ?_
      refine y_sto (pc' := 49) (k := 3) (L' := [some (vR (some 137)), some (vI l1), some (vI l2), some (vI 0), yo l4]) f146_48 rfl rfl rfl rfl rfl rfl ?_
      refine y_s (pc' := 50) (L' := [some (vR (some 137)), some (vI l1), some (vI l2), some (vI 0), yo l4]) (st' := [vI 0]) (h' := h) f146_49 rfl ?_
      refine y_sto (pc' := 52) (k := 4) (L' := [some (vR (some 137)), some (vI l1), some (vI l2), some (vI 0), some (vI 0)]) f146_50 rfl rfl rfl rfl rfl rfl ?_
      exact k
    · replace k := k.2 c
      refine y_s (pc' := 44) (L' := [some (vR (some 137)), some (vI l1), some (vI l2), yo l3, yo l4]) (st' := [vI 1]) (h' := h) f146_43 rfl ?_
      refine y_go (pc' := 48) f146_44 rfl ?_
      refine y_sto (pc' := 49) (k := 3) (L' := [some (vR (some 137)), some (vI l1), some (vI l2), some (vI 1), yo l4]) f146_48 rfl rfl rfl rfl rfl rfl ?_
      refine y_s (pc' := 50) (L' := [some (vR (some 137)), some (vI l1), some (vI l2), some (vI 1), yo l4]) (st' := [vI 0]) (h' := h) f146_49 rfl ?_
      refine y_sto (pc' := 52) (k := 4) (L' := [some (vR (some 137)), some (vI l1), some (vI l2), some (vI 1), some (vI 0)]) f146_50 rfl rfl rfl rfl rfl rfl ?_
      exact k
  · replace k := k.2 c
    refine y_s (pc' := 16) (L' := [some (vR (some 137)), some (vI l1), some (vI l2), yo l3, yo l4]) (st' := [vI l2]) (h' := h) f146_15 rfl ?_
    refine y_s (pc' := 17) (L' := [some (vR (some 137)), some (vI l1), some (vI l2), yo l3, yo l4]) (st' := [vR (some 137), vI l2]) (h' := h) f146_16 rfl ?_
    refine y_gi (pc' := 20) f146_17 yf_8_154 rfl rfl (ys137 w) rfl ?_
    refine y_s (pc' := 21) (L' := [some (vR (some 137)), some (vI l1), some (vI l2), yo l3, yo l4]) (st' := [vI (zw (l2 + (zV h 137 6)))]) (h' := h) f146_20 rfl ?_
    refine y_s (pc' := 23) (L' := [some (vR (some 137)), some (vI l1), some (vI l2), yo l3, yo l4]) (st' := [vI 6, vI (zw (l2 + (zV h 137 6)))]) (h' := h) f146_21 rfl ?_
    refine y_ic (pcT := 108) (pc' := 26) (P := 6 < (zw (l2 + (zV h 137 6)))) f146_23 rfl rfl rfl (fun c => ?_) (fun c => ?_)
    · replace k := k.1 c
      refine y_s (pc' := 110) (L' := [some (vR (some 137)), some (vI l1), some (vI l2), yo l3, yo l4]) (st' := [vI (-5)]) (h' := h) f146_108 rfl ?_
      exact y_ri f146_110 ⟨rfl, k⟩
    · replace k := k.2 c
      refine y_s (pc' := 27) (L' := [some (vR (some 137)), some (vI l1), some (vI l2), yo l3, yo l4]) (st' := [vI l2]) (h' := h) f146_26 rfl ?_
      refine y_s (pc' := 29) (L' := [some (vR (some 137)), some (vI l1), some (vI l2), yo l3, yo l4]) (st' := [vI 6, vI l2]) (h' := h) f146_27 rfl ?_
      refine y_ic (pcT := 108) (pc' := 32) (P := 6 ≤ l2) f146_29 rfl rfl rfl (fun c => ?_) (fun c => ?_)
      · replace k := k.1 c
        refine y_s (pc' := 110) (L' := [some (vR (some 137)), some (vI l1), some (vI l2), yo l3, yo l4]) (st' := [vI (-5)]) (h' := h) f146_108 rfl ?_
        exact y_ri f146_110 ⟨rfl, k⟩
      · replace k := k.2 c
        refine y_s (pc' := 33) (L' := [some (vR (some 137)), some (vI l1), some (vI l2), yo l3, yo l4]) (st' := [vI l2]) (h' := h) f146_32 rfl ?_
        refine y_s (pc' := 34) (L' := [some (vR (some 137)), some (vI l1), some (vI l2), yo l3, yo l4]) (st' := [vR (some 137), vI l2]) (h' := h) f146_33 rfl ?_
        refine y_gi (pc' := 37) f146_34 yf_8_154 rfl rfl (ys137 w) rfl ?_
        refine y_s (pc' := 38) (L' := [some (vR (some 137)), some (vI l1), some (vI l2), yo l3, yo l4]) (st' := [vI (zw (l2 + (zV h 137 6)))]) (h' := h) f146_37 rfl ?_
        refine y_s (pc' := 40) (L' := [some (vR (some 137)), some (vI l1), some (vI l2), yo l3, yo l4]) (st' := [vI 6, vI (zw (l2 + (zV h 137 6)))]) (h' := h) f146_38 rfl ?_
        refine y_ic (pcT := 47) (pc' := 43) (P := 6 < (zw (l2 + (zV h 137 6)))) f146_40 rfl rfl rfl (fun c => ?_) (fun c => ?_)
        · replace k := k.1 c
          refine y_s (pc' := 48) (L' := [some (vR (some 137)), some (vI l1), some (vI l2), yo l3, yo l4]) (st' := [vI 0]) (h' := h) f146_47 rfl ?_
          refine y_sto (pc' := 49) (k := 3) (L' := [some (vR (some 137)), some (vI l1), some (vI l2), some (vI 0), yo l4]) f146_48 rfl rfl rfl rfl rfl rfl ?_
          refine y_s (pc' := 50) (L' := [some (vR (some 137)), some (vI l1), some (vI l2), some (vI 0), yo l4]) (st' := [vI 0]) (h' := h) f146_49 rfl ?_
          refine y_sto (pc' := 52) (k := 4) (L' := [some (vR (some 137)), some (vI l1), some (vI l2), some (vI 0), some (vI 0)]) f146_50 rfl rfl rfl rfl rfl rfl ?_
          exact k
        · replace k := k.2 c
          refine y_s (pc' := 44) (L' := [some (vR (some 137)), some (vI l1), some (vI l2), yo l3, yo l4]) (st' := [vI 1]) (h' := h) f146_43 rfl ?_
          refine y_go (pc' := 48) f146_44 rfl ?_
          refine y_sto (pc' := 49) (k := 3) (L' := [some (vR (some 137)), some (vI l1), some (vI l2), some (vI 1), yo l4]) f146_48 rfl rfl rfl rfl rfl rfl ?_
          refine y_s (pc' := 50) (L' := [some (vR (some 137)), some (vI l1), some (vI l2), some (vI 1), yo l4]) (st' := [vI 0]) (h' := h) f146_49 rfl ?_
          refine y_sto (pc' := 52) (k := 4) (L' := [some (vR (some 137)), some (vI l1), some (vI l2), some (vI 1), some (vI 0)]) f146_50 rfl rfl rfl rfl rfl rfl ?_
          exact k
theorem W146_52 {d : Nat} {K : Int → Hp → Prop} (w : yWF zl nl h) {l1 : Int} {l2 : Int} {l3 : Int} {l4 : Int} (k : (((zV h 137 6) ≤ l4 → ((l3 = 0 → ZW d prog_10_method_32_code 8 11 [some (vR (some 137)), some (vI l1), some (vI (zw (l2 + 1))), some (vI l3), some (vI l4)] [] h (yq 1 (yqI K))) ∧ (¬ (l3 = 0) → K l2 h))) ∧ (¬ ((zV h 137 6) ≤ l4) → ((l3 = 0 → ((l3 = 0 → ZW d prog_10_method_32_code 8 11 [some (vR (some 137)), some (vI l1), some (vI (zw (l2 + 1))), some (vI l3), some (vI l4)] [] h (yq 1 (yqI K))) ∧ (¬ (l3 = 0) → K l2 h))) ∧ (¬ (l3 = 0) → ((0 ≤ (zw (l2 + l4)) ∧ (zw (l2 + l4)) < 6) ∧ ((0 ≤ l4 ∧ l4 < 8) ∧ (((zV h 163 ((zw (l2 + l4))).toNat) ≠ (zV h 143 (l4).toNat) → ZW d prog_10_method_32_code 8 52 [some (vR (some 137)), some (vI l1), some (vI l2), some (vI 0), some (vI (zw (l4 + 1)))] [] h (yq 1 (yqI K))) ∧ (¬ ((zV h 163 ((zw (l2 + l4))).toNat) ≠ (zV h 143 (l4).toNat)) → ZW d prog_10_method_32_code 8 52 [some (vR (some 137)), some (vI l1), some (vI l2), some (vI 1), some (vI (zw (l4 + 1)))] [] h (yq 1 (yqI K))))))))))) : ZW d prog_10_method_32_code 8 52 [some (vR (some 137)), some (vI l1), some (vI l2), some (vI l3), some (vI l4)] [] h (yq 1 (yqI K)) := by
  refine y_s (pc' := 54) (L' := [some (vR (some 137)), some (vI l1), some (vI l2), some (vI l3), some (vI l4)]) (st' := [vI l4]) (h' := h) f146_52 rfl ?_
  refine y_s (pc' := 55) (L' := [some (vR (some 137)), some (vI l1), some (vI l2), some (vI l3), some (vI l4)]) (st' := [vR (some 137), vI l4]) (h' := h) f146_54 rfl ?_
  refine y_gi (pc' := 58) f146_55 yf_8_154 rfl rfl (ys137 w) rfl ?_
  refine y_ic (pcT := 96) (pc' := 61) (P := (zV h 137 6) ≤ l4) f146_58 rfl rfl rfl (fun c => ?_) (fun c => ?_)
  · replace k := k.1 c
    refine y_s (pc' := 97) (L' := [some (vR (some 137)), some (vI l1), some (vI l2), some (vI l3), some (vI l4)]) (st' := [vI l3]) (h' := h) f146_96 rfl ?_
    refine y_if (pcT := 102) (pc' := 100) (P := l3 = 0) f146_97 rfl rfl rfl (fun c => ?_) (fun c => ?_)
    · replace k := k.1 c
      refine y_inc (pc' := 105) (L' := [some (vR (some 137)), some (vI l1), some (vI (zw (l2 + 1))), some (vI l3), some (vI l4)]) f146_102 rfl rfl rfl rfl ?_
      refine y_go (pc' := 11) f146_105 rfl ?_
      exact k
    · replace k := k.2 c
      refine y_s (pc' := 101) (L' := [some (vR (some 137)), some (vI l1), some (vI l2), some (vI l3), some (vI l4)]) (st' := [vI l2]) (h' := h) f146_100 rfl ?_
      exact y_ri f146_101 ⟨rfl, k⟩
  · replace k := k.2 c
    refine y_s (pc' := 62) (L' := [some (vR (some 137)), some (vI l1), some (vI l2), some (vI l3), some (vI l4)]) (st' := [vI l3]) (h' := h) f146_61 rfl ?_
    refine y_if (pcT := 96) (pc' := 65) (P := l3 = 0) f146_62 rfl rfl rfl (fun c => ?_) (fun c => ?_)
    · replace k := k.1 c
      refine y_s (pc' := 97) (L' := [some (vR (some 137)), some (vI l1), some (vI l2), some (vI l3), some (vI l4)]) (st' := [vI l3]) (h' := h) f146_96 rfl ?_
      refine y_if (pcT := 102) (pc' := 100) (P := l3 = 0) f146_97 rfl rfl rfl (fun c => ?_) (fun c => ?_)
      · replace k := k.1 c
        refine y_inc (pc' := 105) (L' := [some (vR (some 137)), some (vI l1), some (vI (zw (l2 + 1))), some (vI l3), some (vI l4)]) f146_102 rfl rfl rfl rfl ?_
        refine y_go (pc' := 11) f146_105 rfl ?_
        exact k
      · replace k := k.2 c
        refine y_s (pc' := 101) (L' := [some (vR (some 137)), some (vI l1), some (vI l2), some (vI l3), some (vI l4)]) (st' := [vI l2]) (h' := h) f146_100 rfl ?_
        exact y_ri f146_101 ⟨rfl, k⟩
    · replace k := k.2 c
      refine y_s (pc' := 66) (L' := [some (vR (some 137)), some (vI l1), some (vI l2), some (vI l3), some (vI l4)]) (st' := [vR (some 137)]) (h' := h) f146_65 rfl ?_
      refine y_gr (pc' := 69) f146_66 yf_8_88 rfl rfl (ys137 w) (yp137_41 w) rfl ?_
      refine y_s (pc' := 70) (L' := [some (vR (some 137)), some (vI l1), some (vI l2), some (vI l3), some (vI l4)]) (st' := [vI l2, vR (some 163)]) (h' := h) f146_69 rfl ?_
      refine y_s (pc' := 72) (L' := [some (vR (some 137)), some (vI l1), some (vI l2), some (vI l3), some (vI l4)]) (st' := [vI l4, vI l2, vR (some 163)]) (h' := h) f146_70 rfl ?_
      refine y_s (pc' := 73) (L' := [some (vR (some 137)), some (vI l1), some (vI l2), some (vI l3), some (vI l4)]) (st' := [vI (zw (l2 + l4)), vR (some 163)]) (h' := h) f146_72 rfl ?_
      refine y_ia (pc' := 74) (x := (zV h 163 ((zw (l2 + l4))).toNat)) f146_73 (ys163 w) k.1 rfl rfl ?_
      replace k := k.2
      refine y_s (pc' := 75) (L' := [some (vR (some 137)), some (vI l1), some (vI l2), some (vI l3), some (vI l4)]) (st' := [vR (some 137), vI (zV h 163 ((zw (l2 + l4))).toNat)]) (h' := h) f146_74 rfl ?_
      refine y_gr (pc' := 78) f146_75 yf_8_27 rfl rfl (ys137 w) (yp137_7 w) rfl ?_
      refine y_s (pc' := 80) (L' := [some (vR (some 137)), some (vI l1), some (vI l2), some (vI l3), some (vI l4)]) (st' := [vI l4, vR (some 143), vI (zV h 163 ((zw (l2 + l4))).toNat)]) (h' := h) f146_78 rfl ?_
      refine y_ia (pc' := 81) (x := (zV h 143 (l4).toNat)) f146_80 (ys143 w) k.1 rfl rfl ?_
      replace k := k.2
      refine y_ic (pcT := 88) (pc' := 84) (P := (zV h 163 ((zw (l2 + l4))).toNat) ≠ (zV h 143 (l4).toNat)) f146_81 rfl rfl rfl (fun c => ?_) (fun c => ?_)
      · replace k := k.1 c
        refine y_s (pc' := 89) (L' := [some (vR (some 137)), some (vI l1), some (vI l2), some (vI l3), some (vI l4)]) (st' := [vI 0]) (h' := h) f146_88 rfl ?_
        refine y_sto (pc' := 90) (k := 3) (L' := [some (vR (some 137)), some (vI l1), some (vI l2), some (vI 0), some (vI l4)]) f146_89 rfl rfl rfl rfl rfl rfl ?_
        refine y_inc (pc' := 93) (L' := [some (vR (some 137)), some (vI l1), some (vI l2), some (vI 0), some (vI (zw (l4 + 1)))]) f146_90 rfl rfl rfl rfl ?_
        refine y_go (pc' := 52) f146_93 rfl ?_
        exact k
      · replace k := k.2 c
        refine y_s (pc' := 85) (L' := [some (vR (some 137)), some (vI l1), some (vI l2), some (vI l3), some (vI l4)]) (st' := [vI 1]) (h' := h) f146_84 rfl ?_
        refine y_go (pc' := 89) f146_85 rfl ?_
        refine y_sto (pc' := 90) (k := 3) (L' := [some (vR (some 137)), some (vI l1), some (vI l2), some (vI 1), some (vI l4)]) f146_89 rfl rfl rfl rfl rfl rfl ?_
        refine y_inc (pc' := 93) (L' := [some (vR (some 137)), some (vI l1), some (vI l2), some (vI 1), some (vI (zw (l4 + 1)))]) f146_90 rfl rfl rfl rfl ?_
        refine y_go (pc' := 52) f146_93 rfl ?_
        exact k
/-- HatterTunesModel.sounds(I[I)V -/
theorem E147 {d : Nat} {K : Hp → Prop} (w : yWF zl nl h) {x0 : Int} {b : Nat} (hb : zS h b = (1, 6)) (hb2 : 32 ≤ b) (k : ZW d prog_10_method_30_code 8 2 [some (vR (some 137)), some (vI x0), some (vR (some b)), some (vI 0)] [] h (yq 0 (yqU K))) : yU d 147 [vR (some 137), vI x0, vR (some b)] h K := by
  refine y_en (L := [some (vR (some 137)), some (vI x0), some (vR (some b)), none]) rfl rfl ?_
  refine y_s (pc' := 1) (L' := [some (vR (some 137)), some (vI x0), some (vR (some b)), none]) (st' := [vI 0]) (h' := h) f147_0 rfl ?_
  refine y_sto (pc' := 2) (k := 3) (L' := [some (vR (some 137)), some (vI x0), some (vR (some b)), some (vI 0)]) f147_1 rfl rfl rfl rfl rfl rfl ?_
  exact k
theorem W147_2 {d : Nat} {K : Hp → Prop} (w : yWF zl nl h) {b : Nat} (hb : zS h b = (1, 6)) (hb2 : 32 ≤ b) {l1 : Int} {l3 : Int} (hd : 1 ≤ d) (k : ((6 ≤ l3 → K h) ∧ (¬ (6 ≤ l3) → yI (d - 1) 133 [vR (some 137), vI l1, vI l3] h (fun x h' => ZW d prog_10_method_30_code 8 16 [some (vR (some 137)), some (vI l1), some (vR (some b)), some (vI l3)] [vI x, vI l3, vR (some b)] h' (yq 0 (yqU K)))))) : ZW d prog_10_method_30_code 8 2 [some (vR (some 137)), some (vI l1), some (vR (some b)), some (vI l3)] [] h (yq 0 (yqU K)) := by
  refine y_s (pc' := 3) (L' := [some (vR (some 137)), some (vI l1), some (vR (some b)), some (vI l3)]) (st' := [vI l3]) (h' := h) f147_2 rfl ?_
  refine y_s (pc' := 5) (L' := [some (vR (some 137)), some (vI l1), some (vR (some b)), some (vI l3)]) (st' := [vI 6, vI l3]) (h' := h) f147_3 rfl ?_
  refine y_ic (pcT := 23) (pc' := 8) (P := 6 ≤ l3) f147_5 rfl rfl rfl (fun c => ?_) (fun c => ?_)
  · replace k := k.1 c
    exact y_ru f147_23 ⟨rfl, k⟩
  · replace k := k.2 c
    refine y_s (pc' := 9) (L' := [some (vR (some 137)), some (vI l1), some (vR (some b)), some (vI l3)]) (st' := [vR (some b)]) (h' := h) f147_8 rfl ?_
    refine y_s (pc' := 10) (L' := [some (vR (some 137)), some (vI l1), some (vR (some b)), some (vI l3)]) (st' := [vI l3, vR (some b)]) (h' := h) f147_9 rfl ?_
    refine y_s (pc' := 11) (L' := [some (vR (some 137)), some (vI l1), some (vR (some b)), some (vI l3)]) (st' := [vR (some 137), vI l3, vR (some b)]) (h' := h) f147_10 rfl ?_
    refine y_s (pc' := 12) (L' := [some (vR (some 137)), some (vI l1), some (vR (some b)), some (vI l3)]) (st' := [vI l1, vR (some 137), vI l3, vR (some b)]) (h' := h) f147_11 rfl ?_
    refine y_s (pc' := 13) (L' := [some (vR (some 137)), some (vI l1), some (vR (some b)), some (vI l3)]) (st' := [vI l3, vI l1, vR (some 137), vI l3, vR (some b)]) (h' := h) f147_12 rfl ?_
    refine y_cI (pc' := 16) (as := [vR (some 137), vI l1, vI l3]) (r := [vI l3, vR (some b)]) f147_13 (yzv ym_8_128 rfl (ys137 w) rfl rfl) (by omega) rfl ?_
    exact k
theorem W147_16 {d : Nat} {K : Hp → Prop} (w : yWF zl nl h) {b : Nat} (hb : zS h b = (1, 6)) (hb2 : 32 ≤ b) {l1 : Int} {l3 : Int} {s1 : Int} {s2 : Int} (k : ((0 ≤ s1 ∧ s1 < 6) ∧ ZW d prog_10_method_30_code 8 2 [some (vR (some 137)), some (vI l1), some (vR (some b)), some (vI (zw (l3 + 1)))] [] (zsetV h b (s1).toNat s2) (yq 0 (yqU K)))) : ZW d prog_10_method_30_code 8 16 [some (vR (some 137)), some (vI l1), some (vR (some b)), some (vI l3)] [vI s2, vI s1, vR (some b)] h (yq 0 (yqU K)) := by
  refine y_is (pc' := 17) (h' := (zsetV h b (s1).toNat s2)) f147_16 hb hb2 k.1 rfl rfl ?_
  replace k := k.2
  refine y_inc (pc' := 20) (L' := [some (vR (some 137)), some (vI l1), some (vR (some b)), some (vI (zw (l3 + 1)))]) f147_17 rfl rfl rfl rfl ?_
  refine y_go (pc' := 2) f147_20 rfl ?_
  exact k
/-- HatterTunesModel.press(III)I -/
theorem E150 {d : Nat} {K : Int → Hp → Prop} (w : yWF zl nl h) {x0 : Int} {x1 : Int} {x2 : Int} (hd : 2 ≤ d) (k : (((0 : Int) ≤ zV h 137 0 ∧ zV h 137 0 ≤ 6) ∧ ((((0 : Int) ≤ x0 ∧ x0 < zV h 137 0) → ((((0 : Int) ≤ x1 ∧ x1 < 6) → ((((0 : Int) ≤ x2 ∧ x2 < 10) → ((0 ≤ (zw ((zw (6 * x0)) + x1)) ∧ (zw ((zw (6 * x0)) + x1)) < 36) ∧ ((0 ≤ (zw ((zw (6 * x0)) + x1)) ∧ (zw ((zw (6 * x0)) + x1)) < 36) ∧ K (zV h 140 ((zw ((zw (6 * x0)) + x1))).toNat) (zsetV h 140 ((zw ((zw (6 * x0)) + x1))).toNat x2)))) ∧ (¬ (((0 : Int) ≤ x2 ∧ x2 < 10)) → K (-2) h))) ∧ (¬ (((0 : Int) ≤ x1 ∧ x1 < 6)) → K (-1) h))) ∧ (¬ (((0 : Int) ≤ x0 ∧ x0 < zV h 137 0)) → K (-1) h)))) : yI d 150 [vR (some 137), vI x0, vI x1, vI x2] h K := by
  refine y_en (L := [some (vR (some 137)), some (vI x0), some (vI x1), some (vI x2), none]) rfl rfl ?_
  refine y_s (pc' := 1) (L' := [some (vR (some 137)), some (vI x0), some (vI x1), some (vI x2), none]) (st' := [vR (some 137)]) (h' := h) f150_0 rfl ?_
  refine y_s (pc' := 2) (L' := [some (vR (some 137)), some (vI x0), some (vI x1), some (vI x2), none]) (st' := [vI x0, vR (some 137)]) (h' := h) f150_1 rfl ?_
  refine y_cI (pc' := 5) (as := [vR (some 137), vI x0]) (r := []) f150_2 (yzv ym_8_121 rfl (ys137 w) rfl rfl) (by omega) rfl ?_
  have p0 := k.1
  replace k := k.2
  refine sp131 w (by omega) p0 (fun c => ?_) (fun c => ?_)
  · replace k := k.1 c
    refine y_iff (pcT := 15) (pc' := 8) f150_5 rfl rfl rfl ?_
    refine y_s (pc' := 9) (L' := [some (vR (some 137)), some (vI x0), some (vI x1), some (vI x2), none]) (st' := [vI x1]) (h' := h) f150_8 rfl ?_
    refine y_cI (pc' := 12) (as := [vI x1]) (r := []) f150_9 rfl (by omega) rfl ?_
    refine sp132 w (by omega) (fun c => ?_) (fun c => ?_)
    · replace k := k.1 c
      refine y_ift (pcT := 17) f150_12 rfl rfl ?_
      refine y_s (pc' := 18) (L' := [some (vR (some 137)), some (vI x0), some (vI x1), some (vI x2), none]) (st' := [vI x2]) (h' := h) f150_17 rfl ?_
      refine y_cI (pc' := 21) (as := [vI x2]) (r := []) f150_18 rfl (by omega) rfl ?_
      refine sp151 w (by omega) (fun c => ?_) (fun c => ?_)
      · replace k := k.1 c
        refine y_ift (pcT := 27) f150_21 rfl rfl ?_
        refine y_s (pc' := 28) (L' := [some (vR (some 137)), some (vI x0), some (vI x1), some (vI x2), none]) (st' := [vR (some 137)]) (h' := h) f150_27 rfl ?_
        refine y_gr (pc' := 31) f150_28 yf_8_18 rfl rfl (ys137 w) (yp137_3 w) rfl ?_
        refine y_s (pc' := 33) (L' := [some (vR (some 137)), some (vI x0), some (vI x1), some (vI x2), none]) (st' := [vI 6, vR (some 140)]) (h' := h) f150_31 rfl ?_
        refine y_s (pc' := 34) (L' := [some (vR (some 137)), some (vI x0), some (vI x1), some (vI x2), none]) (st' := [vI x0, vI 6, vR (some 140)]) (h' := h) f150_33 rfl ?_
        refine y_s (pc' := 35) (L' := [some (vR (some 137)), some (vI x0), some (vI x1), some (vI x2), none]) (st' := [vI (zw (6 * x0)), vR (some 140)]) (h' := h) f150_34 rfl ?_
        refine y_s (pc' := 36) (L' := [some (vR (some 137)), some (vI x0), some (vI x1), some (vI x2), none]) (st' := [vI x1, vI (zw (6 * x0)), vR (some 140)]) (h' := h) f150_35 rfl ?_
        refine y_s (pc' := 37) (L' := [some (vR (some 137)), some (vI x0), some (vI x1), some (vI x2), none]) (st' := [vI (zw ((zw (6 * x0)) + x1)), vR (some 140)]) (h' := h) f150_36 rfl ?_
        refine y_ia (pc' := 38) (x := (zV h 140 ((zw ((zw (6 * x0)) + x1))).toNat)) f150_37 (ys140 w) k.1 rfl rfl ?_
        replace k := k.2
        refine y_sto (pc' := 40) (k := 4) (L' := [some (vR (some 137)), some (vI x0), some (vI x1), some (vI x2), some (vI (zV h 140 ((zw ((zw (6 * x0)) + x1))).toNat))]) f150_38 rfl rfl rfl rfl rfl rfl ?_
        refine y_s (pc' := 41) (L' := [some (vR (some 137)), some (vI x0), some (vI x1), some (vI x2), some (vI (zV h 140 ((zw ((zw (6 * x0)) + x1))).toNat))]) (st' := [vR (some 137)]) (h' := h) f150_40 rfl ?_
        refine y_gr (pc' := 44) f150_41 yf_8_18 rfl rfl (ys137 w) (yp137_3 w) rfl ?_
        refine y_s (pc' := 46) (L' := [some (vR (some 137)), some (vI x0), some (vI x1), some (vI x2), some (vI (zV h 140 ((zw ((zw (6 * x0)) + x1))).toNat))]) (st' := [vI 6, vR (some 140)]) (h' := h) f150_44 rfl ?_
        refine y_s (pc' := 47) (L' := [some (vR (some 137)), some (vI x0), some (vI x1), some (vI x2), some (vI (zV h 140 ((zw ((zw (6 * x0)) + x1))).toNat))]) (st' := [vI x0, vI 6, vR (some 140)]) (h' := h) f150_46 rfl ?_
        refine y_s (pc' := 48) (L' := [some (vR (some 137)), some (vI x0), some (vI x1), some (vI x2), some (vI (zV h 140 ((zw ((zw (6 * x0)) + x1))).toNat))]) (st' := [vI (zw (6 * x0)), vR (some 140)]) (h' := h) f150_47 rfl ?_
        refine y_s (pc' := 49) (L' := [some (vR (some 137)), some (vI x0), some (vI x1), some (vI x2), some (vI (zV h 140 ((zw ((zw (6 * x0)) + x1))).toNat))]) (st' := [vI x1, vI (zw (6 * x0)), vR (some 140)]) (h' := h) f150_48 rfl ?_
        refine y_s (pc' := 50) (L' := [some (vR (some 137)), some (vI x0), some (vI x1), some (vI x2), some (vI (zV h 140 ((zw ((zw (6 * x0)) + x1))).toNat))]) (st' := [vI (zw ((zw (6 * x0)) + x1)), vR (some 140)]) (h' := h) f150_49 rfl ?_
        refine y_s (pc' := 51) (L' := [some (vR (some 137)), some (vI x0), some (vI x1), some (vI x2), some (vI (zV h 140 ((zw ((zw (6 * x0)) + x1))).toNat))]) (st' := [vI x2, vI (zw ((zw (6 * x0)) + x1)), vR (some 140)]) (h' := h) f150_50 rfl ?_
        refine y_is (pc' := 52) (h' := (zsetV h 140 ((zw ((zw (6 * x0)) + x1))).toNat x2)) f150_51 (ys140 w) (by decide) k.1 rfl rfl ?_
        replace k := k.2
        refine y_s (pc' := 54) (L' := [some (vR (some 137)), some (vI x0), some (vI x1), some (vI x2), some (vI (zV h 140 ((zw ((zw (6 * x0)) + x1))).toNat))]) (st' := [vI (zV h 140 ((zw ((zw (6 * x0)) + x1))).toNat)]) (h' := (zsetV h 140 ((zw ((zw (6 * x0)) + x1))).toNat x2)) f150_52 rfl ?_
        exact y_ri f150_54 ⟨rfl, k⟩
      · replace k := k.2 c
        refine y_iff (pcT := 27) (pc' := 24) f150_21 rfl rfl rfl ?_
        refine y_s (pc' := 26) (L' := [some (vR (some 137)), some (vI x0), some (vI x1), some (vI x2), none]) (st' := [vI (-2)]) (h' := h) f150_24 rfl ?_
        exact y_ri f150_26 ⟨rfl, k⟩
    · replace k := k.2 c
      refine y_iff (pcT := 17) (pc' := 15) f150_12 rfl rfl rfl ?_
      refine y_s (pc' := 16) (L' := [some (vR (some 137)), some (vI x0), some (vI x1), some (vI x2), none]) (st' := [vI (-1)]) (h' := h) f150_15 rfl ?_
      exact y_ri f150_16 ⟨rfl, k⟩
  · replace k := k.2 c
    refine y_ift (pcT := 15) f150_5 rfl rfl ?_
    refine y_s (pc' := 16) (L' := [some (vR (some 137)), some (vI x0), some (vI x1), some (vI x2), none]) (st' := [vI (-1)]) (h' := h) f150_15 rfl ?_
    exact y_ri f150_16 ⟨rfl, k⟩
/-- HatterTunesModel.note(I)I -/
theorem E152 {d : Nat} {K : Int → Hp → Prop} (w : yWF zl nl h) {x0 : Int} (hd : 2 ≤ d) (k : ((x0 ≠ (-1) → ((((0 : Int) ≤ x0 ∧ x0 < 10) → (((zV h 137 6) ≠ 8 → ((0 ≤ (zV h 137 6) ∧ (zV h 137 6) < 8) ∧ (∀ h_51, (zsetV (zsetV h 137 6 (zw ((zV h 137 6) + 1))) 143 ((zV h 137 6)).toNat x0) = h_51 → K (zV h_51 137 6) h_51))) ∧ (¬ ((zV h 137 6) ≠ 8) → K (-4) h))) ∧ (¬ (((0 : Int) ≤ x0 ∧ x0 < 10)) → K (-2) h))) ∧ (¬ (x0 ≠ (-1)) → K 0 (zsetV h 137 6 0)))) : yI d 152 [vR (some 137), vI x0] h K := by
  refine y_en (L := [some (vR (some 137)), some (vI x0)]) rfl rfl ?_
  refine y_s (pc' := 1) (L' := [some (vR (some 137)), some (vI x0)]) (st' := [vI x0]) (h' := h) f152_0 rfl ?_
  refine y_s (pc' := 2) (L' := [some (vR (some 137)), some (vI x0)]) (st' := [vI (-1), vI x0]) (h' := h) f152_1 rfl ?_
  refine y_ic (pcT := 12) (pc' := 5) (P := x0 ≠ (-1)) f152_2 rfl rfl rfl (fun c => ?_) (fun c => ?_)
  · replace k := k.1 c
    refine y_s (pc' := 13) (L' := [some (vR (some 137)), some (vI x0)]) (st' := [vI x0]) (h' := h) f152_12 rfl ?_
    refine y_cI (pc' := 16) (as := [vI x0]) (r := []) f152_13 rfl (by omega) rfl ?_
    refine sp151 w (by omega) (fun c => ?_) (fun c => ?_)
    · replace k := k.1 c
      refine y_ift (pcT := 22) f152_16 rfl rfl ?_
      refine y_s (pc' := 23) (L' := [some (vR (some 137)), some (vI x0)]) (st' := [vR (some 137)]) (h' := h) f152_22 rfl ?_
      refine y_gi (pc' := 26) f152_23 yf_8_154 rfl rfl (ys137 w) rfl ?_
      refine y_s (pc' := 28) (L' := [some (vR (some 137)), some (vI x0)]) (st' := [vI 8, vI (zV h 137 6)]) (h' := h) f152_26 rfl ?_
      refine y_ic (pcT := 34) (pc' := 31) (P := (zV h 137 6) ≠ 8) f152_28 rfl rfl rfl (fun c => ?_) (fun c => ?_)
      · replace k := k.1 c
        refine y_s (pc' := 35) (L' := [some (vR (some 137)), some (vI x0)]) (st' := [vR (some 137)]) (h' := h) f152_34 rfl ?_
        refine y_gr (pc' := 38) f152_35 yf_8_27 rfl rfl (ys137 w) (yp137_7 w) rfl ?_
        refine y_s (pc' := 39) (L' := [some (vR (some 137)), some (vI x0)]) (st' := [vR (some 137), vR (some 143)]) (h' := h) f152_38 rfl ?_
        refine y_s (pc' := 40) (L' := [some (vR (some 137)), some (vI x0)]) (st' := [vR (some 137), vR (some 137), vR (some 143)]) (h' := h) f152_39 rfl ?_
        refine y_gi (pc' := 43) f152_40 yf_8_154 rfl rfl (ys137 w) rfl ?_
        refine y_s (pc' := 44) (L' := [some (vR (some 137)), some (vI x0)]) (st' := [vI (zV h 137 6), vR (some 137), vI (zV h 137 6), vR (some 143)]) (h' := h) f152_43 rfl ?_
        refine y_s (pc' := 45) (L' := [some (vR (some 137)), some (vI x0)]) (st' := [vI 1, vI (zV h 137 6), vR (some 137), vI (zV h 137 6), vR (some 143)]) (h' := h) f152_44 rfl ?_
        refine y_s (pc' := 46) (L' := [some (vR (some 137)), some (vI x0)]) (st' := [vI (zw ((zV h 137 6) + 1)), vR (some 137), vI (zV h 137 6), vR (some 143)]) (h' := h) f152_45 rfl ?_
        refine y_pi (pc' := 49) f152_46 yf_8_154 rfl rfl (ys137 w) (by decide) (Or.inl rfl) rfl ?_
        refine y_s (pc' := 50) (L' := [some (vR (some 137)), some (vI x0)]) (st' := [vI x0, vI (zV h 137 6), vR (some 143)]) (h' := (zsetV h 137 6 (zw ((zV h 137 6) + 1)))) f152_49 rfl ?_
        refine y_is (pc' := 51) (h' := (zsetV (zsetV h 137 6 (zw ((zV h 137 6) + 1))) 143 ((zV h 137 6)).toNat x0)) f152_50 (ys143 w) (by decide) k.1 rfl rfl ?_
        replace k := k.2
        generalize e_51 : (zsetV (zsetV h 137 6 (zw ((zV h 137 6) + 1))) 143 ((zV h 137 6)).toNat x0) = h_51
        replace k := k _ e_51
        have w : yWF zl nl h_51 := by rw [← e_51]; exact w
        refine y_s (pc' := 52) (L' := [some (vR (some 137)), some (vI x0)]) (st' := [vR (some 137)]) (h' := h_51) f152_51 rfl ?_
        refine y_gi (pc' := 55) f152_52 yf_8_154 rfl rfl (ys137 w) rfl ?_
        exact y_ri f152_55 ⟨rfl, k⟩
      · replace k := k.2 c
        refine y_s (pc' := 33) (L' := [some (vR (some 137)), some (vI x0)]) (st' := [vI (-4)]) (h' := h) f152_31 rfl ?_
        exact y_ri f152_33 ⟨rfl, k⟩
    · replace k := k.2 c
      refine y_iff (pcT := 22) (pc' := 19) f152_16 rfl rfl rfl ?_
      refine y_s (pc' := 21) (L' := [some (vR (some 137)), some (vI x0)]) (st' := [vI (-2)]) (h' := h) f152_19 rfl ?_
      exact y_ri f152_21 ⟨rfl, k⟩
  · replace k := k.2 c
    refine y_s (pc' := 6) (L' := [some (vR (some 137)), some (vI x0)]) (st' := [vR (some 137)]) (h' := h) f152_5 rfl ?_
    refine y_s (pc' := 7) (L' := [some (vR (some 137)), some (vI x0)]) (st' := [vI 0, vR (some 137)]) (h' := h) f152_6 rfl ?_
    refine y_pi (pc' := 10) f152_7 yf_8_154 rfl rfl (ys137 w) (by decide) (Or.inl rfl) rfl ?_
    refine y_s (pc' := 11) (L' := [some (vR (some 137)), some (vI x0)]) (st' := [vI 0]) (h' := (zsetV h 137 6 0)) f152_10 rfl ?_
    exact y_ri f152_11 ⟨rfl, k⟩
/-- HatterTunesModel.row(III)I -/
theorem E153 {d : Nat} {K : Int → Hp → Prop} (w : yWF zl nl h) {x0 : Int} {x1 : Int} {x2 : Int} (hd : 2 ≤ d) (k : (((0 : Int) ≤ zV h 137 0 ∧ zV h 137 0 ≤ 6) ∧ ((((0 : Int) ≤ x0 ∧ x0 < zV h 137 0) → ((((0 : Int) ≤ x1 ∧ x1 ≤ 3) → ((((0 : Int) ≤ x2 ∧ x2 ≤ 9) → ((0 ≤ x0 ∧ x0 < 6) ∧ (((zV h 138 (x0).toNat) = 6 → ((0 ≤ (zw ((zw (4 * x0)) + x1)) ∧ (zw ((zw (4 * x0)) + x1)) < 24) ∧ ((0 ≤ (zw ((zw (4 * x0)) + x1)) ∧ (zw ((zw (4 * x0)) + x1)) < 24) ∧ K (zV h 142 ((zw ((zw (4 * x0)) + x1))).toNat) (zsetV h 142 ((zw ((zw (4 * x0)) + x1))).toNat x2)))) ∧ (¬ ((zV h 138 (x0).toNat) = 6) → K (-3) h)))) ∧ (¬ (((0 : Int) ≤ x2 ∧ x2 ≤ 9)) → K (-2) h))) ∧ (¬ (((0 : Int) ≤ x1 ∧ x1 ≤ 3)) → K (-1) h))) ∧ (¬ (((0 : Int) ≤ x0 ∧ x0 < zV h 137 0)) → K (-1) h)))) : yI d 153 [vR (some 137), vI x0, vI x1, vI x2] h K := by
  refine y_en (L := [some (vR (some 137)), some (vI x0), some (vI x1), some (vI x2), none]) rfl rfl ?_
  refine y_s (pc' := 1) (L' := [some (vR (some 137)), some (vI x0), some (vI x1), some (vI x2), none]) (st' := [vR (some 137)]) (h' := h) f153_0 rfl ?_
  refine y_s (pc' := 2) (L' := [some (vR (some 137)), some (vI x0), some (vI x1), some (vI x2), none]) (st' := [vI x0, vR (some 137)]) (h' := h) f153_1 rfl ?_
  refine y_cI (pc' := 5) (as := [vR (some 137), vI x0]) (r := []) f153_2 (yzv ym_8_121 rfl (ys137 w) rfl rfl) (by omega) rfl ?_
  have p0 := k.1
  replace k := k.2
  refine sp131 w (by omega) p0 (fun c => ?_) (fun c => ?_)
  · replace k := k.1 c
    refine y_iff (pcT := 17) (pc' := 8) f153_5 rfl rfl rfl ?_
    refine y_s (pc' := 9) (L' := [some (vR (some 137)), some (vI x0), some (vI x1), some (vI x2), none]) (st' := [vI x1]) (h' := h) f153_8 rfl ?_
    refine y_s (pc' := 10) (L' := [some (vR (some 137)), some (vI x0), some (vI x1), some (vI x2), none]) (st' := [vI 0, vI x1]) (h' := h) f153_9 rfl ?_
    refine y_s (pc' := 11) (L' := [some (vR (some 137)), some (vI x0), some (vI x1), some (vI x2), none]) (st' := [vI 3, vI 0, vI x1]) (h' := h) f153_10 rfl ?_
    refine y_cI (pc' := 14) (as := [vI x1, vI 0, vI 3]) (r := []) f153_11 rfl (by omega) rfl ?_
    refine sp129 w (fun c => ?_) (fun c => ?_)
    · replace k := k.1 c
      refine y_ift (pcT := 19) f153_14 rfl rfl ?_
      refine y_s (pc' := 20) (L' := [some (vR (some 137)), some (vI x0), some (vI x1), some (vI x2), none]) (st' := [vI x2]) (h' := h) f153_19 rfl ?_
      refine y_s (pc' := 21) (L' := [some (vR (some 137)), some (vI x0), some (vI x1), some (vI x2), none]) (st' := [vI 0, vI x2]) (h' := h) f153_20 rfl ?_
      refine y_s (pc' := 23) (L' := [some (vR (some 137)), some (vI x0), some (vI x1), some (vI x2), none]) (st' := [vI 9, vI 0, vI x2]) (h' := h) f153_21 rfl ?_
      refine y_cI (pc' := 26) (as := [vI x2, vI 0, vI 9]) (r := []) f153_23 rfl (by omega) rfl ?_
      refine sp129 w (fun c => ?_) (fun c => ?_)
      · replace k := k.1 c
        refine y_ift (pcT := 32) f153_26 rfl rfl ?_
        refine y_s (pc' := 33) (L' := [some (vR (some 137)), some (vI x0), some (vI x1), some (vI x2), none]) (st' := [vR (some 137)]) (h' := h) f153_32 rfl ?_
        refine y_gr (pc' := 36) f153_33 yf_8_9 rfl rfl (ys137 w) (yp137_1 w) rfl ?_
        refine y_s (pc' := 37) (L' := [some (vR (some 137)), some (vI x0), some (vI x1), some (vI x2), none]) (st' := [vI x0, vR (some 138)]) (h' := h) f153_36 rfl ?_
        refine y_ia (pc' := 38) (x := (zV h 138 (x0).toNat)) f153_37 (ys138 w) k.1 rfl rfl ?_
        replace k := k.2
        refine y_s (pc' := 40) (L' := [some (vR (some 137)), some (vI x0), some (vI x1), some (vI x2), none]) (st' := [vI 6, vI (zV h 138 (x0).toNat)]) (h' := h) f153_38 rfl ?_
        refine y_ic (pcT := 46) (pc' := 43) (P := (zV h 138 (x0).toNat) = 6) f153_40 rfl rfl rfl (fun c => ?_) (fun c => ?_)
        · replace k := k.1 c
          refine y_s (pc' := 47) (L' := [some (vR (some 137)), some (vI x0), some (vI x1), some (vI x2), none]) (st' := [vR (some 137)]) (h' := h) f153_46 rfl ?_
          refine y_gr (pc' := 50) f153_47 yf_8_24 rfl rfl (ys137 w) (yp137_5 w) rfl ?_
          refine y_s (pc' := 51) (L' := [some (vR (some 137)), some (vI x0), some (vI x1), some (vI x2), none]) (st' := [vI 4, vR (some 142)]) (h' := h) f153_50 rfl ?_
          refine y_s (pc' := 52) (L' := [some (vR (some 137)), some (vI x0), some (vI x1), some (vI x2), none]) (st' := [vI x0, vI 4, vR (some 142)]) (h' := h) f153_51 rfl ?_
          refine y_s (pc' := 53) (L' := [some (vR (some 137)), some (vI x0), some (vI x1), some (vI x2), none]) (st' := [vI (zw (4 * x0)), vR (some 142)]) (h' := h) f153_52 rfl ?_
          refine y_s (pc' := 54) (L' := [some (vR (some 137)), some (vI x0), some (vI x1), some (vI x2), none]) (st' := [vI x1, vI (zw (4 * x0)), vR (some 142)]) (h' := h) f153_53 rfl ?_
          refine y_s (pc' := 55) (L' := [some (vR (some 137)), some (vI x0), some (vI x1), some (vI x2), none]) (st' := [vI (zw ((zw (4 * x0)) + x1)), vR (some 142)]) (h' := h) f153_54 rfl ?_
          refine y_ia (pc' := 56) (x := (zV h 142 ((zw ((zw (4 * x0)) + x1))).toNat)) f153_55 (ys142 w) k.1 rfl rfl ?_
          replace k := k.2
          refine y_sto (pc' := 58) (k := 4) (L' := [some (vR (some 137)), some (vI x0), some (vI x1), some (vI x2), some (vI (zV h 142 ((zw ((zw (4 * x0)) + x1))).toNat))]) f153_56 rfl rfl rfl rfl rfl rfl ?_
          refine y_s (pc' := 59) (L' := [some (vR (some 137)), some (vI x0), some (vI x1), some (vI x2), some (vI (zV h 142 ((zw ((zw (4 * x0)) + x1))).toNat))]) (st' := [vR (some 137)]) (h' := h) f153_58 rfl ?_
          refine y_gr (pc' := 62) f153_59 yf_8_24 rfl rfl (ys137 w) (yp137_5 w) rfl ?_
          refine y_s (pc' := 63) (L' := [some (vR (some 137)), some (vI x0), some (vI x1), some (vI x2), some (vI (zV h 142 ((zw ((zw (4 * x0)) + x1))).toNat))]) (st' := [vI 4, vR (some 142)]) (h' := h) f153_62 rfl ?_
          refine y_s (pc' := 64) (L' := [some (vR (some 137)), some (vI x0), some (vI x1), some (vI x2), some (vI (zV h 142 ((zw ((zw (4 * x0)) + x1))).toNat))]) (st' := [vI x0, vI 4, vR (some 142)]) (h' := h) f153_63 rfl ?_
          refine y_s (pc' := 65) (L' := [some (vR (some 137)), some (vI x0), some (vI x1), some (vI x2), some (vI (zV h 142 ((zw ((zw (4 * x0)) + x1))).toNat))]) (st' := [vI (zw (4 * x0)), vR (some 142)]) (h' := h) f153_64 rfl ?_
          refine y_s (pc' := 66) (L' := [some (vR (some 137)), some (vI x0), some (vI x1), some (vI x2), some (vI (zV h 142 ((zw ((zw (4 * x0)) + x1))).toNat))]) (st' := [vI x1, vI (zw (4 * x0)), vR (some 142)]) (h' := h) f153_65 rfl ?_
          refine y_s (pc' := 67) (L' := [some (vR (some 137)), some (vI x0), some (vI x1), some (vI x2), some (vI (zV h 142 ((zw ((zw (4 * x0)) + x1))).toNat))]) (st' := [vI (zw ((zw (4 * x0)) + x1)), vR (some 142)]) (h' := h) f153_66 rfl ?_
          refine y_s (pc' := 68) (L' := [some (vR (some 137)), some (vI x0), some (vI x1), some (vI x2), some (vI (zV h 142 ((zw ((zw (4 * x0)) + x1))).toNat))]) (st' := [vI x2, vI (zw ((zw (4 * x0)) + x1)), vR (some 142)]) (h' := h) f153_67 rfl ?_
          refine y_is (pc' := 69) (h' := (zsetV h 142 ((zw ((zw (4 * x0)) + x1))).toNat x2)) f153_68 (ys142 w) (by decide) k.1 rfl rfl ?_
          replace k := k.2
          refine y_s (pc' := 71) (L' := [some (vR (some 137)), some (vI x0), some (vI x1), some (vI x2), some (vI (zV h 142 ((zw ((zw (4 * x0)) + x1))).toNat))]) (st' := [vI (zV h 142 ((zw ((zw (4 * x0)) + x1))).toNat)]) (h' := (zsetV h 142 ((zw ((zw (4 * x0)) + x1))).toNat x2)) f153_69 rfl ?_
          exact y_ri f153_71 ⟨rfl, k⟩
        · replace k := k.2 c
          refine y_s (pc' := 45) (L' := [some (vR (some 137)), some (vI x0), some (vI x1), some (vI x2), none]) (st' := [vI (-3)]) (h' := h) f153_43 rfl ?_
          exact y_ri f153_45 ⟨rfl, k⟩
      · replace k := k.2 c
        refine y_iff (pcT := 32) (pc' := 29) f153_26 rfl rfl rfl ?_
        refine y_s (pc' := 31) (L' := [some (vR (some 137)), some (vI x0), some (vI x1), some (vI x2), none]) (st' := [vI (-2)]) (h' := h) f153_29 rfl ?_
        exact y_ri f153_31 ⟨rfl, k⟩
    · replace k := k.2 c
      refine y_iff (pcT := 19) (pc' := 17) f153_14 rfl rfl rfl ?_
      refine y_s (pc' := 18) (L' := [some (vR (some 137)), some (vI x0), some (vI x1), some (vI x2), none]) (st' := [vI (-1)]) (h' := h) f153_17 rfl ?_
      exact y_ri f153_18 ⟨rfl, k⟩
  · replace k := k.2 c
    refine y_ift (pcT := 17) f153_5 rfl rfl ?_
    refine y_s (pc' := 18) (L' := [some (vR (some 137)), some (vI x0), some (vI x1), some (vI x2), none]) (st' := [vI (-1)]) (h' := h) f153_17 rfl ?_
    exact y_ri f153_18 ⟨rfl, k⟩
/-- HatterTunesModel.feed(I)I -/
theorem E154 {d : Nat} {K : Int → Hp → Prop} (w : yWF zl nl h) {x0 : Int} (hd : 1 ≤ d) (k : ((((0 : Int) ≤ x0 ∧ x0 ≤ 127) → (((zV h 137 9) ≠ 100 → ((0 ≤ (zV h 137 9) ∧ (zV h 137 9) < 100) ∧ (∀ h_42, (zsetV (zsetV h 137 9 (zw ((zV h 137 9) + 1))) 144 ((zV h 137 9)).toNat x0) = h_42 → K (zV h_42 137 9) h_42))) ∧ (¬ ((zV h 137 9) ≠ 100) → K (-4) h))) ∧ (¬ (((0 : Int) ≤ x0 ∧ x0 ≤ 127)) → K (-2) h))) : yI d 154 [vR (some 137), vI x0] h K := by
  refine y_en (L := [some (vR (some 137)), some (vI x0)]) rfl rfl ?_
  refine y_s (pc' := 1) (L' := [some (vR (some 137)), some (vI x0)]) (st' := [vI x0]) (h' := h) f154_0 rfl ?_
  refine y_s (pc' := 2) (L' := [some (vR (some 137)), some (vI x0)]) (st' := [vI 0, vI x0]) (h' := h) f154_1 rfl ?_
  refine y_s (pc' := 4) (L' := [some (vR (some 137)), some (vI x0)]) (st' := [vI 127, vI 0, vI x0]) (h' := h) f154_2 rfl ?_
  refine y_cI (pc' := 7) (as := [vI x0, vI 0, vI 127]) (r := []) f154_4 rfl (by omega) rfl ?_
  refine sp129 w (fun c => ?_) (fun c => ?_)
  · replace k := k.1 c
    refine y_ift (pcT := 13) f154_7 rfl rfl ?_
    refine y_s (pc' := 14) (L' := [some (vR (some 137)), some (vI x0)]) (st' := [vR (some 137)]) (h' := h) f154_13 rfl ?_
    refine y_gi (pc' := 17) f154_14 yf_8_157 rfl rfl (ys137 w) rfl ?_
    refine y_s (pc' := 19) (L' := [some (vR (some 137)), some (vI x0)]) (st' := [vI 100, vI (zV h 137 9)]) (h' := h) f154_17 rfl ?_
    refine y_ic (pcT := 25) (pc' := 22) (P := (zV h 137 9) ≠ 100) f154_19 rfl rfl rfl (fun c => ?_) (fun c => ?_)
    · replace k := k.1 c
      refine y_s (pc' := 26) (L' := [some (vR (some 137)), some (vI x0)]) (st' := [vR (some 137)]) (h' := h) f154_25 rfl ?_
      refine y_gr (pc' := 29) f154_26 yf_8_30 rfl rfl (ys137 w) (yp137_10 w) rfl ?_
      refine y_s (pc' := 30) (L' := [some (vR (some 137)), some (vI x0)]) (st' := [vR (some 137), vR (some 144)]) (h' := h) f154_29 rfl ?_
      refine y_s (pc' := 31) (L' := [some (vR (some 137)), some (vI x0)]) (st' := [vR (some 137), vR (some 137), vR (some 144)]) (h' := h) f154_30 rfl ?_
      refine y_gi (pc' := 34) f154_31 yf_8_157 rfl rfl (ys137 w) rfl ?_
      refine y_s (pc' := 35) (L' := [some (vR (some 137)), some (vI x0)]) (st' := [vI (zV h 137 9), vR (some 137), vI (zV h 137 9), vR (some 144)]) (h' := h) f154_34 rfl ?_
      refine y_s (pc' := 36) (L' := [some (vR (some 137)), some (vI x0)]) (st' := [vI 1, vI (zV h 137 9), vR (some 137), vI (zV h 137 9), vR (some 144)]) (h' := h) f154_35 rfl ?_
      refine y_s (pc' := 37) (L' := [some (vR (some 137)), some (vI x0)]) (st' := [vI (zw ((zV h 137 9) + 1)), vR (some 137), vI (zV h 137 9), vR (some 144)]) (h' := h) f154_36 rfl ?_
      refine y_pi (pc' := 40) f154_37 yf_8_157 rfl rfl (ys137 w) (by decide) (Or.inl rfl) rfl ?_
      refine y_s (pc' := 41) (L' := [some (vR (some 137)), some (vI x0)]) (st' := [vI x0, vI (zV h 137 9), vR (some 144)]) (h' := (zsetV h 137 9 (zw ((zV h 137 9) + 1)))) f154_40 rfl ?_
      refine y_is (pc' := 42) (h' := (zsetV (zsetV h 137 9 (zw ((zV h 137 9) + 1))) 144 ((zV h 137 9)).toNat x0)) f154_41 (ys144 w) (by decide) k.1 rfl rfl ?_
      replace k := k.2
      generalize e_42 : (zsetV (zsetV h 137 9 (zw ((zV h 137 9) + 1))) 144 ((zV h 137 9)).toNat x0) = h_42
      replace k := k _ e_42
      have w : yWF zl nl h_42 := by rw [← e_42]; exact w
      refine y_s (pc' := 43) (L' := [some (vR (some 137)), some (vI x0)]) (st' := [vR (some 137)]) (h' := h_42) f154_42 rfl ?_
      refine y_gi (pc' := 46) f154_43 yf_8_157 rfl rfl (ys137 w) rfl ?_
      exact y_ri f154_46 ⟨rfl, k⟩
    · replace k := k.2 c
      refine y_s (pc' := 24) (L' := [some (vR (some 137)), some (vI x0)]) (st' := [vI (-4)]) (h' := h) f154_22 rfl ?_
      exact y_ri f154_24 ⟨rfl, k⟩
  · replace k := k.2 c
    refine y_iff (pcT := 13) (pc' := 10) f154_7 rfl rfl rfl ?_
    refine y_s (pc' := 12) (L' := [some (vR (some 137)), some (vI x0)]) (st' := [vI (-2)]) (h' := h) f154_10 rfl ?_
    exact y_ri f154_12 ⟨rfl, k⟩
/-- HatterTunesModel.see(IIII)I -/
theorem E191 {d : Nat} {K : Int → Hp → Prop} (w : yWF zl nl h) {x0 : Int} {x1 : Int} {x2 : Int} {x3 : Int} (hd : 2 ≤ d) (k : ((x0 ≠ (-1) → (((0 : Int) ≤ zV h 137 0 ∧ zV h 137 0 ≤ 6) ∧ ((((0 : Int) ≤ x0 ∧ x0 < zV h 137 0) → ((((0 : Int) ≤ x1 ∧ x1 < 6) → ((((0 : Int) ≤ x2 ∧ x2 ≤ 12) → ((((0 : Int) ≤ x3 ∧ x3 < 10) → (((zV h 137 25) ≠ 5 → ((0 ≤ (zV h 137 25) ∧ (zV h 137 25) < 5) ∧ ((0 ≤ (zV (zsetV h 152 ((zV h 137 25)).toNat x0) 137 25) ∧ (zV (zsetV h 152 ((zV h 137 25)).toNat x0) 137 25) < 5) ∧ (∀ h_81, (zsetV (zsetV h 152 ((zV h 137 25)).toNat x0) 153 ((zV (zsetV h 152 ((zV h 137 25)).toNat x0) 137 25)).toNat x1) = h_81 → ((0 ≤ (zV h_81 137 25) ∧ (zV h_81 137 25) < 5) ∧ (∀ h_106, (zsetV (zsetV h_81 154 ((zV h_81 137 25)).toNat x2) 137 25 (zw ((zV (zsetV h_81 154 ((zV h_81 137 25)).toNat x2) 137 25) + 1))) = h_106 → ((0 ≤ (zV (zsetV h_81 154 ((zV h_81 137 25)).toNat x2) 137 25) ∧ (zV (zsetV h_81 154 ((zV h_81 137 25)).toNat x2) 137 25) < 5) ∧ (∀ h_109, (zsetV h_106 155 ((zV (zsetV h_81 154 ((zV h_81 137 25)).toNat x2) 137 25)).toNat x3) = h_109 → K (zV h_109 137 25) h_109)))))))) ∧ (¬ ((zV h 137 25) ≠ 5) → K (-4) h))) ∧ (¬ (((0 : Int) ≤ x3 ∧ x3 < 10)) → K (-2) h))) ∧ (¬ (((0 : Int) ≤ x2 ∧ x2 ≤ 12)) → K (-2) h))) ∧ (¬ (((0 : Int) ≤ x1 ∧ x1 < 6)) → K (-1) h))) ∧ (¬ (((0 : Int) ≤ x0 ∧ x0 < zV h 137 0)) → K (-1) h)))) ∧ (¬ (x0 ≠ (-1)) → K 0 (zsetV h 137 25 0)))) : yI d 191 [vR (some 137), vI x0, vI x1, vI x2, vI x3] h K := by
  refine y_en (L := [some (vR (some 137)), some (vI x0), some (vI x1), some (vI x2), some (vI x3)]) rfl rfl ?_
  refine y_s (pc' := 1) (L' := [some (vR (some 137)), some (vI x0), some (vI x1), some (vI x2), some (vI x3)]) (st' := [vI x0]) (h' := h) f191_0 rfl ?_
  refine y_s (pc' := 2) (L' := [some (vR (some 137)), some (vI x0), some (vI x1), some (vI x2), some (vI x3)]) (st' := [vI (-1), vI x0]) (h' := h) f191_1 rfl ?_
  refine y_ic (pcT := 12) (pc' := 5) (P := x0 ≠ (-1)) f191_2 rfl rfl rfl (fun c => ?_) (fun c => ?_)
  · replace k := k.1 c
    refine y_s (pc' := 13) (L' := [some (vR (some 137)), some (vI x0), some (vI x1), some (vI x2), some (vI x3)]) (st' := [vR (some 137)]) (h' := h) f191_12 rfl ?_
    refine y_s (pc' := 14) (L' := [some (vR (some 137)), some (vI x0), some (vI x1), some (vI x2), some (vI x3)]) (st' := [vI x0, vR (some 137)]) (h' := h) f191_13 rfl ?_
    refine y_cI (pc' := 17) (as := [vR (some 137), vI x0]) (r := []) f191_14 (yzv ym_8_121 rfl (ys137 w) rfl rfl) (by omega) rfl ?_
    have p0 := k.1
    replace k := k.2
    refine sp131 w (by omega) p0 (fun c => ?_) (fun c => ?_)
    · replace k := k.1 c
      refine y_iff (pcT := 27) (pc' := 20) f191_17 rfl rfl rfl ?_
      refine y_s (pc' := 21) (L' := [some (vR (some 137)), some (vI x0), some (vI x1), some (vI x2), some (vI x3)]) (st' := [vI x1]) (h' := h) f191_20 rfl ?_
      refine y_cI (pc' := 24) (as := [vI x1]) (r := []) f191_21 rfl (by omega) rfl ?_
      refine sp132 w (by omega) (fun c => ?_) (fun c => ?_)
      · replace k := k.1 c
        refine y_ift (pcT := 29) f191_24 rfl rfl ?_
        refine y_s (pc' := 30) (L' := [some (vR (some 137)), some (vI x0), some (vI x1), some (vI x2), some (vI x3)]) (st' := [vI x2]) (h' := h) f191_29 rfl ?_
        refine y_s (pc' := 31) (L' := [some (vR (some 137)), some (vI x0), some (vI x1), some (vI x2), some (vI x3)]) (st' := [vI 0, vI x2]) (h' := h) f191_30 rfl ?_
        refine y_s (pc' := 33) (L' := [some (vR (some 137)), some (vI x0), some (vI x1), some (vI x2), some (vI x3)]) (st' := [vI 12, vI 0, vI x2]) (h' := h) f191_31 rfl ?_
        refine y_cI (pc' := 36) (as := [vI x2, vI 0, vI 12]) (r := []) f191_33 rfl (by omega) rfl ?_
        refine sp129 w (fun c => ?_) (fun c => ?_)
        · replace k := k.1 c
          refine y_iff (pcT := 47) (pc' := 39) f191_36 rfl rfl rfl ?_
          refine y_s (pc' := 41) (L' := [some (vR (some 137)), some (vI x0), some (vI x1), some (vI x2), some (vI x3)]) (st' := [vI x3]) (h' := h) f191_39 rfl ?_
          refine y_cI (pc' := 44) (as := [vI x3]) (r := []) f191_41 rfl (by omega) rfl ?_
          refine sp151 w (by omega) (fun c => ?_) (fun c => ?_)
          · replace k := k.1 c
            refine y_ift (pcT := 50) f191_44 rfl rfl ?_
            refine y_s (pc' := 51) (L' := [some (vR (some 137)), some (vI x0), some (vI x1), some (vI x2), some (vI x3)]) (st' := [vR (some 137)]) (h' := h) f191_50 rfl ?_
            refine y_gi (pc' := 54) f191_51 yf_8_286 rfl rfl (ys137 w) rfl ?_
            refine y_s (pc' := 55) (L' := [some (vR (some 137)), some (vI x0), some (vI x1), some (vI x2), some (vI x3)]) (st' := [vI 5, vI (zV h 137 25)]) (h' := h) f191_54 rfl ?_
            refine y_ic (pcT := 61) (pc' := 58) (P := (zV h 137 25) ≠ 5) f191_55 rfl rfl rfl (fun c => ?_) (fun c => ?_)
            · replace k := k.1 c
              refine y_s (pc' := 62) (L' := [some (vR (some 137)), some (vI x0), some (vI x1), some (vI x2), some (vI x3)]) (st' := [vR (some 137)]) (h' := h) f191_61 rfl ?_
              refine y_gr (pc' := 65) f191_62 yf_8_55 rfl rfl (ys137 w) (yp137_26 w) rfl ?_
              refine y_s (pc' := 66) (L' := [some (vR (some 137)), some (vI x0), some (vI x1), some (vI x2), some (vI x3)]) (st' := [vR (some 137), vR (some 152)]) (h' := h) f191_65 rfl ?_
              refine y_gi (pc' := 69) f191_66 yf_8_286 rfl rfl (ys137 w) rfl ?_
              refine y_s (pc' := 70) (L' := [some (vR (some 137)), some (vI x0), some (vI x1), some (vI x2), some (vI x3)]) (st' := [vI x0, vI (zV h 137 25), vR (some 152)]) (h' := h) f191_69 rfl ?_
              refine y_is (pc' := 71) (h' := (zsetV h 152 ((zV h 137 25)).toNat x0)) f191_70 (ys152 w) (by decide) k.1 rfl rfl ?_
              replace k := k.2
              refine y_s (pc' := 72) (L' := [some (vR (some 137)), some (vI x0), some (vI x1), some (vI x2), some (vI x3)]) (st' := [vR (some 137)]) (h' := (zsetV h 152 ((zV h 137 25)).toNat x0)) f191_71 rfl ?_
              refine y_gr (pc' := 75) f191_72 yf_8_58 rfl rfl (ys137 w) (yp137_27 w) rfl ?_
              refine y_s (pc' := 76) (L' := [some (vR (some 137)), some (vI x0), some (vI x1), some (vI x2), some (vI x3)]) (st' := [vR (some 137), vR (some 153)]) (h' := (zsetV h 152 ((zV h 137 25)).toNat x0)) f191_75 rfl ?_
              refine y_gi (pc' := 79) f191_76 yf_8_286 rfl rfl (ys137 w) rfl ?_
              refine y_s (pc' := 80) (L' := [some (vR (some 137)), some (vI x0), some (vI x1), some (vI x2), some (vI x3)]) (st' := [vI x1, vI (zV (zsetV h 152 ((zV h 137 25)).toNat x0) 137 25), vR (some 153)]) (h' := (zsetV h 152 ((zV h 137 25)).toNat x0)) f191_79 rfl ?_
              refine y_is (pc' := 81) (h' := (zsetV (zsetV h 152 ((zV h 137 25)).toNat x0) 153 ((zV (zsetV h 152 ((zV h 137 25)).toNat x0) 137 25)).toNat x1)) f191_80 (ys153 w) (by decide) k.1 rfl rfl ?_
              replace k := k.2
              generalize e_81 : (zsetV (zsetV h 152 ((zV h 137 25)).toNat x0) 153 ((zV (zsetV h 152 ((zV h 137 25)).toNat x0) 137 25)).toNat x1) = h_81
              replace k := k _ e_81
              have w : yWF zl nl h_81 := by rw [← e_81]; exact w
              refine y_s (pc' := 82) (L' := [some (vR (some 137)), some (vI x0), some (vI x1), some (vI x2), some (vI x3)]) (st' := [vR (some 137)]) (h' := h_81) f191_81 rfl ?_
              refine y_gr (pc' := 85) f191_82 yf_8_61 rfl rfl (ys137 w) (yp137_28 w) rfl ?_
              refine y_s (pc' := 86) (L' := [some (vR (some 137)), some (vI x0), some (vI x1), some (vI x2), some (vI x3)]) (st' := [vR (some 137), vR (some 154)]) (h' := h_81) f191_85 rfl ?_
              refine y_gi (pc' := 89) f191_86 yf_8_286 rfl rfl (ys137 w) rfl ?_
              refine y_s (pc' := 90) (L' := [some (vR (some 137)), some (vI x0), some (vI x1), some (vI x2), some (vI x3)]) (st' := [vI x2, vI (zV h_81 137 25), vR (some 154)]) (h' := h_81) f191_89 rfl ?_
              refine y_is (pc' := 91) (h' := (zsetV h_81 154 ((zV h_81 137 25)).toNat x2)) f191_90 (ys154 w) (by decide) k.1 rfl rfl ?_
              replace k := k.2
              refine y_s (pc' := 92) (L' := [some (vR (some 137)), some (vI x0), some (vI x1), some (vI x2), some (vI x3)]) (st' := [vR (some 137)]) (h' := (zsetV h_81 154 ((zV h_81 137 25)).toNat x2)) f191_91 rfl ?_
              refine y_gr (pc' := 95) f191_92 yf_8_64 rfl rfl (ys137 w) (yp137_29 w) rfl ?_
              refine y_s (pc' := 96) (L' := [some (vR (some 137)), some (vI x0), some (vI x1), some (vI x2), some (vI x3)]) (st' := [vR (some 137), vR (some 155)]) (h' := (zsetV h_81 154 ((zV h_81 137 25)).toNat x2)) f191_95 rfl ?_
              refine y_s (pc' := 97) (L' := [some (vR (some 137)), some (vI x0), some (vI x1), some (vI x2), some (vI x3)]) (st' := [vR (some 137), vR (some 137), vR (some 155)]) (h' := (zsetV h_81 154 ((zV h_81 137 25)).toNat x2)) f191_96 rfl ?_
              refine y_gi (pc' := 100) f191_97 yf_8_286 rfl rfl (ys137 w) rfl ?_
              refine y_s (pc' := 101) (L' := [some (vR (some 137)), some (vI x0), some (vI x1), some (vI x2), some (vI x3)]) (st' := [vI (zV (zsetV h_81 154 ((zV h_81 137 25)).toNat x2) 137 25), vR (some 137), vI (zV (zsetV h_81 154 ((zV h_81 137 25)).toNat x2) 137 25), vR (some 155)]) (h' := (zsetV h_81 154 ((zV h_81 137 25)).toNat x2)) f191_100 rfl ?_
              refine y_s (pc' := 102) (L' := [some (vR (some 137)), some (vI x0), some (vI x1), some (vI x2), some (vI x3)]) (st' := [vI 1, vI (zV (zsetV h_81 154 ((zV h_81 137 25)).toNat x2) 137 25), vR (some 137), vI (zV (zsetV h_81 154 ((zV h_81 137 25)).toNat x2) 137 25), vR (some 155)]) (h' := (zsetV h_81 154 ((zV h_81 137 25)).toNat x2)) f191_101 rfl ?_
              refine y_s (pc' := 103) (L' := [some (vR (some 137)), some (vI x0), some (vI x1), some (vI x2), some (vI x3)]) (st' := [vI (zw ((zV (zsetV h_81 154 ((zV h_81 137 25)).toNat x2) 137 25) + 1)), vR (some 137), vI (zV (zsetV h_81 154 ((zV h_81 137 25)).toNat x2) 137 25), vR (some 155)]) (h' := (zsetV h_81 154 ((zV h_81 137 25)).toNat x2)) f191_102 rfl ?_
              refine y_pi (pc' := 106) f191_103 yf_8_286 rfl rfl (ys137 w) (by decide) (Or.inl rfl) rfl ?_
              generalize e_106 : (zsetV (zsetV h_81 154 ((zV h_81 137 25)).toNat x2) 137 25 (zw ((zV (zsetV h_81 154 ((zV h_81 137 25)).toNat x2) 137 25) + 1))) = h_106
              replace k := k _ e_106
              have w : yWF zl nl h_106 := by rw [← e_106]; exact w
              refine y_s (pc' := 108) (L' := [some (vR (some 137)), some (vI x0), some (vI x1), some (vI x2), some (vI x3)]) (st' := [vI x3, vI (zV (zsetV h_81 154 ((zV h_81 137 25)).toNat x2) 137 25), vR (some 155)]) (h' := h_106) f191_106 rfl ?_
              refine y_is (pc' := 109) (h' := (zsetV h_106 155 ((zV (zsetV h_81 154 ((zV h_81 137 25)).toNat x2) 137 25)).toNat x3)) f191_108 (ys155 w) (by decide) k.1 rfl rfl ?_
              replace k := k.2
              generalize e_109 : (zsetV h_106 155 ((zV (zsetV h_81 154 ((zV h_81 137 25)).toNat x2) 137 25)).toNat x3) = h_109
              replace k := k _ e_109
              have w : yWF zl nl h_109 := by rw [← e_109]; exact w
              refine y_s (pc' := 110) (L' := [some (vR (some 137)), some (vI x0), some (vI x1), some (vI x2), some (vI x3)]) (st' := [vR (some 137)]) (h' := h_109) f191_109 rfl ?_
              refine y_gi (pc' := 113) f191_110 yf_8_286 rfl rfl (ys137 w) rfl ?_
              exact y_ri f191_113 ⟨rfl, k⟩
            · replace k := k.2 c
              refine y_s (pc' := 60) (L' := [some (vR (some 137)), some (vI x0), some (vI x1), some (vI x2), some (vI x3)]) (st' := [vI (-4)]) (h' := h) f191_58 rfl ?_
              exact y_ri f191_60 ⟨rfl, k⟩
          · replace k := k.2 c
            refine y_iff (pcT := 50) (pc' := 47) f191_44 rfl rfl rfl ?_
            refine y_s (pc' := 49) (L' := [some (vR (some 137)), some (vI x0), some (vI x1), some (vI x2), some (vI x3)]) (st' := [vI (-2)]) (h' := h) f191_47 rfl ?_
            exact y_ri f191_49 ⟨rfl, k⟩
        · replace k := k.2 c
          refine y_ift (pcT := 47) f191_36 rfl rfl ?_
          refine y_s (pc' := 49) (L' := [some (vR (some 137)), some (vI x0), some (vI x1), some (vI x2), some (vI x3)]) (st' := [vI (-2)]) (h' := h) f191_47 rfl ?_
          exact y_ri f191_49 ⟨rfl, k⟩
      · replace k := k.2 c
        refine y_iff (pcT := 29) (pc' := 27) f191_24 rfl rfl rfl ?_
        refine y_s (pc' := 28) (L' := [some (vR (some 137)), some (vI x0), some (vI x1), some (vI x2), some (vI x3)]) (st' := [vI (-1)]) (h' := h) f191_27 rfl ?_
        exact y_ri f191_28 ⟨rfl, k⟩
    · replace k := k.2 c
      refine y_ift (pcT := 27) f191_17 rfl rfl ?_
      refine y_s (pc' := 28) (L' := [some (vR (some 137)), some (vI x0), some (vI x1), some (vI x2), some (vI x3)]) (st' := [vI (-1)]) (h' := h) f191_27 rfl ?_
      exact y_ri f191_28 ⟨rfl, k⟩
  · replace k := k.2 c
    refine y_s (pc' := 6) (L' := [some (vR (some 137)), some (vI x0), some (vI x1), some (vI x2), some (vI x3)]) (st' := [vR (some 137)]) (h' := h) f191_5 rfl ?_
    refine y_s (pc' := 7) (L' := [some (vR (some 137)), some (vI x0), some (vI x1), some (vI x2), some (vI x3)]) (st' := [vI 0, vR (some 137)]) (h' := h) f191_6 rfl ?_
    refine y_pi (pc' := 10) f191_7 yf_8_286 rfl rfl (ys137 w) (by decide) (Or.inl rfl) rfl ?_
    refine y_s (pc' := 11) (L' := [some (vR (some 137)), some (vI x0), some (vI x1), some (vI x2), some (vI x3)]) (st' := [vI 0]) (h' := (zsetV h 137 25 0)) f191_10 rfl ?_
    exact y_ri f191_11 ⟨rfl, k⟩
/-- HatterTunesModel.plan(II)I -/
theorem E197 {d : Nat} {K : Int → Hp → Prop} (w : yWF zl nl h) {x0 : Int} {x1 : Int} (hd : 2 ≤ d) (k : ((x0 ≠ (-1) → ((((0 : Int) ≤ x0 ∧ x0 ≤ 3) → ((x0 ≤ 0 → (((zV h 137 30) ≠ 10 → ((0 ≤ (zV h 137 30) ∧ (zV h 137 30) < 10) ∧ (∀ h_72, (zsetV (zsetV h 156 ((zV h 137 30)).toNat x0) 137 30 (zw ((zV (zsetV h 156 ((zV h 137 30)).toNat x0) 137 30) + 1))) = h_72 → ((x0 ≠ 0 → ((0 ≤ (zV (zsetV h 156 ((zV h 137 30)).toNat x0) 137 30) ∧ (zV (zsetV h 156 ((zV h 137 30)).toNat x0) 137 30) < 10) ∧ (∀ h_82, (zsetV h_72 157 ((zV (zsetV h 156 ((zV h 137 30)).toNat x0) 137 30)).toNat x1) = h_82 → K (zV h_82 137 30) h_82))) ∧ (¬ (x0 ≠ 0) → ((0 ≤ (zV (zsetV h 156 ((zV h 137 30)).toNat x0) 137 30) ∧ (zV (zsetV h 156 ((zV h 137 30)).toNat x0) 137 30) < 10) ∧ (∀ h_82, (zsetV h_72 157 ((zV (zsetV h 156 ((zV h 137 30)).toNat x0) 137 30)).toNat 0) = h_82 → K (zV h_82 137 30) h_82))))))) ∧ (¬ ((zV h 137 30) ≠ 10) → K (-4) h))) ∧ (¬ (x0 ≤ 0) → (((0 : Int) ≤ zV h 137 0 ∧ zV h 137 0 ≤ 6) ∧ ((((0 : Int) ≤ x1 ∧ x1 < zV h 137 0) → (((zV h 137 30) ≠ 10 → ((0 ≤ (zV h 137 30) ∧ (zV h 137 30) < 10) ∧ (∀ h_72, (zsetV (zsetV h 156 ((zV h 137 30)).toNat x0) 137 30 (zw ((zV (zsetV h 156 ((zV h 137 30)).toNat x0) 137 30) + 1))) = h_72 → ((x0 ≠ 0 → ((0 ≤ (zV (zsetV h 156 ((zV h 137 30)).toNat x0) 137 30) ∧ (zV (zsetV h 156 ((zV h 137 30)).toNat x0) 137 30) < 10) ∧ (∀ h_82, (zsetV h_72 157 ((zV (zsetV h 156 ((zV h 137 30)).toNat x0) 137 30)).toNat x1) = h_82 → K (zV h_82 137 30) h_82))) ∧ (¬ (x0 ≠ 0) → ((0 ≤ (zV (zsetV h 156 ((zV h 137 30)).toNat x0) 137 30) ∧ (zV (zsetV h 156 ((zV h 137 30)).toNat x0) 137 30) < 10) ∧ (∀ h_82, (zsetV h_72 157 ((zV (zsetV h 156 ((zV h 137 30)).toNat x0) 137 30)).toNat 0) = h_82 → K (zV h_82 137 30) h_82))))))) ∧ (¬ ((zV h 137 30) ≠ 10) → K (-4) h))) ∧ (¬ (((0 : Int) ≤ x1 ∧ x1 < zV h 137 0)) → K (-1) h)))))) ∧ (¬ (((0 : Int) ≤ x0 ∧ x0 ≤ 3)) → K (-1) h))) ∧ (¬ (x0 ≠ (-1)) → K 0 (zsetV h 137 30 0)))) : yI d 197 [vR (some 137), vI x0, vI x1] h K := by
  refine y_en (L := [some (vR (some 137)), some (vI x0), some (vI x1)]) rfl rfl ?_
  refine y_s (pc' := 1) (L' := [some (vR (some 137)), some (vI x0), some (vI x1)]) (st' := [vI x0]) (h' := h) f197_0 rfl ?_
  refine y_s (pc' := 2) (L' := [some (vR (some 137)), some (vI x0), some (vI x1)]) (st' := [vI (-1), vI x0]) (h' := h) f197_1 rfl ?_
  refine y_ic (pcT := 12) (pc' := 5) (P := x0 ≠ (-1)) f197_2 rfl rfl rfl (fun c => ?_) (fun c => ?_)
  · replace k := k.1 c
    refine y_s (pc' := 13) (L' := [some (vR (some 137)), some (vI x0), some (vI x1)]) (st' := [vI x0]) (h' := h) f197_12 rfl ?_
    refine y_s (pc' := 14) (L' := [some (vR (some 137)), some (vI x0), some (vI x1)]) (st' := [vI 0, vI x0]) (h' := h) f197_13 rfl ?_
    refine y_s (pc' := 15) (L' := [some (vR (some 137)), some (vI x0), some (vI x1)]) (st' := [vI 3, vI 0, vI x0]) (h' := h) f197_14 rfl ?_
    refine y_cI (pc' := 18) (as := [vI x0, vI 0, vI 3]) (r := []) f197_15 rfl (by omega) rfl ?_
    refine sp129 w (fun c => ?_) (fun c => ?_)
    · replace k := k.1 c
      refine y_iff (pcT := 33) (pc' := 21) f197_18 rfl rfl rfl ?_
      refine y_s (pc' := 22) (L' := [some (vR (some 137)), some (vI x0), some (vI x1)]) (st' := [vI x0]) (h' := h) f197_21 rfl ?_
      refine y_if (pcT := 35) (pc' := 25) (P := x0 ≤ 0) f197_22 rfl rfl rfl (fun c => ?_) (fun c => ?_)
      · replace k := k.1 c
        refine y_s (pc' := 36) (L' := [some (vR (some 137)), some (vI x0), some (vI x1)]) (st' := [vR (some 137)]) (h' := h) f197_35 rfl ?_
        refine y_gi (pc' := 39) f197_36 yf_8_307 rfl rfl (ys137 w) rfl ?_
        refine y_s (pc' := 41) (L' := [some (vR (some 137)), some (vI x0), some (vI x1)]) (st' := [vI 10, vI (zV h 137 30)]) (h' := h) f197_39 rfl ?_
        refine y_ic (pcT := 47) (pc' := 44) (P := (zV h 137 30) ≠ 10) f197_41 rfl rfl rfl (fun c => ?_) (fun c => ?_)
        · replace k := k.1 c
          refine y_s (pc' := 48) (L' := [some (vR (some 137)), some (vI x0), some (vI x1)]) (st' := [vR (some 137)]) (h' := h) f197_47 rfl ?_
          refine y_gr (pc' := 51) f197_48 yf_8_67 rfl rfl (ys137 w) (yp137_31 w) rfl ?_
          refine y_s (pc' := 52) (L' := [some (vR (some 137)), some (vI x0), some (vI x1)]) (st' := [vR (some 137), vR (some 156)]) (h' := h) f197_51 rfl ?_
          refine y_gi (pc' := 55) f197_52 yf_8_307 rfl rfl (ys137 w) rfl ?_
          refine y_s (pc' := 56) (L' := [some (vR (some 137)), some (vI x0), some (vI x1)]) (st' := [vI x0, vI (zV h 137 30), vR (some 156)]) (h' := h) f197_55 rfl ?_
          refine y_is (pc' := 57) (h' := (zsetV h 156 ((zV h 137 30)).toNat x0)) f197_56 (ys156 w) (by decide) k.1 rfl rfl ?_
          replace k := k.2
          refine y_s (pc' := 58) (L' := [some (vR (some 137)), some (vI x0), some (vI x1)]) (st' := [vR (some 137)]) (h' := (zsetV h 156 ((zV h 137 30)).toNat x0)) f197_57 rfl ?_
          refine y_gr (pc' := 61) f197_58 yf_8_70 rfl rfl (ys137 w) (yp137_32 w) rfl ?_
          refine y_s (pc' := 62) (L' := [some (vR (some 137)), some (vI x0), some (vI x1)]) (st' := [vR (some 137), vR (some 157)]) (h' := (zsetV h 156 ((zV h 137 30)).toNat x0)) f197_61 rfl ?_
          refine y_s (pc' := 63) (L' := [some (vR (some 137)), some (vI x0), some (vI x1)]) (st' := [vR (some 137), vR (some 137), vR (some 157)]) (h' := (zsetV h 156 ((zV h 137 30)).toNat x0)) f197_62 rfl ?_
          refine y_gi (pc' := 66) f197_63 yf_8_307 rfl rfl (ys137 w) rfl ?_
          refine y_s (pc' := 67) (L' := [some (vR (some 137)), some (vI x0), some (vI x1)]) (st' := [vI (zV (zsetV h 156 ((zV h 137 30)).toNat x0) 137 30), vR (some 137), vI (zV (zsetV h 156 ((zV h 137 30)).toNat x0) 137 30), vR (some 157)]) (h' := (zsetV h 156 ((zV h 137 30)).toNat x0)) f197_66 rfl ?_
          refine y_s (pc' := 68) (L' := [some (vR (some 137)), some (vI x0), some (vI x1)]) (st' := [vI 1, vI (zV (zsetV h 156 ((zV h 137 30)).toNat x0) 137 30), vR (some 137), vI (zV (zsetV h 156 ((zV h 137 30)).toNat x0) 137 30), vR (some 157)]) (h' := (zsetV h 156 ((zV h 137 30)).toNat x0)) f197_67 rfl ?_
          refine y_s (pc' := 69) (L' := [some (vR (some 137)), some (vI x0), some (vI x1)]) (st' := [vI (zw ((zV (zsetV h 156 ((zV h 137 30)).toNat x0) 137 30) + 1)), vR (some 137), vI (zV (zsetV h 156 ((zV h 137 30)).toNat x0) 137 30), vR (some 157)]) (h' := (zsetV h 156 ((zV h 137 30)).toNat x0)) f197_68 rfl ?_
          refine y_pi (pc' := 72) f197_69 yf_8_307 rfl rfl (ys137 w) (by decide) (Or.inl rfl) rfl ?_
          generalize e_72 : (zsetV (zsetV h 156 ((zV h 137 30)).toNat x0) 137 30 (zw ((zV (zsetV h 156 ((zV h 137 30)).toNat x0) 137 30) + 1))) = h_72
          replace k := k _ e_72
          have w : yWF zl nl h_72 := by rw [← e_72]; exact w
          refine y_s (pc' := 73) (L' := [some (vR (some 137)), some (vI x0), some (vI x1)]) (st' := [vI x0, vI (zV (zsetV h 156 ((zV h 137 30)).toNat x0) 137 30), vR (some 157)]) (h' := h_72) f197_72 rfl ?_
          refine y_if (pcT := 80) (pc' := 76) (P := x0 ≠ 0) f197_73 rfl rfl rfl (fun c => ?_) (fun c => ?_)
          · replace k := k.1 c
            refine y_s (pc' := 81) (L' := [some (vR (some 137)), some (vI x0), some (vI x1)]) (st' := [vI x1, vI (zV (zsetV h 156 ((zV h 137 30)).toNat x0) 137 30), vR (some 157)]) (h' := h_72) f197_80 rfl ?_
            refine y_is (pc' := 82) (h' := (zsetV h_72 157 ((zV (zsetV h 156 ((zV h 137 30)).toNat x0) 137 30)).toNat x1)) f197_81 (ys157 w) (by decide) k.1 rfl rfl ?_
            replace k := k.2
            generalize e_82 : (zsetV h_72 157 ((zV (zsetV h 156 ((zV h 137 30)).toNat x0) 137 30)).toNat x1) = h_82
            replace k := k _ e_82
            have w : yWF zl nl h_82 := by rw [← e_82]; exact w
            refine y_s (pc' := 83) (L' := [some (vR (some 137)), some (vI x0), some (vI x1)]) (st' := [vR (some 137)]) (h' := h_82) f197_82 rfl ?_
            refine y_gi (pc' := 86) f197_83 yf_8_307 rfl rfl (ys137 w) rfl ?_
            exact y_ri f197_86 ⟨rfl, k⟩
          · replace k := k.2 c
            refine y_s (pc' := 77) (L' := [some (vR (some 137)), some (vI x0), some (vI x1)]) (st' := [vI 0, vI (zV (zsetV h 156 ((zV h 137 30)).toNat x0) 137 30), vR (some 157)]) (h' := h_72) f197_76 rfl ?_
            refine y_go (pc' := 81) f197_77 rfl ?_
            refine y_is (pc' := 82) (h' := (zsetV h_72 157 ((zV (zsetV h 156 ((zV h 137 30)).toNat x0) 137 30)).toNat 0)) f197_81 (ys157 w) (by decide) k.1 rfl rfl ?_
            replace k := k.2
            generalize e_82 : (zsetV h_72 157 ((zV (zsetV h 156 ((zV h 137 30)).toNat x0) 137 30)).toNat 0) = h_82
            replace k := k _ e_82
            have w : yWF zl nl h_82 := by rw [← e_82]; exact w
            refine y_s (pc' := 83) (L' := [some (vR (some 137)), some (vI x0), some (vI x1)]) (st' := [vR (some 137)]) (h' := h_82) f197_82 rfl ?_
            refine y_gi (pc' := 86) f197_83 yf_8_307 rfl rfl (ys137 w) rfl ?_
            exact y_ri f197_86 ⟨rfl, k⟩
        · replace k := k.2 c
          refine y_s (pc' := 46) (L' := [some (vR (some 137)), some (vI x0), some (vI x1)]) (st' := [vI (-4)]) (h' := h) f197_44 rfl ?_
          exact y_ri f197_46 ⟨rfl, k⟩
      · replace k := k.2 c
        refine y_s (pc' := 26) (L' := [some (vR (some 137)), some (vI x0), some (vI x1)]) (st' := [vR (some 137)]) (h' := h) f197_25 rfl ?_
        refine y_s (pc' := 27) (L' := [some (vR (some 137)), some (vI x0), some (vI x1)]) (st' := [vI x1, vR (some 137)]) (h' := h) f197_26 rfl ?_
        refine y_cI (pc' := 30) (as := [vR (some 137), vI x1]) (r := []) f197_27 (yzv ym_8_121 rfl (ys137 w) rfl rfl) (by omega) rfl ?_
        have p0 := k.1
        replace k := k.2
        refine sp131 w (by omega) p0 (fun c => ?_) (fun c => ?_)
        · replace k := k.1 c
          refine y_ift (pcT := 35) f197_30 rfl rfl ?_
          refine y_s (pc' := 36) (L' := [some (vR (some 137)), some (vI x0), some (vI x1)]) (st' := [vR (some 137)]) (h' := h) f197_35 rfl ?_
          refine y_gi (pc' := 39) f197_36 yf_8_307 rfl rfl (ys137 w) rfl ?_
          refine y_s (pc' := 41) (L' := [some (vR (some 137)), some (vI x0), some (vI x1)]) (st' := [vI 10, vI (zV h 137 30)]) (h' := h) f197_39 rfl ?_
          refine y_ic (pcT := 47) (pc' := 44) (P := (zV h 137 30) ≠ 10) f197_41 rfl rfl rfl (fun c => ?_) (fun c => ?_)
          · replace k := k.1 c
            refine y_s (pc' := 48) (L' := [some (vR (some 137)), some (vI x0), some (vI x1)]) (st' := [vR (some 137)]) (h' := h) f197_47 rfl ?_
            refine y_gr (pc' := 51) f197_48 yf_8_67 rfl rfl (ys137 w) (yp137_31 w) rfl ?_
            refine y_s (pc' := 52) (L' := [some (vR (some 137)), some (vI x0), some (vI x1)]) (st' := [vR (some 137), vR (some 156)]) (h' := h) f197_51 rfl ?_
            refine y_gi (pc' := 55) f197_52 yf_8_307 rfl rfl (ys137 w) rfl ?_
            refine y_s (pc' := 56) (L' := [some (vR (some 137)), some (vI x0), some (vI x1)]) (st' := [vI x0, vI (zV h 137 30), vR (some 156)]) (h' := h) f197_55 rfl ?_
            refine y_is (pc' := 57) (h' := (zsetV h 156 ((zV h 137 30)).toNat x0)) f197_56 (ys156 w) (by decide) k.1 rfl rfl ?_
            replace k := k.2
            refine y_s (pc' := 58) (L' := [some (vR (some 137)), some (vI x0), some (vI x1)]) (st' := [vR (some 137)]) (h' := (zsetV h 156 ((zV h 137 30)).toNat x0)) f197_57 rfl ?_
            refine y_gr (pc' := 61) f197_58 yf_8_70 rfl rfl (ys137 w) (yp137_32 w) rfl ?_
            refine y_s (pc' := 62) (L' := [some (vR (some 137)), some (vI x0), some (vI x1)]) (st' := [vR (some 137), vR (some 157)]) (h' := (zsetV h 156 ((zV h 137 30)).toNat x0)) f197_61 rfl ?_
            refine y_s (pc' := 63) (L' := [some (vR (some 137)), some (vI x0), some (vI x1)]) (st' := [vR (some 137), vR (some 137), vR (some 157)]) (h' := (zsetV h 156 ((zV h 137 30)).toNat x0)) f197_62 rfl ?_
            refine y_gi (pc' := 66) f197_63 yf_8_307 rfl rfl (ys137 w) rfl ?_
            refine y_s (pc' := 67) (L' := [some (vR (some 137)), some (vI x0), some (vI x1)]) (st' := [vI (zV (zsetV h 156 ((zV h 137 30)).toNat x0) 137 30), vR (some 137), vI (zV (zsetV h 156 ((zV h 137 30)).toNat x0) 137 30), vR (some 157)]) (h' := (zsetV h 156 ((zV h 137 30)).toNat x0)) f197_66 rfl ?_
            refine y_s (pc' := 68) (L' := [some (vR (some 137)), some (vI x0), some (vI x1)]) (st' := [vI 1, vI (zV (zsetV h 156 ((zV h 137 30)).toNat x0) 137 30), vR (some 137), vI (zV (zsetV h 156 ((zV h 137 30)).toNat x0) 137 30), vR (some 157)]) (h' := (zsetV h 156 ((zV h 137 30)).toNat x0)) f197_67 rfl ?_
            refine y_s (pc' := 69) (L' := [some (vR (some 137)), some (vI x0), some (vI x1)]) (st' := [vI (zw ((zV (zsetV h 156 ((zV h 137 30)).toNat x0) 137 30) + 1)), vR (some 137), vI (zV (zsetV h 156 ((zV h 137 30)).toNat x0) 137 30), vR (some 157)]) (h' := (zsetV h 156 ((zV h 137 30)).toNat x0)) f197_68 rfl ?_
            refine y_pi (pc' := 72) f197_69 yf_8_307 rfl rfl (ys137 w) (by decide) (Or.inl rfl) rfl ?_
            generalize e_72 : (zsetV (zsetV h 156 ((zV h 137 30)).toNat x0) 137 30 (zw ((zV (zsetV h 156 ((zV h 137 30)).toNat x0) 137 30) + 1))) = h_72
            replace k := k _ e_72
            have w : yWF zl nl h_72 := by rw [← e_72]; exact w
            refine y_s (pc' := 73) (L' := [some (vR (some 137)), some (vI x0), some (vI x1)]) (st' := [vI x0, vI (zV (zsetV h 156 ((zV h 137 30)).toNat x0) 137 30), vR (some 157)]) (h' := h_72) f197_72 rfl ?_
            refine y_if (pcT := 80) (pc' := 76) (P := x0 ≠ 0) f197_73 rfl rfl rfl (fun c => ?_) (fun c => ?_)
            · replace k := k.1 c
              refine y_s (pc' := 81) (L' := [some (vR (some 137)), some (vI x0), some (vI x1)]) (st' := [vI x1, vI (zV (zsetV h 156 ((zV h 137 30)).toNat x0) 137 30), vR (some 157)]) (h' := h_72) f197_80 rfl ?_
              refine y_is (pc' := 82) (h' := (zsetV h_72 157 ((zV (zsetV h 156 ((zV h 137 30)).toNat x0) 137 30)).toNat x1)) f197_81 (ys157 w) (by decide) k.1 rfl rfl ?_
              replace k := k.2
              generalize e_82 : (zsetV h_72 157 ((zV (zsetV h 156 ((zV h 137 30)).toNat x0) 137 30)).toNat x1) = h_82
              replace k := k _ e_82
              have w : yWF zl nl h_82 := by rw [← e_82]; exact w
              refine y_s (pc' := 83) (L' := [some (vR (some 137)), some (vI x0), some (vI x1)]) (st' := [vR (some 137)]) (h' := h_82) f197_82 rfl ?_
              refine y_gi (pc' := 86) f197_83 yf_8_307 rfl rfl (ys137 w) rfl ?_
              exact y_ri f197_86 ⟨rfl, k⟩
            · replace k := k.2 c
              refine y_s (pc' := 77) (L' := [some (vR (some 137)), some (vI x0), some (vI x1)]) (st' := [vI 0, vI (zV (zsetV h 156 ((zV h 137 30)).toNat x0) 137 30), vR (some 157)]) (h' := h_72) f197_76 rfl ?_
              refine y_go (pc' := 81) f197_77 rfl ?_
              refine y_is (pc' := 82) (h' := (zsetV h_72 157 ((zV (zsetV h 156 ((zV h 137 30)).toNat x0) 137 30)).toNat 0)) f197_81 (ys157 w) (by decide) k.1 rfl rfl ?_
              replace k := k.2
              generalize e_82 : (zsetV h_72 157 ((zV (zsetV h 156 ((zV h 137 30)).toNat x0) 137 30)).toNat 0) = h_82
              replace k := k _ e_82
              have w : yWF zl nl h_82 := by rw [← e_82]; exact w
              refine y_s (pc' := 83) (L' := [some (vR (some 137)), some (vI x0), some (vI x1)]) (st' := [vR (some 137)]) (h' := h_82) f197_82 rfl ?_
              refine y_gi (pc' := 86) f197_83 yf_8_307 rfl rfl (ys137 w) rfl ?_
              exact y_ri f197_86 ⟨rfl, k⟩
          · replace k := k.2 c
            refine y_s (pc' := 46) (L' := [some (vR (some 137)), some (vI x0), some (vI x1)]) (st' := [vI (-4)]) (h' := h) f197_44 rfl ?_
            exact y_ri f197_46 ⟨rfl, k⟩
        · replace k := k.2 c
          refine y_iff (pcT := 35) (pc' := 33) f197_30 rfl rfl rfl ?_
          refine y_s (pc' := 34) (L' := [some (vR (some 137)), some (vI x0), some (vI x1)]) (st' := [vI (-1)]) (h' := h) f197_33 rfl ?_
          exact y_ri f197_34 ⟨rfl, k⟩
    · replace k := k.2 c
      refine y_ift (pcT := 33) f197_18 rfl rfl ?_
      refine y_s (pc' := 34) (L' := [some (vR (some 137)), some (vI x0), some (vI x1)]) (st' := [vI (-1)]) (h' := h) f197_33 rfl ?_
      exact y_ri f197_34 ⟨rfl, k⟩
  · replace k := k.2 c
    refine y_s (pc' := 6) (L' := [some (vR (some 137)), some (vI x0), some (vI x1)]) (st' := [vR (some 137)]) (h' := h) f197_5 rfl ?_
    refine y_s (pc' := 7) (L' := [some (vR (some 137)), some (vI x0), some (vI x1)]) (st' := [vI 0, vR (some 137)]) (h' := h) f197_6 rfl ?_
    refine y_pi (pc' := 10) f197_7 yf_8_307 rfl rfl (ys137 w) (by decide) (Or.inl rfl) rfl ?_
    refine y_s (pc' := 11) (L' := [some (vR (some 137)), some (vI x0), some (vI x1)]) (st' := [vI 0]) (h' := (zsetV h 137 30 0)) f197_10 rfl ?_
    exact y_ri f197_11 ⟨rfl, k⟩
/-- HatterTunesModel.book(II)I -/
theorem E199 {d : Nat} {K : Int → Hp → Prop} (w : yWF zl nl h) {x0 : Int} {x1 : Int} (hd : 2 ≤ d) (k : ((x0 ≠ (-1) → (((0 : Int) ≤ zV h 137 0 ∧ zV h 137 0 ≤ 6) ∧ ((((0 : Int) ≤ x0 ∧ x0 < zV h 137 0) → ((((0 : Int) ≤ x1 ∧ x1 ≤ 9999) → (((zV h 137 33) ≠ 8 → ((0 ≤ (zV h 137 33) ∧ (zV h 137 33) < 8) ∧ (∀ h_73, (zsetV (zsetV h 158 ((zV h 137 33)).toNat x0) 137 33 (zw ((zV (zsetV h 158 ((zV h 137 33)).toNat x0) 137 33) + 1))) = h_73 → ((0 ≤ (zV (zsetV h 158 ((zV h 137 33)).toNat x0) 137 33) ∧ (zV (zsetV h 158 ((zV h 137 33)).toNat x0) 137 33) < 8) ∧ (∀ h_75, (zsetV h_73 159 ((zV (zsetV h 158 ((zV h 137 33)).toNat x0) 137 33)).toNat x1) = h_75 → K (zV h_75 137 33) h_75))))) ∧ (¬ ((zV h 137 33) ≠ 8) → K (-4) h))) ∧ (¬ (((0 : Int) ≤ x1 ∧ x1 ≤ 9999)) → K (-2) h))) ∧ (¬ (((0 : Int) ≤ x0 ∧ x0 < zV h 137 0)) → K (-1) h)))) ∧ (¬ (x0 ≠ (-1)) → K 0 (zsetV h 137 33 0)))) : yI d 199 [vR (some 137), vI x0, vI x1] h K := by
  refine y_en (L := [some (vR (some 137)), some (vI x0), some (vI x1)]) rfl rfl ?_
  refine y_s (pc' := 1) (L' := [some (vR (some 137)), some (vI x0), some (vI x1)]) (st' := [vI x0]) (h' := h) f199_0 rfl ?_
  refine y_s (pc' := 2) (L' := [some (vR (some 137)), some (vI x0), some (vI x1)]) (st' := [vI (-1), vI x0]) (h' := h) f199_1 rfl ?_
  refine y_ic (pcT := 12) (pc' := 5) (P := x0 ≠ (-1)) f199_2 rfl rfl rfl (fun c => ?_) (fun c => ?_)
  · replace k := k.1 c
    refine y_s (pc' := 13) (L' := [some (vR (some 137)), some (vI x0), some (vI x1)]) (st' := [vR (some 137)]) (h' := h) f199_12 rfl ?_
    refine y_s (pc' := 14) (L' := [some (vR (some 137)), some (vI x0), some (vI x1)]) (st' := [vI x0, vR (some 137)]) (h' := h) f199_13 rfl ?_
    refine y_cI (pc' := 17) (as := [vR (some 137), vI x0]) (r := []) f199_14 (yzv ym_8_121 rfl (ys137 w) rfl rfl) (by omega) rfl ?_
    have p0 := k.1
    replace k := k.2
    refine sp131 w (by omega) p0 (fun c => ?_) (fun c => ?_)
    · replace k := k.1 c
      refine y_ift (pcT := 22) f199_17 rfl rfl ?_
      refine y_s (pc' := 23) (L' := [some (vR (some 137)), some (vI x0), some (vI x1)]) (st' := [vI x1]) (h' := h) f199_22 rfl ?_
      refine y_s (pc' := 24) (L' := [some (vR (some 137)), some (vI x0), some (vI x1)]) (st' := [vI 0, vI x1]) (h' := h) f199_23 rfl ?_
      refine y_s (pc' := 27) (L' := [some (vR (some 137)), some (vI x0), some (vI x1)]) (st' := [vI 9999, vI 0, vI x1]) (h' := h) f199_24 rfl ?_
      refine y_cI (pc' := 30) (as := [vI x1, vI 0, vI 9999]) (r := []) f199_27 rfl (by omega) rfl ?_
      refine sp129 w (fun c => ?_) (fun c => ?_)
      · replace k := k.1 c
        refine y_ift (pcT := 36) f199_30 rfl rfl ?_
        refine y_s (pc' := 37) (L' := [some (vR (some 137)), some (vI x0), some (vI x1)]) (st' := [vR (some 137)]) (h' := h) f199_36 rfl ?_
        refine y_gi (pc' := 40) f199_37 yf_8_310 rfl rfl (ys137 w) rfl ?_
        refine y_s (pc' := 42) (L' := [some (vR (some 137)), some (vI x0), some (vI x1)]) (st' := [vI 8, vI (zV h 137 33)]) (h' := h) f199_40 rfl ?_
        refine y_ic (pcT := 48) (pc' := 45) (P := (zV h 137 33) ≠ 8) f199_42 rfl rfl rfl (fun c => ?_) (fun c => ?_)
        · replace k := k.1 c
          refine y_s (pc' := 49) (L' := [some (vR (some 137)), some (vI x0), some (vI x1)]) (st' := [vR (some 137)]) (h' := h) f199_48 rfl ?_
          refine y_gr (pc' := 52) f199_49 yf_8_73 rfl rfl (ys137 w) (yp137_34 w) rfl ?_
          refine y_s (pc' := 53) (L' := [some (vR (some 137)), some (vI x0), some (vI x1)]) (st' := [vR (some 137), vR (some 158)]) (h' := h) f199_52 rfl ?_
          refine y_gi (pc' := 56) f199_53 yf_8_310 rfl rfl (ys137 w) rfl ?_
          refine y_s (pc' := 57) (L' := [some (vR (some 137)), some (vI x0), some (vI x1)]) (st' := [vI x0, vI (zV h 137 33), vR (some 158)]) (h' := h) f199_56 rfl ?_
          refine y_is (pc' := 58) (h' := (zsetV h 158 ((zV h 137 33)).toNat x0)) f199_57 (ys158 w) (by decide) k.1 rfl rfl ?_
          replace k := k.2
          refine y_s (pc' := 59) (L' := [some (vR (some 137)), some (vI x0), some (vI x1)]) (st' := [vR (some 137)]) (h' := (zsetV h 158 ((zV h 137 33)).toNat x0)) f199_58 rfl ?_
          refine y_gr (pc' := 62) f199_59 yf_8_76 rfl rfl (ys137 w) (yp137_35 w) rfl ?_
          refine y_s (pc' := 63) (L' := [some (vR (some 137)), some (vI x0), some (vI x1)]) (st' := [vR (some 137), vR (some 159)]) (h' := (zsetV h 158 ((zV h 137 33)).toNat x0)) f199_62 rfl ?_
          refine y_s (pc' := 64) (L' := [some (vR (some 137)), some (vI x0), some (vI x1)]) (st' := [vR (some 137), vR (some 137), vR (some 159)]) (h' := (zsetV h 158 ((zV h 137 33)).toNat x0)) f199_63 rfl ?_
          refine y_gi (pc' := 67) f199_64 yf_8_310 rfl rfl (ys137 w) rfl ?_
          refine y_s (pc' := 68) (L' := [some (vR (some 137)), some (vI x0), some (vI x1)]) (st' := [vI (zV (zsetV h 158 ((zV h 137 33)).toNat x0) 137 33), vR (some 137), vI (zV (zsetV h 158 ((zV h 137 33)).toNat x0) 137 33), vR (some 159)]) (h' := (zsetV h 158 ((zV h 137 33)).toNat x0)) f199_67 rfl ?_
          refine y_s (pc' := 69) (L' := [some (vR (some 137)), some (vI x0), some (vI x1)]) (st' := [vI 1, vI (zV (zsetV h 158 ((zV h 137 33)).toNat x0) 137 33), vR (some 137), vI (zV (zsetV h 158 ((zV h 137 33)).toNat x0) 137 33), vR (some 159)]) (h' := (zsetV h 158 ((zV h 137 33)).toNat x0)) f199_68 rfl ?_
          refine y_s (pc' := 70) (L' := [some (vR (some 137)), some (vI x0), some (vI x1)]) (st' := [vI (zw ((zV (zsetV h 158 ((zV h 137 33)).toNat x0) 137 33) + 1)), vR (some 137), vI (zV (zsetV h 158 ((zV h 137 33)).toNat x0) 137 33), vR (some 159)]) (h' := (zsetV h 158 ((zV h 137 33)).toNat x0)) f199_69 rfl ?_
          refine y_pi (pc' := 73) f199_70 yf_8_310 rfl rfl (ys137 w) (by decide) (Or.inl rfl) rfl ?_
          generalize e_73 : (zsetV (zsetV h 158 ((zV h 137 33)).toNat x0) 137 33 (zw ((zV (zsetV h 158 ((zV h 137 33)).toNat x0) 137 33) + 1))) = h_73
          replace k := k _ e_73
          have w : yWF zl nl h_73 := by rw [← e_73]; exact w
          refine y_s (pc' := 74) (L' := [some (vR (some 137)), some (vI x0), some (vI x1)]) (st' := [vI x1, vI (zV (zsetV h 158 ((zV h 137 33)).toNat x0) 137 33), vR (some 159)]) (h' := h_73) f199_73 rfl ?_
          refine y_is (pc' := 75) (h' := (zsetV h_73 159 ((zV (zsetV h 158 ((zV h 137 33)).toNat x0) 137 33)).toNat x1)) f199_74 (ys159 w) (by decide) k.1 rfl rfl ?_
          replace k := k.2
          generalize e_75 : (zsetV h_73 159 ((zV (zsetV h 158 ((zV h 137 33)).toNat x0) 137 33)).toNat x1) = h_75
          replace k := k _ e_75
          have w : yWF zl nl h_75 := by rw [← e_75]; exact w
          refine y_s (pc' := 76) (L' := [some (vR (some 137)), some (vI x0), some (vI x1)]) (st' := [vR (some 137)]) (h' := h_75) f199_75 rfl ?_
          refine y_gi (pc' := 79) f199_76 yf_8_310 rfl rfl (ys137 w) rfl ?_
          exact y_ri f199_79 ⟨rfl, k⟩
        · replace k := k.2 c
          refine y_s (pc' := 47) (L' := [some (vR (some 137)), some (vI x0), some (vI x1)]) (st' := [vI (-4)]) (h' := h) f199_45 rfl ?_
          exact y_ri f199_47 ⟨rfl, k⟩
      · replace k := k.2 c
        refine y_iff (pcT := 36) (pc' := 33) f199_30 rfl rfl rfl ?_
        refine y_s (pc' := 35) (L' := [some (vR (some 137)), some (vI x0), some (vI x1)]) (st' := [vI (-2)]) (h' := h) f199_33 rfl ?_
        exact y_ri f199_35 ⟨rfl, k⟩
    · replace k := k.2 c
      refine y_iff (pcT := 22) (pc' := 20) f199_17 rfl rfl rfl ?_
      refine y_s (pc' := 21) (L' := [some (vR (some 137)), some (vI x0), some (vI x1)]) (st' := [vI (-1)]) (h' := h) f199_20 rfl ?_
      exact y_ri f199_21 ⟨rfl, k⟩
  · replace k := k.2 c
    refine y_s (pc' := 6) (L' := [some (vR (some 137)), some (vI x0), some (vI x1)]) (st' := [vR (some 137)]) (h' := h) f199_5 rfl ?_
    refine y_s (pc' := 7) (L' := [some (vR (some 137)), some (vI x0), some (vI x1)]) (st' := [vI 0, vR (some 137)]) (h' := h) f199_6 rfl ?_
    refine y_pi (pc' := 10) f199_7 yf_8_310 rfl rfl (ys137 w) (by decide) (Or.inl rfl) rfl ?_
    refine y_s (pc' := 11) (L' := [some (vR (some 137)), some (vI x0), some (vI x1)]) (st' := [vI 0]) (h' := (zsetV h 137 33 0)) f199_10 rfl ?_
    exact y_ri f199_11 ⟨rfl, k⟩
/-- HatterTunesModel.looked()I -/
theorem E200 {d : Nat} {K : Int → Hp → Prop} (w : yWF zl nl h) (k : ZW d prog_10_method_55_code 8 2 [some (vR (some 137)), some (vI 0)] [] h (yq 1 (yqI K))) : yI d 200 [vR (some 137)] h K := by
  refine y_en (L := [some (vR (some 137)), none]) rfl rfl ?_
  refine y_s (pc' := 1) (L' := [some (vR (some 137)), none]) (st' := [vI 0]) (h' := h) f200_0 rfl ?_
  refine y_sto (pc' := 2) (k := 1) (L' := [some (vR (some 137)), some (vI 0)]) f200_1 rfl rfl rfl rfl rfl rfl ?_
  exact k
theorem W200_2 {d : Nat} {K : Int → Hp → Prop} (w : yWF zl nl h) {l1 : Int} (k : (((zV h 137 33) ≤ l1 → K (-5) h) ∧ (¬ ((zV h 137 33) ≤ l1) → ((0 ≤ l1 ∧ l1 < 8) ∧ ((0 ≤ (zV h 158 (l1).toNat) ∧ (zV h 158 (l1).toNat) < 6) ∧ ((0 ≤ l1 ∧ l1 < 8) ∧ (((zV h 141 ((zV h 158 (l1).toNat)).toNat) = (zV h 159 (l1).toNat) → ZW d prog_10_method_55_code 8 2 [some (vR (some 137)), some (vI (zw (l1 + 1)))] [] h (yq 1 (yqI K))) ∧ (¬ ((zV h 141 ((zV h 158 (l1).toNat)).toNat) = (zV h 159 (l1).toNat)) → K l1 h)))))))) : ZW d prog_10_method_55_code 8 2 [some (vR (some 137)), some (vI l1)] [] h (yq 1 (yqI K)) := by
  refine y_s (pc' := 3) (L' := [some (vR (some 137)), some (vI l1)]) (st' := [vI l1]) (h' := h) f200_2 rfl ?_
  refine y_s (pc' := 4) (L' := [some (vR (some 137)), some (vI l1)]) (st' := [vR (some 137), vI l1]) (h' := h) f200_3 rfl ?_
  refine y_gi (pc' := 7) f200_4 yf_8_310 rfl rfl (ys137 w) rfl ?_
  refine y_ic (pcT := 38) (pc' := 10) (P := (zV h 137 33) ≤ l1) f200_7 rfl rfl rfl (fun c => ?_) (fun c => ?_)
  · replace k := k.1 c
    refine y_s (pc' := 40) (L' := [some (vR (some 137)), some (vI l1)]) (st' := [vI (-5)]) (h' := h) f200_38 rfl ?_
    exact y_ri f200_40 ⟨rfl, k⟩
  · replace k := k.2 c
    refine y_s (pc' := 11) (L' := [some (vR (some 137)), some (vI l1)]) (st' := [vR (some 137)]) (h' := h) f200_10 rfl ?_
    refine y_gr (pc' := 14) f200_11 yf_8_21 rfl rfl (ys137 w) (yp137_4 w) rfl ?_
    refine y_s (pc' := 15) (L' := [some (vR (some 137)), some (vI l1)]) (st' := [vR (some 137), vR (some 141)]) (h' := h) f200_14 rfl ?_
    refine y_gr (pc' := 18) f200_15 yf_8_73 rfl rfl (ys137 w) (yp137_34 w) rfl ?_
    refine y_s (pc' := 19) (L' := [some (vR (some 137)), some (vI l1)]) (st' := [vI l1, vR (some 158), vR (some 141)]) (h' := h) f200_18 rfl ?_
    refine y_ia (pc' := 20) (x := (zV h 158 (l1).toNat)) f200_19 (ys158 w) k.1 rfl rfl ?_
    replace k := k.2
    refine y_ia (pc' := 21) (x := (zV h 141 ((zV h 158 (l1).toNat)).toNat)) f200_20 (ys141 w) k.1 rfl rfl ?_
    replace k := k.2
    refine y_s (pc' := 22) (L' := [some (vR (some 137)), some (vI l1)]) (st' := [vR (some 137), vI (zV h 141 ((zV h 158 (l1).toNat)).toNat)]) (h' := h) f200_21 rfl ?_
    refine y_gr (pc' := 25) f200_22 yf_8_76 rfl rfl (ys137 w) (yp137_35 w) rfl ?_
    refine y_s (pc' := 26) (L' := [some (vR (some 137)), some (vI l1)]) (st' := [vI l1, vR (some 159), vI (zV h 141 ((zV h 158 (l1).toNat)).toNat)]) (h' := h) f200_25 rfl ?_
    refine y_ia (pc' := 27) (x := (zV h 159 (l1).toNat)) f200_26 (ys159 w) k.1 rfl rfl ?_
    replace k := k.2
    refine y_ic (pcT := 32) (pc' := 30) (P := (zV h 141 ((zV h 158 (l1).toNat)).toNat) = (zV h 159 (l1).toNat)) f200_27 rfl rfl rfl (fun c => ?_) (fun c => ?_)
    · replace k := k.1 c
      refine y_inc (pc' := 35) (L' := [some (vR (some 137)), some (vI (zw (l1 + 1)))]) f200_32 rfl rfl rfl rfl ?_
      refine y_go (pc' := 2) f200_35 rfl ?_
      exact k
    · replace k := k.2 c
      refine y_s (pc' := 31) (L' := [some (vR (some 137)), some (vI l1)]) (st' := [vI l1]) (h' := h) f200_30 rfl ?_
      exact y_ri f200_31 ⟨rfl, k⟩
/-- HatterTunesModel.judge(II)I -/
theorem E201 {d : Nat} {K : Int → Hp → Prop} (w : yWF zl nl h) {x0 : Int} {x1 : Int} (hd : 1 ≤ d) (k : ((((0 : Int) ≤ x0 ∧ x0 ≤ 5) → ((0 ≤ x0 ∧ x0 < 6) ∧ (((zV h 167 (x0).toNat) = (-1) → ZW d prog_10_method_56_code 8 35 [some (vR (some 137)), some (vI x0), some (vI x1), some (vI 0)] [] h (yq 1 (yqI K))) ∧ (¬ ((zV h 167 (x0).toNat) = (-1)) → ((0 ≤ x0 ∧ x0 < 6) ∧ (((zV h 167 (x0).toNat) = 0 → ZW d prog_10_method_56_code 8 35 [some (vR (some 137)), some (vI x0), some (vI x1), some (vI 0)] [] h (yq 1 (yqI K))) ∧ (¬ ((zV h 167 (x0).toNat) = 0) → K (-12) h))))))) ∧ (¬ (((0 : Int) ≤ x0 ∧ x0 ≤ 5)) → K (-1) h))) : yI d 201 [vR (some 137), vI x0, vI x1] h K := by
  refine y_en (L := [some (vR (some 137)), some (vI x0), some (vI x1), none]) rfl rfl ?_
  refine y_s (pc' := 1) (L' := [some (vR (some 137)), some (vI x0), some (vI x1), none]) (st' := [vI x0]) (h' := h) f201_0 rfl ?_
  refine y_s (pc' := 2) (L' := [some (vR (some 137)), some (vI x0), some (vI x1), none]) (st' := [vI 0, vI x0]) (h' := h) f201_1 rfl ?_
  refine y_s (pc' := 3) (L' := [some (vR (some 137)), some (vI x0), some (vI x1), none]) (st' := [vI 5, vI 0, vI x0]) (h' := h) f201_2 rfl ?_
  refine y_cI (pc' := 6) (as := [vI x0, vI 0, vI 5]) (r := []) f201_3 rfl (by omega) rfl ?_
  refine sp129 w (fun c => ?_) (fun c => ?_)
  · replace k := k.1 c
    refine y_ift (pcT := 11) f201_6 rfl rfl ?_
    refine y_s (pc' := 12) (L' := [some (vR (some 137)), some (vI x0), some (vI x1), none]) (st' := [vR (some 137)]) (h' := h) f201_11 rfl ?_
    refine y_gr (pc' := 15) f201_12 yf_8_100 rfl rfl (ys137 w) (yp137_46 w) rfl ?_
    refine y_s (pc' := 16) (L' := [some (vR (some 137)), some (vI x0), some (vI x1), none]) (st' := [vI x0, vR (some 167)]) (h' := h) f201_15 rfl ?_
    refine y_ia (pc' := 17) (x := (zV h 167 (x0).toNat)) f201_16 (ys167 w) k.1 rfl rfl ?_
    replace k := k.2
    refine y_s (pc' := 18) (L' := [some (vR (some 137)), some (vI x0), some (vI x1), none]) (st' := [vI (-1), vI (zV h 167 (x0).toNat)]) (h' := h) f201_17 rfl ?_
    refine y_ic (pcT := 33) (pc' := 21) (P := (zV h 167 (x0).toNat) = (-1)) f201_18 rfl rfl rfl (fun c => ?_) (fun c => ?_)
    · replace k := k.1 c
      refine y_s (pc' := 34) (L' := [some (vR (some 137)), some (vI x0), some (vI x1), none]) (st' := [vI 0]) (h' := h) f201_33 rfl ?_
      refine y_sto (pc' := 35) (k := 3) (L' := [some (vR (some 137)), some (vI x0), some (vI x1), some (vI 0)]) f201_34 rfl rfl rfl rfl rfl rfl ?_
      exact k
    · replace k := k.2 c
      refine y_s (pc' := 22) (L' := [some (vR (some 137)), some (vI x0), some (vI x1), none]) (st' := [vR (some 137)]) (h' := h) f201_21 rfl ?_
      refine y_gr (pc' := 25) f201_22 yf_8_100 rfl rfl (ys137 w) (yp137_46 w) rfl ?_
      refine y_s (pc' := 26) (L' := [some (vR (some 137)), some (vI x0), some (vI x1), none]) (st' := [vI x0, vR (some 167)]) (h' := h) f201_25 rfl ?_
      refine y_ia (pc' := 27) (x := (zV h 167 (x0).toNat)) f201_26 (ys167 w) k.1 rfl rfl ?_
      replace k := k.2
      refine y_if (pcT := 33) (pc' := 30) (P := (zV h 167 (x0).toNat) = 0) f201_27 rfl rfl rfl (fun c => ?_) (fun c => ?_)
      · replace k := k.1 c
        refine y_s (pc' := 34) (L' := [some (vR (some 137)), some (vI x0), some (vI x1), none]) (st' := [vI 0]) (h' := h) f201_33 rfl ?_
        refine y_sto (pc' := 35) (k := 3) (L' := [some (vR (some 137)), some (vI x0), some (vI x1), some (vI 0)]) f201_34 rfl rfl rfl rfl rfl rfl ?_
        exact k
      · replace k := k.2 c
        refine y_s (pc' := 32) (L' := [some (vR (some 137)), some (vI x0), some (vI x1), none]) (st' := [vI (-12)]) (h' := h) f201_30 rfl ?_
        exact y_ri f201_32 ⟨rfl, k⟩
  · replace k := k.2 c
    refine y_iff (pcT := 11) (pc' := 9) f201_6 rfl rfl rfl ?_
    refine y_s (pc' := 10) (L' := [some (vR (some 137)), some (vI x0), some (vI x1), none]) (st' := [vI (-1)]) (h' := h) f201_9 rfl ?_
    exact y_ri f201_10 ⟨rfl, k⟩
theorem W201_35 {d : Nat} {K : Int → Hp → Prop} (w : yWF zl nl h) {l1 : Int} {l2 : Int} {l3 : Int} (k : (((zV h 137 6) ≤ l3 → K (-5) h) ∧ (¬ ((zV h 137 6) ≤ l3) → ((0 ≤ l1 ∧ l1 < 6) ∧ (((zV h 167 (l1).toNat) = (-1) → K (zw (100 + l3)) h) ∧ (¬ ((zV h 167 (l1).toNat) = (-1)) → ((l2 < 0 → K (zw (100 + l3)) h) ∧ (¬ (l2 < 0) → ((0 ≤ l1 ∧ l1 < 6) ∧ ((((lg_cmp (((zi l2).toInt64) + ((zi l3).toInt64)) ((zi (zV h 168 (l1).toNat)).toInt64)).toInt) < 0 → ((0 ≤ (zw ((zw ((zw (60 * l1)) + l2)) + l3)) ∧ (zw ((zw ((zw (60 * l1)) + l2)) + l3)) < 360) ∧ ((0 ≤ l3 ∧ l3 < 8) ∧ ((((lg_cmp (zJ h 169 ((zw ((zw ((zw (60 * l1)) + l2)) + l3))).toNat) ((zi (zV h 143 (l3).toNat)).toInt64)).toInt) = 0 → ZW d prog_10_method_56_code 8 35 [some (vR (some 137)), some (vI l1), some (vI l2), some (vI (zw (l3 + 1)))] [] h (yq 1 (yqI K))) ∧ (¬ (((lg_cmp (zJ h 169 ((zw ((zw ((zw (60 * l1)) + l2)) + l3))).toNat) ((zi (zV h 143 (l3).toNat)).toInt64)).toInt) = 0) → K l3 h))))) ∧ (¬ (((lg_cmp (((zi l2).toInt64) + ((zi l3).toInt64)) ((zi (zV h 168 (l1).toNat)).toInt64)).toInt) < 0) → K (zw (100 + l3)) h))))))))))) : ZW d prog_10_method_56_code 8 35 [some (vR (some 137)), some (vI l1), some (vI l2), some (vI l3)] [] h (yq 1 (yqI K)) := by
  refine y_s (pc' := 36) (L' := [some (vR (some 137)), some (vI l1), some (vI l2), some (vI l3)]) (st' := [vI l3]) (h' := h) f201_35 rfl ?_
  refine y_s (pc' := 37) (L' := [some (vR (some 137)), some (vI l1), some (vI l2), some (vI l3)]) (st' := [vR (some 137), vI l3]) (h' := h) f201_36 rfl ?_
  refine y_gi (pc' := 40) f201_37 yf_8_154 rfl rfl (ys137 w) rfl ?_
  refine y_ic (pcT := 110) (pc' := 43) (P := (zV h 137 6) ≤ l3) f201_40 rfl rfl rfl (fun c => ?_) (fun c => ?_)
  · replace k := k.1 c
    refine y_s (pc' := 112) (L' := [some (vR (some 137)), some (vI l1), some (vI l2), some (vI l3)]) (st' := [vI (-5)]) (h' := h) f201_110 rfl ?_
    exact y_ri f201_112 ⟨rfl, k⟩
  · replace k := k.2 c
    refine y_s (pc' := 44) (L' := [some (vR (some 137)), some (vI l1), some (vI l2), some (vI l3)]) (st' := [vR (some 137)]) (h' := h) f201_43 rfl ?_
    refine y_gr (pc' := 47) f201_44 yf_8_100 rfl rfl (ys137 w) (yp137_46 w) rfl ?_
    refine y_s (pc' := 48) (L' := [some (vR (some 137)), some (vI l1), some (vI l2), some (vI l3)]) (st' := [vI l1, vR (some 167)]) (h' := h) f201_47 rfl ?_
    refine y_ia (pc' := 49) (x := (zV h 167 (l1).toNat)) f201_48 (ys167 w) k.1 rfl rfl ?_
    replace k := k.2
    refine y_s (pc' := 50) (L' := [some (vR (some 137)), some (vI l1), some (vI l2), some (vI l3)]) (st' := [vI (-1), vI (zV h 167 (l1).toNat)]) (h' := h) f201_49 rfl ?_
    refine y_ic (pcT := 73) (pc' := 53) (P := (zV h 167 (l1).toNat) = (-1)) f201_50 rfl rfl rfl (fun c => ?_) (fun c => ?_)
    · replace k := k.1 c
      refine y_s (pc' := 75) (L' := [some (vR (some 137)), some (vI l1), some (vI l2), some (vI l3)]) (st' := [vI 100]) (h' := h) f201_73 rfl ?_
      refine y_s (pc' := 76) (L' := [some (vR (some 137)), some (vI l1), some (vI l2), some (vI l3)]) (st' := [vI l3, vI 100]) (h' := h) f201_75 rfl ?_
      refine y_s (pc' := 77) (L' := [some (vR (some 137)), some (vI l1), some (vI l2), some (vI l3)]) (st' := [vI (zw (100 + l3))]) (h' := h) f201_76 rfl ?_
      exact y_ri f201_77 ⟨rfl, k⟩
    · replace k := k.2 c
      refine y_s (pc' := 54) (L' := [some (vR (some 137)), some (vI l1), some (vI l2), some (vI l3)]) (st' := [vI l2]) (h' := h) f201_53 rfl ?_
      refine y_if (pcT := 73) (pc' := 57) (P := l2 < 0) f201_54 rfl rfl rfl (fun c => ?_) (fun c => ?_)
      · replace k := k.1 c
        refine y_s (pc' := 75) (L' := [some (vR (some 137)), some (vI l1), some (vI l2), some (vI l3)]) (st' := [vI 100]) (h' := h) f201_73 rfl ?_
        refine y_s (pc' := 76) (L' := [some (vR (some 137)), some (vI l1), some (vI l2), some (vI l3)]) (st' := [vI l3, vI 100]) (h' := h) f201_75 rfl ?_
        refine y_s (pc' := 77) (L' := [some (vR (some 137)), some (vI l1), some (vI l2), some (vI l3)]) (st' := [vI (zw (100 + l3))]) (h' := h) f201_76 rfl ?_
        exact y_ri f201_77 ⟨rfl, k⟩
      · replace k := k.2 c
        refine y_s (pc' := 58) (L' := [some (vR (some 137)), some (vI l1), some (vI l2), some (vI l3)]) (st' := [vI l2]) (h' := h) f201_57 rfl ?_
        refine y_s (pc' := 59) (L' := [some (vR (some 137)), some (vI l1), some (vI l2), some (vI l3)]) (st' := [vJ ((zi l2).toInt64)]) (h' := h) f201_58 rfl ?_
        refine y_s (pc' := 60) (L' := [some (vR (some 137)), some (vI l1), some (vI l2), some (vI l3)]) (st' := [vI l3, vJ ((zi l2).toInt64)]) (h' := h) f201_59 rfl ?_
        refine y_s (pc' := 61) (L' := [some (vR (some 137)), some (vI l1), some (vI l2), some (vI l3)]) (st' := [vJ ((zi l3).toInt64), vJ ((zi l2).toInt64)]) (h' := h) f201_60 rfl ?_
        refine y_s (pc' := 62) (L' := [some (vR (some 137)), some (vI l1), some (vI l2), some (vI l3)]) (st' := [vJ (((zi l2).toInt64) + ((zi l3).toInt64))]) (h' := h) f201_61 rfl ?_
        refine y_s (pc' := 63) (L' := [some (vR (some 137)), some (vI l1), some (vI l2), some (vI l3)]) (st' := [vR (some 137), vJ (((zi l2).toInt64) + ((zi l3).toInt64))]) (h' := h) f201_62 rfl ?_
        refine y_gr (pc' := 66) f201_63 yf_8_103 rfl rfl (ys137 w) (yp137_47 w) rfl ?_
        refine y_s (pc' := 67) (L' := [some (vR (some 137)), some (vI l1), some (vI l2), some (vI l3)]) (st' := [vI l1, vR (some 168), vJ (((zi l2).toInt64) + ((zi l3).toInt64))]) (h' := h) f201_66 rfl ?_
        refine y_ia (pc' := 68) (x := (zV h 168 (l1).toNat)) f201_67 (ys168 w) k.1 rfl rfl ?_
        replace k := k.2
        refine y_s (pc' := 69) (L' := [some (vR (some 137)), some (vI l1), some (vI l2), some (vI l3)]) (st' := [vJ ((zi (zV h 168 (l1).toNat)).toInt64), vJ (((zi l2).toInt64) + ((zi l3).toInt64))]) (h' := h) f201_68 rfl ?_
        refine y_s (pc' := 70) (L' := [some (vR (some 137)), some (vI l1), some (vI l2), some (vI l3)]) (st' := [vI ((lg_cmp (((zi l2).toInt64) + ((zi l3).toInt64)) ((zi (zV h 168 (l1).toNat)).toInt64)).toInt)]) (h' := h) f201_69 rfl ?_
        refine y_if (pcT := 78) (pc' := 73) (P := ((lg_cmp (((zi l2).toInt64) + ((zi l3).toInt64)) ((zi (zV h 168 (l1).toNat)).toInt64)).toInt) < 0) f201_70 rfl rfl rfl (fun c => ?_) (fun c => ?_)
        · replace k := k.1 c
          refine y_s (pc' := 79) (L' := [some (vR (some 137)), some (vI l1), some (vI l2), some (vI l3)]) (st' := [vR (some 137)]) (h' := h) f201_78 rfl ?_
          refine y_gr (pc' := 82) f201_79 yf_8_106 rfl rfl (ys137 w) (yp137_48 w) rfl ?_
          refine y_s (pc' := 84) (L' := [some (vR (some 137)), some (vI l1), some (vI l2), some (vI l3)]) (st' := [vI 60, vR (some 169)]) (h' := h) f201_82 rfl ?_
          refine y_s (pc' := 85) (L' := [some (vR (some 137)), some (vI l1), some (vI l2), some (vI l3)]) (st' := [vI l1, vI 60, vR (some 169)]) (h' := h) f201_84 rfl ?_
          refine y_s (pc' := 86) (L' := [some (vR (some 137)), some (vI l1), some (vI l2), some (vI l3)]) (st' := [vI (zw (60 * l1)), vR (some 169)]) (h' := h) f201_85 rfl ?_
          refine y_s (pc' := 87) (L' := [some (vR (some 137)), some (vI l1), some (vI l2), some (vI l3)]) (st' := [vI l2, vI (zw (60 * l1)), vR (some 169)]) (h' := h) f201_86 rfl ?_
          refine y_s (pc' := 88) (L' := [some (vR (some 137)), some (vI l1), some (vI l2), some (vI l3)]) (st' := [vI (zw ((zw (60 * l1)) + l2)), vR (some 169)]) (h' := h) f201_87 rfl ?_
          refine y_s (pc' := 89) (L' := [some (vR (some 137)), some (vI l1), some (vI l2), some (vI l3)]) (st' := [vI l3, vI (zw ((zw (60 * l1)) + l2)), vR (some 169)]) (h' := h) f201_88 rfl ?_
          refine y_s (pc' := 90) (L' := [some (vR (some 137)), some (vI l1), some (vI l2), some (vI l3)]) (st' := [vI (zw ((zw ((zw (60 * l1)) + l2)) + l3)), vR (some 169)]) (h' := h) f201_89 rfl ?_
          refine y_ja (pc' := 91) (x := (zJ h 169 ((zw ((zw ((zw (60 * l1)) + l2)) + l3))).toNat)) f201_90 (ys169 w) k.1 rfl rfl ?_
          replace k := k.2
          refine y_s (pc' := 92) (L' := [some (vR (some 137)), some (vI l1), some (vI l2), some (vI l3)]) (st' := [vR (some 137), vJ (zJ h 169 ((zw ((zw ((zw (60 * l1)) + l2)) + l3))).toNat)]) (h' := h) f201_91 rfl ?_
          refine y_gr (pc' := 95) f201_92 yf_8_27 rfl rfl (ys137 w) (yp137_7 w) rfl ?_
          refine y_s (pc' := 96) (L' := [some (vR (some 137)), some (vI l1), some (vI l2), some (vI l3)]) (st' := [vI l3, vR (some 143), vJ (zJ h 169 ((zw ((zw ((zw (60 * l1)) + l2)) + l3))).toNat)]) (h' := h) f201_95 rfl ?_
          refine y_ia (pc' := 97) (x := (zV h 143 (l3).toNat)) f201_96 (ys143 w) k.1 rfl rfl ?_
          replace k := k.2
          refine y_s (pc' := 98) (L' := [some (vR (some 137)), some (vI l1), some (vI l2), some (vI l3)]) (st' := [vJ ((zi (zV h 143 (l3).toNat)).toInt64), vJ (zJ h 169 ((zw ((zw ((zw (60 * l1)) + l2)) + l3))).toNat)]) (h' := h) f201_97 rfl ?_
          refine y_s (pc' := 99) (L' := [some (vR (some 137)), some (vI l1), some (vI l2), some (vI l3)]) (st' := [vI ((lg_cmp (zJ h 169 ((zw ((zw ((zw (60 * l1)) + l2)) + l3))).toNat) ((zi (zV h 143 (l3).toNat)).toInt64)).toInt)]) (h' := h) f201_98 rfl ?_
          refine y_if (pcT := 104) (pc' := 102) (P := ((lg_cmp (zJ h 169 ((zw ((zw ((zw (60 * l1)) + l2)) + l3))).toNat) ((zi (zV h 143 (l3).toNat)).toInt64)).toInt) = 0) f201_99 rfl rfl rfl (fun c => ?_) (fun c => ?_)
          · replace k := k.1 c
            refine y_inc (pc' := 107) (L' := [some (vR (some 137)), some (vI l1), some (vI l2), some (vI (zw (l3 + 1)))]) f201_104 rfl rfl rfl rfl ?_
            refine y_go (pc' := 35) f201_107 rfl ?_
            exact k
          · replace k := k.2 c
            refine y_s (pc' := 103) (L' := [some (vR (some 137)), some (vI l1), some (vI l2), some (vI l3)]) (st' := [vI l3]) (h' := h) f201_102 rfl ?_
            exact y_ri f201_103 ⟨rfl, k⟩
        · replace k := k.2 c
          refine y_s (pc' := 75) (L' := [some (vR (some 137)), some (vI l1), some (vI l2), some (vI l3)]) (st' := [vI 100]) (h' := h) f201_73 rfl ?_
          refine y_s (pc' := 76) (L' := [some (vR (some 137)), some (vI l1), some (vI l2), some (vI l3)]) (st' := [vI l3, vI 100]) (h' := h) f201_75 rfl ?_
          refine y_s (pc' := 77) (L' := [some (vR (some 137)), some (vI l1), some (vI l2), some (vI l3)]) (st' := [vI (zw (100 + l3))]) (h' := h) f201_76 rfl ?_
          exact y_ri f201_77 ⟨rfl, k⟩
/-- HatterTunesModel.keep([I)V -/
theorem E141 {d : Nat} {K : Hp → Prop} (w : yWF zl nl h) {b : Nat} (hb : zS h b = (1, 152)) (hb2 : 32 ≤ b) (k : ZW d prog_10_method_57_code 8 2 [some (vR (some 137)), some (vR (some b)), some (vI 0)] [] h (yq 0 (yqU K))) : yU d 141 [vR (some 137), vR (some b)] h K := by
  refine y_en (L := [some (vR (some 137)), some (vR (some b)), none]) rfl rfl ?_
  refine y_s (pc' := 1) (L' := [some (vR (some 137)), some (vR (some b)), none]) (st' := [vI 0]) (h' := h) f141_0 rfl ?_
  refine y_sto (pc' := 2) (k := 2) (L' := [some (vR (some 137)), some (vR (some b)), some (vI 0)]) f141_1 rfl rfl rfl rfl rfl rfl ?_
  exact k
theorem W141_2 {d : Nat} {K : Hp → Prop} (w : yWF zl nl h) {b : Nat} (hb : zS h b = (1, 152)) (hb2 : 32 ≤ b) {l2 : Int} (k : ((6 ≤ l2 → ZW d prog_10_method_57_code 8 49 [some (vR (some 137)), some (vR (some b)), some (vI 0)] [] h (yq 0 (yqU K))) ∧ (¬ (6 ≤ l2) → ((0 ≤ l2 ∧ l2 < 6) ∧ ((0 ≤ l2 ∧ l2 < 152) ∧ ((0 ≤ l2 ∧ l2 < 6) ∧ ((0 ≤ (zw (6 + l2)) ∧ (zw (6 + l2)) < 152) ∧ (∀ h_29, (zsetV (zsetV h b (l2).toNat (zV h 138 (l2).toNat)) b ((zw (6 + l2))).toNat (zV (zsetV h b (l2).toNat (zV h 138 (l2).toNat)) 139 (l2).toNat)) = h_29 → ((0 ≤ l2 ∧ l2 < 6) ∧ ((0 ≤ (zw (12 + l2)) ∧ (zw (12 + l2)) < 152) ∧ ZW d prog_10_method_57_code 8 2 [some (vR (some 137)), some (vR (some b)), some (vI (zw (l2 + 1)))] [] (zsetV h_29 b ((zw (12 + l2))).toNat (zV h_29 141 (l2).toNat)) (yq 0 (yqU K)))))))))))) : ZW d prog_10_method_57_code 8 2 [some (vR (some 137)), some (vR (some b)), some (vI l2)] [] h (yq 0 (yqU K)) := by
  refine y_s (pc' := 3) (L' := [some (vR (some 137)), some (vR (some b)), some (vI l2)]) (st' := [vI l2]) (h' := h) f141_2 rfl ?_
  refine y_s (pc' := 5) (L' := [some (vR (some 137)), some (vR (some b)), some (vI l2)]) (st' := [vI 6, vI l2]) (h' := h) f141_3 rfl ?_
  refine y_ic (pcT := 47) (pc' := 8) (P := 6 ≤ l2) f141_5 rfl rfl rfl (fun c => ?_) (fun c => ?_)
  · replace k := k.1 c
    refine y_s (pc' := 48) (L' := [some (vR (some 137)), some (vR (some b)), some (vI l2)]) (st' := [vI 0]) (h' := h) f141_47 rfl ?_
    refine y_sto (pc' := 49) (k := 2) (L' := [some (vR (some 137)), some (vR (some b)), some (vI 0)]) f141_48 rfl rfl rfl rfl rfl rfl ?_
    exact k
  · replace k := k.2 c
    refine y_s (pc' := 9) (L' := [some (vR (some 137)), some (vR (some b)), some (vI l2)]) (st' := [vR (some b)]) (h' := h) f141_8 rfl ?_
    refine y_s (pc' := 10) (L' := [some (vR (some 137)), some (vR (some b)), some (vI l2)]) (st' := [vI l2, vR (some b)]) (h' := h) f141_9 rfl ?_
    refine y_s (pc' := 11) (L' := [some (vR (some 137)), some (vR (some b)), some (vI l2)]) (st' := [vR (some 137), vI l2, vR (some b)]) (h' := h) f141_10 rfl ?_
    refine y_gr (pc' := 14) f141_11 yf_8_9 rfl rfl (ys137 w) (yp137_1 w) rfl ?_
    refine y_s (pc' := 15) (L' := [some (vR (some 137)), some (vR (some b)), some (vI l2)]) (st' := [vI l2, vR (some 138), vI l2, vR (some b)]) (h' := h) f141_14 rfl ?_
    refine y_ia (pc' := 16) (x := (zV h 138 (l2).toNat)) f141_15 (ys138 w) k.1 rfl rfl ?_
    replace k := k.2
    refine y_is (pc' := 17) (h' := (zsetV h b (l2).toNat (zV h 138 (l2).toNat))) f141_16 hb hb2 k.1 rfl rfl ?_
    replace k := k.2
    refine y_s (pc' := 18) (L' := [some (vR (some 137)), some (vR (some b)), some (vI l2)]) (st' := [vR (some b)]) (h' := (zsetV h b (l2).toNat (zV h 138 (l2).toNat))) f141_17 rfl ?_
    refine y_s (pc' := 20) (L' := [some (vR (some 137)), some (vR (some b)), some (vI l2)]) (st' := [vI 6, vR (some b)]) (h' := (zsetV h b (l2).toNat (zV h 138 (l2).toNat))) f141_18 rfl ?_
    refine y_s (pc' := 21) (L' := [some (vR (some 137)), some (vR (some b)), some (vI l2)]) (st' := [vI l2, vI 6, vR (some b)]) (h' := (zsetV h b (l2).toNat (zV h 138 (l2).toNat))) f141_20 rfl ?_
    refine y_s (pc' := 22) (L' := [some (vR (some 137)), some (vR (some b)), some (vI l2)]) (st' := [vI (zw (6 + l2)), vR (some b)]) (h' := (zsetV h b (l2).toNat (zV h 138 (l2).toNat))) f141_21 rfl ?_
    refine y_s (pc' := 23) (L' := [some (vR (some 137)), some (vR (some b)), some (vI l2)]) (st' := [vR (some 137), vI (zw (6 + l2)), vR (some b)]) (h' := (zsetV h b (l2).toNat (zV h 138 (l2).toNat))) f141_22 rfl ?_
    refine y_gr (pc' := 26) f141_23 yf_8_15 rfl rfl (ys137 w) (yp137_2 w) rfl ?_
    refine y_s (pc' := 27) (L' := [some (vR (some 137)), some (vR (some b)), some (vI l2)]) (st' := [vI l2, vR (some 139), vI (zw (6 + l2)), vR (some b)]) (h' := (zsetV h b (l2).toNat (zV h 138 (l2).toNat))) f141_26 rfl ?_
    refine y_ia (pc' := 28) (x := (zV (zsetV h b (l2).toNat (zV h 138 (l2).toNat)) 139 (l2).toNat)) f141_27 (ys139 w) k.1 rfl rfl ?_
    replace k := k.2
    refine y_is (pc' := 29) (h' := (zsetV (zsetV h b (l2).toNat (zV h 138 (l2).toNat)) b ((zw (6 + l2))).toNat (zV (zsetV h b (l2).toNat (zV h 138 (l2).toNat)) 139 (l2).toNat))) f141_28 hb hb2 k.1 rfl rfl ?_
    replace k := k.2
    generalize e_29 : (zsetV (zsetV h b (l2).toNat (zV h 138 (l2).toNat)) b ((zw (6 + l2))).toNat (zV (zsetV h b (l2).toNat (zV h 138 (l2).toNat)) 139 (l2).toNat)) = h_29
    replace k := k _ e_29
    have w : yWF zl nl h_29 := by rw [← e_29]; exact w
    have hb : zS h_29 b = (1, 152) := by rw [← e_29]; exact hb
    refine y_s (pc' := 30) (L' := [some (vR (some 137)), some (vR (some b)), some (vI l2)]) (st' := [vR (some b)]) (h' := h_29) f141_29 rfl ?_
    refine y_s (pc' := 32) (L' := [some (vR (some 137)), some (vR (some b)), some (vI l2)]) (st' := [vI 12, vR (some b)]) (h' := h_29) f141_30 rfl ?_
    refine y_s (pc' := 33) (L' := [some (vR (some 137)), some (vR (some b)), some (vI l2)]) (st' := [vI l2, vI 12, vR (some b)]) (h' := h_29) f141_32 rfl ?_
    refine y_s (pc' := 34) (L' := [some (vR (some 137)), some (vR (some b)), some (vI l2)]) (st' := [vI (zw (12 + l2)), vR (some b)]) (h' := h_29) f141_33 rfl ?_
    refine y_s (pc' := 35) (L' := [some (vR (some 137)), some (vR (some b)), some (vI l2)]) (st' := [vR (some 137), vI (zw (12 + l2)), vR (some b)]) (h' := h_29) f141_34 rfl ?_
    refine y_gr (pc' := 38) f141_35 yf_8_21 rfl rfl (ys137 w) (yp137_4 w) rfl ?_
    refine y_s (pc' := 39) (L' := [some (vR (some 137)), some (vR (some b)), some (vI l2)]) (st' := [vI l2, vR (some 141), vI (zw (12 + l2)), vR (some b)]) (h' := h_29) f141_38 rfl ?_
    refine y_ia (pc' := 40) (x := (zV h_29 141 (l2).toNat)) f141_39 (ys141 w) k.1 rfl rfl ?_
    replace k := k.2
    refine y_is (pc' := 41) (h' := (zsetV h_29 b ((zw (12 + l2))).toNat (zV h_29 141 (l2).toNat))) f141_40 hb hb2 k.1 rfl rfl ?_
    replace k := k.2
    refine y_inc (pc' := 44) (L' := [some (vR (some 137)), some (vR (some b)), some (vI (zw (l2 + 1)))]) f141_41 rfl rfl rfl rfl ?_
    refine y_go (pc' := 2) f141_44 rfl ?_
    exact k
theorem W141_49 {d : Nat} {K : Hp → Prop} (w : yWF zl nl h) {b : Nat} (hb : zS h b = (1, 152)) (hb2 : 32 ≤ b) {l2 : Int} (k : ((36 ≤ l2 → ZW d prog_10_method_57_code 8 75 [some (vR (some 137)), some (vR (some b)), some (vI 0)] [] h (yq 0 (yqU K))) ∧ (¬ (36 ≤ l2) → ((0 ≤ l2 ∧ l2 < 36) ∧ ((0 ≤ (zw (18 + l2)) ∧ (zw (18 + l2)) < 152) ∧ ZW d prog_10_method_57_code 8 49 [some (vR (some 137)), some (vR (some b)), some (vI (zw (l2 + 1)))] [] (zsetV h b ((zw (18 + l2))).toNat (zV h 140 (l2).toNat)) (yq 0 (yqU K))))))) : ZW d prog_10_method_57_code 8 49 [some (vR (some 137)), some (vR (some b)), some (vI l2)] [] h (yq 0 (yqU K)) := by
  refine y_s (pc' := 50) (L' := [some (vR (some 137)), some (vR (some b)), some (vI l2)]) (st' := [vI l2]) (h' := h) f141_49 rfl ?_
  refine y_s (pc' := 52) (L' := [some (vR (some 137)), some (vR (some b)), some (vI l2)]) (st' := [vI 36, vI l2]) (h' := h) f141_50 rfl ?_
  refine y_ic (pcT := 73) (pc' := 55) (P := 36 ≤ l2) f141_52 rfl rfl rfl (fun c => ?_) (fun c => ?_)
  · replace k := k.1 c
    refine y_s (pc' := 74) (L' := [some (vR (some 137)), some (vR (some b)), some (vI l2)]) (st' := [vI 0]) (h' := h) f141_73 rfl ?_
    refine y_sto (pc' := 75) (k := 2) (L' := [some (vR (some 137)), some (vR (some b)), some (vI 0)]) f141_74 rfl rfl rfl rfl rfl rfl ?_
    exact k
  · replace k := k.2 c
    refine y_s (pc' := 56) (L' := [some (vR (some 137)), some (vR (some b)), some (vI l2)]) (st' := [vR (some b)]) (h' := h) f141_55 rfl ?_
    refine y_s (pc' := 58) (L' := [some (vR (some 137)), some (vR (some b)), some (vI l2)]) (st' := [vI 18, vR (some b)]) (h' := h) f141_56 rfl ?_
    refine y_s (pc' := 59) (L' := [some (vR (some 137)), some (vR (some b)), some (vI l2)]) (st' := [vI l2, vI 18, vR (some b)]) (h' := h) f141_58 rfl ?_
    refine y_s (pc' := 60) (L' := [some (vR (some 137)), some (vR (some b)), some (vI l2)]) (st' := [vI (zw (18 + l2)), vR (some b)]) (h' := h) f141_59 rfl ?_
    refine y_s (pc' := 61) (L' := [some (vR (some 137)), some (vR (some b)), some (vI l2)]) (st' := [vR (some 137), vI (zw (18 + l2)), vR (some b)]) (h' := h) f141_60 rfl ?_
    refine y_gr (pc' := 64) f141_61 yf_8_18 rfl rfl (ys137 w) (yp137_3 w) rfl ?_
    refine y_s (pc' := 65) (L' := [some (vR (some 137)), some (vR (some b)), some (vI l2)]) (st' := [vI l2, vR (some 140), vI (zw (18 + l2)), vR (some b)]) (h' := h) f141_64 rfl ?_
    refine y_ia (pc' := 66) (x := (zV h 140 (l2).toNat)) f141_65 (ys140 w) k.1 rfl rfl ?_
    replace k := k.2
    refine y_is (pc' := 67) (h' := (zsetV h b ((zw (18 + l2))).toNat (zV h 140 (l2).toNat))) f141_66 hb hb2 k.1 rfl rfl ?_
    replace k := k.2
    refine y_inc (pc' := 70) (L' := [some (vR (some 137)), some (vR (some b)), some (vI (zw (l2 + 1)))]) f141_67 rfl rfl rfl rfl ?_
    refine y_go (pc' := 49) f141_70 rfl ?_
    exact k
theorem W141_75 {d : Nat} {K : Hp → Prop} (w : yWF zl nl h) {b : Nat} (hb : zS h b = (1, 152)) (hb2 : 32 ≤ b) {l2 : Int} (k : ((24 ≤ l2 → ZW d prog_10_method_57_code 8 101 [some (vR (some 137)), some (vR (some b)), some (vI 0)] [] h (yq 0 (yqU K))) ∧ (¬ (24 ≤ l2) → ((0 ≤ l2 ∧ l2 < 24) ∧ ((0 ≤ (zw (54 + l2)) ∧ (zw (54 + l2)) < 152) ∧ ZW d prog_10_method_57_code 8 75 [some (vR (some 137)), some (vR (some b)), some (vI (zw (l2 + 1)))] [] (zsetV h b ((zw (54 + l2))).toNat (zV h 142 (l2).toNat)) (yq 0 (yqU K))))))) : ZW d prog_10_method_57_code 8 75 [some (vR (some 137)), some (vR (some b)), some (vI l2)] [] h (yq 0 (yqU K)) := by
  refine y_s (pc' := 76) (L' := [some (vR (some 137)), some (vR (some b)), some (vI l2)]) (st' := [vI l2]) (h' := h) f141_75 rfl ?_
  refine y_s (pc' := 78) (L' := [some (vR (some 137)), some (vR (some b)), some (vI l2)]) (st' := [vI 24, vI l2]) (h' := h) f141_76 rfl ?_
  refine y_ic (pcT := 99) (pc' := 81) (P := 24 ≤ l2) f141_78 rfl rfl rfl (fun c => ?_) (fun c => ?_)
  · replace k := k.1 c
    refine y_s (pc' := 100) (L' := [some (vR (some 137)), some (vR (some b)), some (vI l2)]) (st' := [vI 0]) (h' := h) f141_99 rfl ?_
    refine y_sto (pc' := 101) (k := 2) (L' := [some (vR (some 137)), some (vR (some b)), some (vI 0)]) f141_100 rfl rfl rfl rfl rfl rfl ?_
    exact k
  · replace k := k.2 c
    refine y_s (pc' := 82) (L' := [some (vR (some 137)), some (vR (some b)), some (vI l2)]) (st' := [vR (some b)]) (h' := h) f141_81 rfl ?_
    refine y_s (pc' := 84) (L' := [some (vR (some 137)), some (vR (some b)), some (vI l2)]) (st' := [vI 54, vR (some b)]) (h' := h) f141_82 rfl ?_
    refine y_s (pc' := 85) (L' := [some (vR (some 137)), some (vR (some b)), some (vI l2)]) (st' := [vI l2, vI 54, vR (some b)]) (h' := h) f141_84 rfl ?_
    refine y_s (pc' := 86) (L' := [some (vR (some 137)), some (vR (some b)), some (vI l2)]) (st' := [vI (zw (54 + l2)), vR (some b)]) (h' := h) f141_85 rfl ?_
    refine y_s (pc' := 87) (L' := [some (vR (some 137)), some (vR (some b)), some (vI l2)]) (st' := [vR (some 137), vI (zw (54 + l2)), vR (some b)]) (h' := h) f141_86 rfl ?_
    refine y_gr (pc' := 90) f141_87 yf_8_24 rfl rfl (ys137 w) (yp137_5 w) rfl ?_
    refine y_s (pc' := 91) (L' := [some (vR (some 137)), some (vR (some b)), some (vI l2)]) (st' := [vI l2, vR (some 142), vI (zw (54 + l2)), vR (some b)]) (h' := h) f141_90 rfl ?_
    refine y_ia (pc' := 92) (x := (zV h 142 (l2).toNat)) f141_91 (ys142 w) k.1 rfl rfl ?_
    replace k := k.2
    refine y_is (pc' := 93) (h' := (zsetV h b ((zw (54 + l2))).toNat (zV h 142 (l2).toNat))) f141_92 hb hb2 k.1 rfl rfl ?_
    replace k := k.2
    refine y_inc (pc' := 96) (L' := [some (vR (some 137)), some (vR (some b)), some (vI (zw (l2 + 1)))]) f141_93 rfl rfl rfl rfl ?_
    refine y_go (pc' := 75) f141_96 rfl ?_
    exact k
theorem W141_101 {d : Nat} {K : Hp → Prop} (w : yWF zl nl h) {b : Nat} (hb : zS h b = (1, 152)) (hb2 : 32 ≤ b) {l2 : Int} (k : ((8 ≤ l2 → ZW d prog_10_method_57_code 8 151 [some (vR (some 137)), some (vR (some b)), some (vI 0)] [] h (yq 0 (yqU K))) ∧ (¬ (8 ≤ l2) → ((0 ≤ l2 ∧ l2 < 8) ∧ ((0 ≤ (zw (78 + l2)) ∧ (zw (78 + l2)) < 152) ∧ ((0 ≤ l2 ∧ l2 < 8) ∧ ((0 ≤ (zw (86 + l2)) ∧ (zw (86 + l2)) < 152) ∧ (∀ h_131, (zsetV (zsetV h b ((zw (78 + l2))).toNat (zV h 143 (l2).toNat)) b ((zw (86 + l2))).toNat (zV (zsetV h b ((zw (78 + l2))).toNat (zV h 143 (l2).toNat)) 158 (l2).toNat)) = h_131 → ((0 ≤ l2 ∧ l2 < 8) ∧ ((0 ≤ (zw (94 + l2)) ∧ (zw (94 + l2)) < 152) ∧ ZW d prog_10_method_57_code 8 101 [some (vR (some 137)), some (vR (some b)), some (vI (zw (l2 + 1)))] [] (zsetV h_131 b ((zw (94 + l2))).toNat (zV h_131 159 (l2).toNat)) (yq 0 (yqU K)))))))))))) : ZW d prog_10_method_57_code 8 101 [some (vR (some 137)), some (vR (some b)), some (vI l2)] [] h (yq 0 (yqU K)) := by
  refine y_s (pc' := 102) (L' := [some (vR (some 137)), some (vR (some b)), some (vI l2)]) (st' := [vI l2]) (h' := h) f141_101 rfl ?_
  refine y_s (pc' := 104) (L' := [some (vR (some 137)), some (vR (some b)), some (vI l2)]) (st' := [vI 8, vI l2]) (h' := h) f141_102 rfl ?_
  refine y_ic (pcT := 149) (pc' := 107) (P := 8 ≤ l2) f141_104 rfl rfl rfl (fun c => ?_) (fun c => ?_)
  · replace k := k.1 c
    refine y_s (pc' := 150) (L' := [some (vR (some 137)), some (vR (some b)), some (vI l2)]) (st' := [vI 0]) (h' := h) f141_149 rfl ?_
    refine y_sto (pc' := 151) (k := 2) (L' := [some (vR (some 137)), some (vR (some b)), some (vI 0)]) f141_150 rfl rfl rfl rfl rfl rfl ?_
    exact k
  · replace k := k.2 c
    refine y_s (pc' := 108) (L' := [some (vR (some 137)), some (vR (some b)), some (vI l2)]) (st' := [vR (some b)]) (h' := h) f141_107 rfl ?_
    refine y_s (pc' := 110) (L' := [some (vR (some 137)), some (vR (some b)), some (vI l2)]) (st' := [vI 78, vR (some b)]) (h' := h) f141_108 rfl ?_
    refine y_s (pc' := 111) (L' := [some (vR (some 137)), some (vR (some b)), some (vI l2)]) (st' := [vI l2, vI 78, vR (some b)]) (h' := h) f141_110 rfl ?_
    refine y_s (pc' := 112) (L' := [some (vR (some 137)), some (vR (some b)), some (vI l2)]) (st' := [vI (zw (78 + l2)), vR (some b)]) (h' := h) f141_111 rfl ?_
    refine y_s (pc' := 113) (L' := [some (vR (some 137)), some (vR (some b)), some (vI l2)]) (st' := [vR (some 137), vI (zw (78 + l2)), vR (some b)]) (h' := h) f141_112 rfl ?_
    refine y_gr (pc' := 116) f141_113 yf_8_27 rfl rfl (ys137 w) (yp137_7 w) rfl ?_
    refine y_s (pc' := 117) (L' := [some (vR (some 137)), some (vR (some b)), some (vI l2)]) (st' := [vI l2, vR (some 143), vI (zw (78 + l2)), vR (some b)]) (h' := h) f141_116 rfl ?_
    refine y_ia (pc' := 118) (x := (zV h 143 (l2).toNat)) f141_117 (ys143 w) k.1 rfl rfl ?_
    replace k := k.2
    refine y_is (pc' := 119) (h' := (zsetV h b ((zw (78 + l2))).toNat (zV h 143 (l2).toNat))) f141_118 hb hb2 k.1 rfl rfl ?_
    replace k := k.2
    refine y_s (pc' := 120) (L' := [some (vR (some 137)), some (vR (some b)), some (vI l2)]) (st' := [vR (some b)]) (h' := (zsetV h b ((zw (78 + l2))).toNat (zV h 143 (l2).toNat))) f141_119 rfl ?_
    refine y_s (pc' := 122) (L' := [some (vR (some 137)), some (vR (some b)), some (vI l2)]) (st' := [vI 86, vR (some b)]) (h' := (zsetV h b ((zw (78 + l2))).toNat (zV h 143 (l2).toNat))) f141_120 rfl ?_
    refine y_s (pc' := 123) (L' := [some (vR (some 137)), some (vR (some b)), some (vI l2)]) (st' := [vI l2, vI 86, vR (some b)]) (h' := (zsetV h b ((zw (78 + l2))).toNat (zV h 143 (l2).toNat))) f141_122 rfl ?_
    refine y_s (pc' := 124) (L' := [some (vR (some 137)), some (vR (some b)), some (vI l2)]) (st' := [vI (zw (86 + l2)), vR (some b)]) (h' := (zsetV h b ((zw (78 + l2))).toNat (zV h 143 (l2).toNat))) f141_123 rfl ?_
    refine y_s (pc' := 125) (L' := [some (vR (some 137)), some (vR (some b)), some (vI l2)]) (st' := [vR (some 137), vI (zw (86 + l2)), vR (some b)]) (h' := (zsetV h b ((zw (78 + l2))).toNat (zV h 143 (l2).toNat))) f141_124 rfl ?_
    refine y_gr (pc' := 128) f141_125 yf_8_73 rfl rfl (ys137 w) (yp137_34 w) rfl ?_
    refine y_s (pc' := 129) (L' := [some (vR (some 137)), some (vR (some b)), some (vI l2)]) (st' := [vI l2, vR (some 158), vI (zw (86 + l2)), vR (some b)]) (h' := (zsetV h b ((zw (78 + l2))).toNat (zV h 143 (l2).toNat))) f141_128 rfl ?_
    refine y_ia (pc' := 130) (x := (zV (zsetV h b ((zw (78 + l2))).toNat (zV h 143 (l2).toNat)) 158 (l2).toNat)) f141_129 (ys158 w) k.1 rfl rfl ?_
    replace k := k.2
    refine y_is (pc' := 131) (h' := (zsetV (zsetV h b ((zw (78 + l2))).toNat (zV h 143 (l2).toNat)) b ((zw (86 + l2))).toNat (zV (zsetV h b ((zw (78 + l2))).toNat (zV h 143 (l2).toNat)) 158 (l2).toNat))) f141_130 hb hb2 k.1 rfl rfl ?_
    replace k := k.2
    generalize e_131 : (zsetV (zsetV h b ((zw (78 + l2))).toNat (zV h 143 (l2).toNat)) b ((zw (86 + l2))).toNat (zV (zsetV h b ((zw (78 + l2))).toNat (zV h 143 (l2).toNat)) 158 (l2).toNat)) = h_131
    replace k := k _ e_131
    have w : yWF zl nl h_131 := by rw [← e_131]; exact w
    have hb : zS h_131 b = (1, 152) := by rw [← e_131]; exact hb
    refine y_s (pc' := 132) (L' := [some (vR (some 137)), some (vR (some b)), some (vI l2)]) (st' := [vR (some b)]) (h' := h_131) f141_131 rfl ?_
    refine y_s (pc' := 134) (L' := [some (vR (some 137)), some (vR (some b)), some (vI l2)]) (st' := [vI 94, vR (some b)]) (h' := h_131) f141_132 rfl ?_
    refine y_s (pc' := 135) (L' := [some (vR (some 137)), some (vR (some b)), some (vI l2)]) (st' := [vI l2, vI 94, vR (some b)]) (h' := h_131) f141_134 rfl ?_
    refine y_s (pc' := 136) (L' := [some (vR (some 137)), some (vR (some b)), some (vI l2)]) (st' := [vI (zw (94 + l2)), vR (some b)]) (h' := h_131) f141_135 rfl ?_
    refine y_s (pc' := 137) (L' := [some (vR (some 137)), some (vR (some b)), some (vI l2)]) (st' := [vR (some 137), vI (zw (94 + l2)), vR (some b)]) (h' := h_131) f141_136 rfl ?_
    refine y_gr (pc' := 140) f141_137 yf_8_76 rfl rfl (ys137 w) (yp137_35 w) rfl ?_
    refine y_s (pc' := 141) (L' := [some (vR (some 137)), some (vR (some b)), some (vI l2)]) (st' := [vI l2, vR (some 159), vI (zw (94 + l2)), vR (some b)]) (h' := h_131) f141_140 rfl ?_
    refine y_ia (pc' := 142) (x := (zV h_131 159 (l2).toNat)) f141_141 (ys159 w) k.1 rfl rfl ?_
    replace k := k.2
    refine y_is (pc' := 143) (h' := (zsetV h_131 b ((zw (94 + l2))).toNat (zV h_131 159 (l2).toNat))) f141_142 hb hb2 k.1 rfl rfl ?_
    replace k := k.2
    refine y_inc (pc' := 146) (L' := [some (vR (some 137)), some (vR (some b)), some (vI (zw (l2 + 1)))]) f141_143 rfl rfl rfl rfl ?_
    refine y_go (pc' := 101) f141_146 rfl ?_
    exact k
theorem W141_151 {d : Nat} {K : Hp → Prop} (w : yWF zl nl h) {b : Nat} (hb : zS h b = (1, 152)) (hb2 : 32 ≤ b) {l2 : Int} (k : ((5 ≤ l2 → ZW d prog_10_method_57_code 8 212 [some (vR (some 137)), some (vR (some b)), some (vI 0)] [] h (yq 0 (yqU K))) ∧ (¬ (5 ≤ l2) → ((0 ≤ l2 ∧ l2 < 5) ∧ ((0 ≤ (zw (102 + l2)) ∧ (zw (102 + l2)) < 152) ∧ ((0 ≤ l2 ∧ l2 < 5) ∧ ((0 ≤ (zw (107 + l2)) ∧ (zw (107 + l2)) < 152) ∧ (∀ h_180, (zsetV (zsetV h b ((zw (102 + l2))).toNat (zV h 152 (l2).toNat)) b ((zw (107 + l2))).toNat (zV (zsetV h b ((zw (102 + l2))).toNat (zV h 152 (l2).toNat)) 153 (l2).toNat)) = h_180 → ((0 ≤ l2 ∧ l2 < 5) ∧ ((0 ≤ (zw (112 + l2)) ∧ (zw (112 + l2)) < 152) ∧ ((0 ≤ l2 ∧ l2 < 5) ∧ ((0 ≤ (zw (117 + l2)) ∧ (zw (117 + l2)) < 152) ∧ (∀ h_204, (zsetV (zsetV h_180 b ((zw (112 + l2))).toNat (zV h_180 154 (l2).toNat)) b ((zw (117 + l2))).toNat (zV (zsetV h_180 b ((zw (112 + l2))).toNat (zV h_180 154 (l2).toNat)) 155 (l2).toNat)) = h_204 → ZW d prog_10_method_57_code 8 151 [some (vR (some 137)), some (vR (some b)), some (vI (zw (l2 + 1)))] [] h_204 (yq 0 (yqU K))))))))))))))) : ZW d prog_10_method_57_code 8 151 [some (vR (some 137)), some (vR (some b)), some (vI l2)] [] h (yq 0 (yqU K)) := by
  refine y_s (pc' := 152) (L' := [some (vR (some 137)), some (vR (some b)), some (vI l2)]) (st' := [vI l2]) (h' := h) f141_151 rfl ?_
  refine y_s (pc' := 153) (L' := [some (vR (some 137)), some (vR (some b)), some (vI l2)]) (st' := [vI 5, vI l2]) (h' := h) f141_152 rfl ?_
  refine y_ic (pcT := 210) (pc' := 156) (P := 5 ≤ l2) f141_153 rfl rfl rfl (fun c => ?_) (fun c => ?_)
  · replace k := k.1 c
    refine y_s (pc' := 211) (L' := [some (vR (some 137)), some (vR (some b)), some (vI l2)]) (st' := [vI 0]) (h' := h) f141_210 rfl ?_
    refine y_sto (pc' := 212) (k := 2) (L' := [some (vR (some 137)), some (vR (some b)), some (vI 0)]) f141_211 rfl rfl rfl rfl rfl rfl ?_
    exact k
  · replace k := k.2 c
    refine y_s (pc' := 157) (L' := [some (vR (some 137)), some (vR (some b)), some (vI l2)]) (st' := [vR (some b)]) (h' := h) f141_156 rfl ?_
    refine y_s (pc' := 159) (L' := [some (vR (some 137)), some (vR (some b)), some (vI l2)]) (st' := [vI 102, vR (some b)]) (h' := h) f141_157 rfl ?_
    refine y_s (pc' := 160) (L' := [some (vR (some 137)), some (vR (some b)), some (vI l2)]) (st' := [vI l2, vI 102, vR (some b)]) (h' := h) f141_159 rfl ?_
    refine y_s (pc' := 161) (L' := [some (vR (some 137)), some (vR (some b)), some (vI l2)]) (st' := [vI (zw (102 + l2)), vR (some b)]) (h' := h) f141_160 rfl ?_
    refine y_s (pc' := 162) (L' := [some (vR (some 137)), some (vR (some b)), some (vI l2)]) (st' := [vR (some 137), vI (zw (102 + l2)), vR (some b)]) (h' := h) f141_161 rfl ?_
    refine y_gr (pc' := 165) f141_162 yf_8_55 rfl rfl (ys137 w) (yp137_26 w) rfl ?_
    refine y_s (pc' := 166) (L' := [some (vR (some 137)), some (vR (some b)), some (vI l2)]) (st' := [vI l2, vR (some 152), vI (zw (102 + l2)), vR (some b)]) (h' := h) f141_165 rfl ?_
    refine y_ia (pc' := 167) (x := (zV h 152 (l2).toNat)) f141_166 (ys152 w) k.1 rfl rfl ?_
    replace k := k.2
    refine y_is (pc' := 168) (h' := (zsetV h b ((zw (102 + l2))).toNat (zV h 152 (l2).toNat))) f141_167 hb hb2 k.1 rfl rfl ?_
    replace k := k.2
    refine y_s (pc' := 169) (L' := [some (vR (some 137)), some (vR (some b)), some (vI l2)]) (st' := [vR (some b)]) (h' := (zsetV h b ((zw (102 + l2))).toNat (zV h 152 (l2).toNat))) f141_168 rfl ?_
    refine y_s (pc' := 171) (L' := [some (vR (some 137)), some (vR (some b)), some (vI l2)]) (st' := [vI 107, vR (some b)]) (h' := (zsetV h b ((zw (102 + l2))).toNat (zV h 152 (l2).toNat))) f141_169 rfl ?_
    refine y_s (pc' := 172) (L' := [some (vR (some 137)), some (vR (some b)), some (vI l2)]) (st' := [vI l2, vI 107, vR (some b)]) (h' := (zsetV h b ((zw (102 + l2))).toNat (zV h 152 (l2).toNat))) f141_171 rfl ?_
    refine y_s (pc' := 173) (L' := [some (vR (some 137)), some (vR (some b)), some (vI l2)]) (st' := [vI (zw (107 + l2)), vR (some b)]) (h' := (zsetV h b ((zw (102 + l2))).toNat (zV h 152 (l2).toNat))) f141_172 rfl ?_
    refine y_s (pc' := 174) (L' := [some (vR (some 137)), some (vR (some b)), some (vI l2)]) (st' := [vR (some 137), vI (zw (107 + l2)), vR (some b)]) (h' := (zsetV h b ((zw (102 + l2))).toNat (zV h 152 (l2).toNat))) f141_173 rfl ?_
    refine y_gr (pc' := 177) f141_174 yf_8_58 rfl rfl (ys137 w) (yp137_27 w) rfl ?_
    refine y_s (pc' := 178) (L' := [some (vR (some 137)), some (vR (some b)), some (vI l2)]) (st' := [vI l2, vR (some 153), vI (zw (107 + l2)), vR (some b)]) (h' := (zsetV h b ((zw (102 + l2))).toNat (zV h 152 (l2).toNat))) f141_177 rfl ?_
    refine y_ia (pc' := 179) (x := (zV (zsetV h b ((zw (102 + l2))).toNat (zV h 152 (l2).toNat)) 153 (l2).toNat)) f141_178 (ys153 w) k.1 rfl rfl ?_
    replace k := k.2
    refine y_is (pc' := 180) (h' := (zsetV (zsetV h b ((zw (102 + l2))).toNat (zV h 152 (l2).toNat)) b ((zw (107 + l2))).toNat (zV (zsetV h b ((zw (102 + l2))).toNat (zV h 152 (l2).toNat)) 153 (l2).toNat))) f141_179 hb hb2 k.1 rfl rfl ?_
    replace k := k.2
    generalize e_180 : (zsetV (zsetV h b ((zw (102 + l2))).toNat (zV h 152 (l2).toNat)) b ((zw (107 + l2))).toNat (zV (zsetV h b ((zw (102 + l2))).toNat (zV h 152 (l2).toNat)) 153 (l2).toNat)) = h_180
    replace k := k _ e_180
    have w : yWF zl nl h_180 := by rw [← e_180]; exact w
    have hb : zS h_180 b = (1, 152) := by rw [← e_180]; exact hb
    refine y_s (pc' := 181) (L' := [some (vR (some 137)), some (vR (some b)), some (vI l2)]) (st' := [vR (some b)]) (h' := h_180) f141_180 rfl ?_
    refine y_s (pc' := 183) (L' := [some (vR (some 137)), some (vR (some b)), some (vI l2)]) (st' := [vI 112, vR (some b)]) (h' := h_180) f141_181 rfl ?_
    refine y_s (pc' := 184) (L' := [some (vR (some 137)), some (vR (some b)), some (vI l2)]) (st' := [vI l2, vI 112, vR (some b)]) (h' := h_180) f141_183 rfl ?_
    refine y_s (pc' := 185) (L' := [some (vR (some 137)), some (vR (some b)), some (vI l2)]) (st' := [vI (zw (112 + l2)), vR (some b)]) (h' := h_180) f141_184 rfl ?_
    refine y_s (pc' := 186) (L' := [some (vR (some 137)), some (vR (some b)), some (vI l2)]) (st' := [vR (some 137), vI (zw (112 + l2)), vR (some b)]) (h' := h_180) f141_185 rfl ?_
    refine y_gr (pc' := 189) f141_186 yf_8_61 rfl rfl (ys137 w) (yp137_28 w) rfl ?_
    refine y_s (pc' := 190) (L' := [some (vR (some 137)), some (vR (some b)), some (vI l2)]) (st' := [vI l2, vR (some 154), vI (zw (112 + l2)), vR (some b)]) (h' := h_180) f141_189 rfl ?_
    refine y_ia (pc' := 191) (x := (zV h_180 154 (l2).toNat)) f141_190 (ys154 w) k.1 rfl rfl ?_
    replace k := k.2
    refine y_is (pc' := 192) (h' := (zsetV h_180 b ((zw (112 + l2))).toNat (zV h_180 154 (l2).toNat))) f141_191 hb hb2 k.1 rfl rfl ?_
    replace k := k.2
    refine y_s (pc' := 193) (L' := [some (vR (some 137)), some (vR (some b)), some (vI l2)]) (st' := [vR (some b)]) (h' := (zsetV h_180 b ((zw (112 + l2))).toNat (zV h_180 154 (l2).toNat))) f141_192 rfl ?_
    refine y_s (pc' := 195) (L' := [some (vR (some 137)), some (vR (some b)), some (vI l2)]) (st' := [vI 117, vR (some b)]) (h' := (zsetV h_180 b ((zw (112 + l2))).toNat (zV h_180 154 (l2).toNat))) f141_193 rfl ?_
    refine y_s (pc' := 196) (L' := [some (vR (some 137)), some (vR (some b)), some (vI l2)]) (st' := [vI l2, vI 117, vR (some b)]) (h' := (zsetV h_180 b ((zw (112 + l2))).toNat (zV h_180 154 (l2).toNat))) f141_195 rfl ?_
    refine y_s (pc' := 197) (L' := [some (vR (some 137)), some (vR (some b)), some (vI l2)]) (st' := [vI (zw (117 + l2)), vR (some b)]) (h' := (zsetV h_180 b ((zw (112 + l2))).toNat (zV h_180 154 (l2).toNat))) f141_196 rfl ?_
    refine y_s (pc' := 198) (L' := [some (vR (some 137)), some (vR (some b)), some (vI l2)]) (st' := [vR (some 137), vI (zw (117 + l2)), vR (some b)]) (h' := (zsetV h_180 b ((zw (112 + l2))).toNat (zV h_180 154 (l2).toNat))) f141_197 rfl ?_
    refine y_gr (pc' := 201) f141_198 yf_8_64 rfl rfl (ys137 w) (yp137_29 w) rfl ?_
    refine y_s (pc' := 202) (L' := [some (vR (some 137)), some (vR (some b)), some (vI l2)]) (st' := [vI l2, vR (some 155), vI (zw (117 + l2)), vR (some b)]) (h' := (zsetV h_180 b ((zw (112 + l2))).toNat (zV h_180 154 (l2).toNat))) f141_201 rfl ?_
    refine y_ia (pc' := 203) (x := (zV (zsetV h_180 b ((zw (112 + l2))).toNat (zV h_180 154 (l2).toNat)) 155 (l2).toNat)) f141_202 (ys155 w) k.1 rfl rfl ?_
    replace k := k.2
    refine y_is (pc' := 204) (h' := (zsetV (zsetV h_180 b ((zw (112 + l2))).toNat (zV h_180 154 (l2).toNat)) b ((zw (117 + l2))).toNat (zV (zsetV h_180 b ((zw (112 + l2))).toNat (zV h_180 154 (l2).toNat)) 155 (l2).toNat))) f141_203 hb hb2 k.1 rfl rfl ?_
    replace k := k.2
    generalize e_204 : (zsetV (zsetV h_180 b ((zw (112 + l2))).toNat (zV h_180 154 (l2).toNat)) b ((zw (117 + l2))).toNat (zV (zsetV h_180 b ((zw (112 + l2))).toNat (zV h_180 154 (l2).toNat)) 155 (l2).toNat)) = h_204
    replace k := k _ e_204
    have w : yWF zl nl h_204 := by rw [← e_204]; exact w
    have hb : zS h_204 b = (1, 152) := by rw [← e_204]; exact hb
    refine y_inc (pc' := 207) (L' := [some (vR (some 137)), some (vR (some b)), some (vI (zw (l2 + 1)))]) f141_204 rfl rfl rfl rfl ?_
    refine y_go (pc' := 151) f141_207 rfl ?_
    exact k
theorem W141_212 {d : Nat} {K : Hp → Prop} (w : yWF zl nl h) {b : Nat} (hb : zS h b = (1, 152)) (hb2 : 32 ≤ b) {l2 : Int} (k : ((10 ≤ l2 → (∀ h_267, (zsetV (zsetV h b 142 (zV h 137 0)) b 143 (zV (zsetV h b 142 (zV h 137 0)) 137 6)) = h_267 → (∀ h_285, (zsetV (zsetV h_267 b 144 (zV h_267 137 8)) b 145 (zV (zsetV h_267 b 144 (zV h_267 137 8)) 137 25)) = h_285 → (∀ h_303, (zsetV (zsetV h_285 b 146 (zV h_285 137 30)) b 147 (zV (zsetV h_285 b 146 (zV h_285 137 30)) 137 33)) = h_303 → K (zsetV h_303 b 148 (zV h_303 137 16)))))) ∧ (¬ (10 ≤ l2) → ((0 ≤ l2 ∧ l2 < 10) ∧ ((0 ≤ (zw (122 + l2)) ∧ (zw (122 + l2)) < 152) ∧ ((0 ≤ l2 ∧ l2 < 10) ∧ ((0 ≤ (zw (132 + l2)) ∧ (zw (132 + l2)) < 152) ∧ (∀ h_243, (zsetV (zsetV h b ((zw (122 + l2))).toNat (zV h 156 (l2).toNat)) b ((zw (132 + l2))).toNat (zV (zsetV h b ((zw (122 + l2))).toNat (zV h 156 (l2).toNat)) 157 (l2).toNat)) = h_243 → ZW d prog_10_method_57_code 8 212 [some (vR (some 137)), some (vR (some b)), some (vI (zw (l2 + 1)))] [] h_243 (yq 0 (yqU K)))))))))) : ZW d prog_10_method_57_code 8 212 [some (vR (some 137)), some (vR (some b)), some (vI l2)] [] h (yq 0 (yqU K)) := by
  refine y_s (pc' := 213) (L' := [some (vR (some 137)), some (vR (some b)), some (vI l2)]) (st' := [vI l2]) (h' := h) f141_212 rfl ?_
  refine y_s (pc' := 215) (L' := [some (vR (some 137)), some (vR (some b)), some (vI l2)]) (st' := [vI 10, vI l2]) (h' := h) f141_213 rfl ?_
  refine y_ic (pcT := 249) (pc' := 218) (P := 10 ≤ l2) f141_215 rfl rfl rfl (fun c => ?_) (fun c => ?_)
  · replace k := k.1 c
    refine y_s (pc' := 250) (L' := [some (vR (some 137)), some (vR (some b)), some (vI l2)]) (st' := [vR (some b)]) (h' := h) f141_249 rfl ?_
    refine y_s (pc' := 253) (L' := [some (vR (some 137)), some (vR (some b)), some (vI l2)]) (st' := [vI 142, vR (some b)]) (h' := h) f141_250 rfl ?_
    refine y_s (pc' := 254) (L' := [some (vR (some 137)), some (vR (some b)), some (vI l2)]) (st' := [vR (some 137), vI 142, vR (some b)]) (h' := h) f141_253 rfl ?_
    refine y_gi (pc' := 257) f141_254 yf_8_114 rfl rfl (ys137 w) rfl ?_
    refine y_is (pc' := 258) (h' := (zsetV h b 142 (zV h 137 0))) f141_257 hb hb2 (by decide) rfl rfl ?_
    refine y_s (pc' := 259) (L' := [some (vR (some 137)), some (vR (some b)), some (vI l2)]) (st' := [vR (some b)]) (h' := (zsetV h b 142 (zV h 137 0))) f141_258 rfl ?_
    refine y_s (pc' := 262) (L' := [some (vR (some 137)), some (vR (some b)), some (vI l2)]) (st' := [vI 143, vR (some b)]) (h' := (zsetV h b 142 (zV h 137 0))) f141_259 rfl ?_
    refine y_s (pc' := 263) (L' := [some (vR (some 137)), some (vR (some b)), some (vI l2)]) (st' := [vR (some 137), vI 143, vR (some b)]) (h' := (zsetV h b 142 (zV h 137 0))) f141_262 rfl ?_
    refine y_gi (pc' := 266) f141_263 yf_8_154 rfl rfl (ys137 w) rfl ?_
    refine y_is (pc' := 267) (h' := (zsetV (zsetV h b 142 (zV h 137 0)) b 143 (zV (zsetV h b 142 (zV h 137 0)) 137 6))) f141_266 hb hb2 (by decide) rfl rfl ?_
    generalize e_267 : (zsetV (zsetV h b 142 (zV h 137 0)) b 143 (zV (zsetV h b 142 (zV h 137 0)) 137 6)) = h_267
    replace k := k _ e_267
    have w : yWF zl nl h_267 := by rw [← e_267]; exact w
    have hb : zS h_267 b = (1, 152) := by rw [← e_267]; exact hb
    refine y_s (pc' := 268) (L' := [some (vR (some 137)), some (vR (some b)), some (vI l2)]) (st' := [vR (some b)]) (h' := h_267) f141_267 rfl ?_
    refine y_s (pc' := 271) (L' := [some (vR (some 137)), some (vR (some b)), some (vI l2)]) (st' := [vI 144, vR (some b)]) (h' := h_267) f141_268 rfl ?_
    refine y_s (pc' := 272) (L' := [some (vR (some 137)), some (vR (some b)), some (vI l2)]) (st' := [vR (some 137), vI 144, vR (some b)]) (h' := h_267) f141_271 rfl ?_
    refine y_gi (pc' := 275) f141_272 yf_8_235 rfl rfl (ys137 w) rfl ?_
    refine y_is (pc' := 276) (h' := (zsetV h_267 b 144 (zV h_267 137 8))) f141_275 hb hb2 (by decide) rfl rfl ?_
    refine y_s (pc' := 277) (L' := [some (vR (some 137)), some (vR (some b)), some (vI l2)]) (st' := [vR (some b)]) (h' := (zsetV h_267 b 144 (zV h_267 137 8))) f141_276 rfl ?_
    refine y_s (pc' := 280) (L' := [some (vR (some 137)), some (vR (some b)), some (vI l2)]) (st' := [vI 145, vR (some b)]) (h' := (zsetV h_267 b 144 (zV h_267 137 8))) f141_277 rfl ?_
    refine y_s (pc' := 281) (L' := [some (vR (some 137)), some (vR (some b)), some (vI l2)]) (st' := [vR (some 137), vI 145, vR (some b)]) (h' := (zsetV h_267 b 144 (zV h_267 137 8))) f141_280 rfl ?_
    refine y_gi (pc' := 284) f141_281 yf_8_286 rfl rfl (ys137 w) rfl ?_
    refine y_is (pc' := 285) (h' := (zsetV (zsetV h_267 b 144 (zV h_267 137 8)) b 145 (zV (zsetV h_267 b 144 (zV h_267 137 8)) 137 25))) f141_284 hb hb2 (by decide) rfl rfl ?_
    generalize e_285 : (zsetV (zsetV h_267 b 144 (zV h_267 137 8)) b 145 (zV (zsetV h_267 b 144 (zV h_267 137 8)) 137 25)) = h_285
    replace k := k _ e_285
    have w : yWF zl nl h_285 := by rw [← e_285]; exact w
    have hb : zS h_285 b = (1, 152) := by rw [← e_285]; exact hb
    refine y_s (pc' := 286) (L' := [some (vR (some 137)), some (vR (some b)), some (vI l2)]) (st' := [vR (some b)]) (h' := h_285) f141_285 rfl ?_
    refine y_s (pc' := 289) (L' := [some (vR (some 137)), some (vR (some b)), some (vI l2)]) (st' := [vI 146, vR (some b)]) (h' := h_285) f141_286 rfl ?_
    refine y_s (pc' := 290) (L' := [some (vR (some 137)), some (vR (some b)), some (vI l2)]) (st' := [vR (some 137), vI 146, vR (some b)]) (h' := h_285) f141_289 rfl ?_
    refine y_gi (pc' := 293) f141_290 yf_8_307 rfl rfl (ys137 w) rfl ?_
    refine y_is (pc' := 294) (h' := (zsetV h_285 b 146 (zV h_285 137 30))) f141_293 hb hb2 (by decide) rfl rfl ?_
    refine y_s (pc' := 295) (L' := [some (vR (some 137)), some (vR (some b)), some (vI l2)]) (st' := [vR (some b)]) (h' := (zsetV h_285 b 146 (zV h_285 137 30))) f141_294 rfl ?_
    refine y_s (pc' := 298) (L' := [some (vR (some 137)), some (vR (some b)), some (vI l2)]) (st' := [vI 147, vR (some b)]) (h' := (zsetV h_285 b 146 (zV h_285 137 30))) f141_295 rfl ?_
    refine y_s (pc' := 299) (L' := [some (vR (some 137)), some (vR (some b)), some (vI l2)]) (st' := [vR (some 137), vI 147, vR (some b)]) (h' := (zsetV h_285 b 146 (zV h_285 137 30))) f141_298 rfl ?_
    refine y_gi (pc' := 302) f141_299 yf_8_310 rfl rfl (ys137 w) rfl ?_
    refine y_is (pc' := 303) (h' := (zsetV (zsetV h_285 b 146 (zV h_285 137 30)) b 147 (zV (zsetV h_285 b 146 (zV h_285 137 30)) 137 33))) f141_302 hb hb2 (by decide) rfl rfl ?_
    generalize e_303 : (zsetV (zsetV h_285 b 146 (zV h_285 137 30)) b 147 (zV (zsetV h_285 b 146 (zV h_285 137 30)) 137 33)) = h_303
    replace k := k _ e_303
    have w : yWF zl nl h_303 := by rw [← e_303]; exact w
    have hb : zS h_303 b = (1, 152) := by rw [← e_303]; exact hb
    refine y_s (pc' := 304) (L' := [some (vR (some 137)), some (vR (some b)), some (vI l2)]) (st' := [vR (some b)]) (h' := h_303) f141_303 rfl ?_
    refine y_s (pc' := 307) (L' := [some (vR (some 137)), some (vR (some b)), some (vI l2)]) (st' := [vI 148, vR (some b)]) (h' := h_303) f141_304 rfl ?_
    refine y_s (pc' := 308) (L' := [some (vR (some 137)), some (vR (some b)), some (vI l2)]) (st' := [vR (some 137), vI 148, vR (some b)]) (h' := h_303) f141_307 rfl ?_
    refine y_gi (pc' := 311) f141_308 yf_8_110 rfl rfl (ys137 w) rfl ?_
    refine y_is (pc' := 312) (h' := (zsetV h_303 b 148 (zV h_303 137 16))) f141_311 hb hb2 (by decide) rfl rfl ?_
    exact y_ru f141_312 ⟨rfl, k⟩
  · replace k := k.2 c
    refine y_s (pc' := 219) (L' := [some (vR (some 137)), some (vR (some b)), some (vI l2)]) (st' := [vR (some b)]) (h' := h) f141_218 rfl ?_
    refine y_s (pc' := 221) (L' := [some (vR (some 137)), some (vR (some b)), some (vI l2)]) (st' := [vI 122, vR (some b)]) (h' := h) f141_219 rfl ?_
    refine y_s (pc' := 222) (L' := [some (vR (some 137)), some (vR (some b)), some (vI l2)]) (st' := [vI l2, vI 122, vR (some b)]) (h' := h) f141_221 rfl ?_
    refine y_s (pc' := 223) (L' := [some (vR (some 137)), some (vR (some b)), some (vI l2)]) (st' := [vI (zw (122 + l2)), vR (some b)]) (h' := h) f141_222 rfl ?_
    refine y_s (pc' := 224) (L' := [some (vR (some 137)), some (vR (some b)), some (vI l2)]) (st' := [vR (some 137), vI (zw (122 + l2)), vR (some b)]) (h' := h) f141_223 rfl ?_
    refine y_gr (pc' := 227) f141_224 yf_8_67 rfl rfl (ys137 w) (yp137_31 w) rfl ?_
    refine y_s (pc' := 228) (L' := [some (vR (some 137)), some (vR (some b)), some (vI l2)]) (st' := [vI l2, vR (some 156), vI (zw (122 + l2)), vR (some b)]) (h' := h) f141_227 rfl ?_
    refine y_ia (pc' := 229) (x := (zV h 156 (l2).toNat)) f141_228 (ys156 w) k.1 rfl rfl ?_
    replace k := k.2
    refine y_is (pc' := 230) (h' := (zsetV h b ((zw (122 + l2))).toNat (zV h 156 (l2).toNat))) f141_229 hb hb2 k.1 rfl rfl ?_
    replace k := k.2
    refine y_s (pc' := 231) (L' := [some (vR (some 137)), some (vR (some b)), some (vI l2)]) (st' := [vR (some b)]) (h' := (zsetV h b ((zw (122 + l2))).toNat (zV h 156 (l2).toNat))) f141_230 rfl ?_
    refine y_s (pc' := 234) (L' := [some (vR (some 137)), some (vR (some b)), some (vI l2)]) (st' := [vI 132, vR (some b)]) (h' := (zsetV h b ((zw (122 + l2))).toNat (zV h 156 (l2).toNat))) f141_231 rfl ?_
    refine y_s (pc' := 235) (L' := [some (vR (some 137)), some (vR (some b)), some (vI l2)]) (st' := [vI l2, vI 132, vR (some b)]) (h' := (zsetV h b ((zw (122 + l2))).toNat (zV h 156 (l2).toNat))) f141_234 rfl ?_
    refine y_s (pc' := 236) (L' := [some (vR (some 137)), some (vR (some b)), some (vI l2)]) (st' := [vI (zw (132 + l2)), vR (some b)]) (h' := (zsetV h b ((zw (122 + l2))).toNat (zV h 156 (l2).toNat))) f141_235 rfl ?_
    refine y_s (pc' := 237) (L' := [some (vR (some 137)), some (vR (some b)), some (vI l2)]) (st' := [vR (some 137), vI (zw (132 + l2)), vR (some b)]) (h' := (zsetV h b ((zw (122 + l2))).toNat (zV h 156 (l2).toNat))) f141_236 rfl ?_
    refine y_gr (pc' := 240) f141_237 yf_8_70 rfl rfl (ys137 w) (yp137_32 w) rfl ?_
    refine y_s (pc' := 241) (L' := [some (vR (some 137)), some (vR (some b)), some (vI l2)]) (st' := [vI l2, vR (some 157), vI (zw (132 + l2)), vR (some b)]) (h' := (zsetV h b ((zw (122 + l2))).toNat (zV h 156 (l2).toNat))) f141_240 rfl ?_
    refine y_ia (pc' := 242) (x := (zV (zsetV h b ((zw (122 + l2))).toNat (zV h 156 (l2).toNat)) 157 (l2).toNat)) f141_241 (ys157 w) k.1 rfl rfl ?_
    replace k := k.2
    refine y_is (pc' := 243) (h' := (zsetV (zsetV h b ((zw (122 + l2))).toNat (zV h 156 (l2).toNat)) b ((zw (132 + l2))).toNat (zV (zsetV h b ((zw (122 + l2))).toNat (zV h 156 (l2).toNat)) 157 (l2).toNat))) f141_242 hb hb2 k.1 rfl rfl ?_
    replace k := k.2
    generalize e_243 : (zsetV (zsetV h b ((zw (122 + l2))).toNat (zV h 156 (l2).toNat)) b ((zw (132 + l2))).toNat (zV (zsetV h b ((zw (122 + l2))).toNat (zV h 156 (l2).toNat)) 157 (l2).toNat)) = h_243
    replace k := k _ e_243
    have w : yWF zl nl h_243 := by rw [← e_243]; exact w
    have hb : zS h_243 b = (1, 152) := by rw [← e_243]; exact hb
    refine y_inc (pc' := 246) (L' := [some (vR (some 137)), some (vR (some b)), some (vI (zw (l2 + 1)))]) f141_243 rfl rfl rfl rfl ?_
    refine y_go (pc' := 212) f141_246 rfl ?_
    exact k
/-- HatterTunesModel.again([I)V -/
theorem E145 {d : Nat} {K : Hp → Prop} (w : yWF zl nl h) {b : Nat} (hb : zS h b = (1, 152)) (hb2 : 32 ≤ b) (k : ZW d prog_10_method_58_code 8 2 [some (vR (some 137)), some (vR (some b)), some (vI 0)] [] h (yq 0 (yqU K))) : yU d 145 [vR (some 137), vR (some b)] h K := by
  refine y_en (L := [some (vR (some 137)), some (vR (some b)), none]) rfl rfl ?_
  refine y_s (pc' := 1) (L' := [some (vR (some 137)), some (vR (some b)), none]) (st' := [vI 0]) (h' := h) f145_0 rfl ?_
  refine y_sto (pc' := 2) (k := 2) (L' := [some (vR (some 137)), some (vR (some b)), some (vI 0)]) f145_1 rfl rfl rfl rfl rfl rfl ?_
  exact k
theorem W145_2 {d : Nat} {K : Hp → Prop} (w : yWF zl nl h) {b : Nat} (hb : zS h b = (1, 152)) (hb2 : 32 ≤ b) {l2 : Int} (k : ((6 ≤ l2 → ZW d prog_10_method_58_code 8 49 [some (vR (some 137)), some (vR (some b)), some (vI 0)] [] h (yq 0 (yqU K))) ∧ (¬ (6 ≤ l2) → ((0 ≤ l2 ∧ l2 < 152) ∧ ((0 ≤ l2 ∧ l2 < 6) ∧ ((0 ≤ (zw (6 + l2)) ∧ (zw (6 + l2)) < 152) ∧ ((0 ≤ l2 ∧ l2 < 6) ∧ (∀ h_29, (zsetV (zsetV h 138 (l2).toNat (zV h b (l2).toNat)) 139 (l2).toNat (zV (zsetV h 138 (l2).toNat (zV h b (l2).toNat)) b ((zw (6 + l2))).toNat)) = h_29 → ((0 ≤ (zw (12 + l2)) ∧ (zw (12 + l2)) < 152) ∧ ((0 ≤ l2 ∧ l2 < 6) ∧ ZW d prog_10_method_58_code 8 2 [some (vR (some 137)), some (vR (some b)), some (vI (zw (l2 + 1)))] [] (zsetV h_29 141 (l2).toNat (zV h_29 b ((zw (12 + l2))).toNat)) (yq 0 (yqU K)))))))))))) : ZW d prog_10_method_58_code 8 2 [some (vR (some 137)), some (vR (some b)), some (vI l2)] [] h (yq 0 (yqU K)) := by
  refine y_s (pc' := 3) (L' := [some (vR (some 137)), some (vR (some b)), some (vI l2)]) (st' := [vI l2]) (h' := h) f145_2 rfl ?_
  refine y_s (pc' := 5) (L' := [some (vR (some 137)), some (vR (some b)), some (vI l2)]) (st' := [vI 6, vI l2]) (h' := h) f145_3 rfl ?_
  refine y_ic (pcT := 47) (pc' := 8) (P := 6 ≤ l2) f145_5 rfl rfl rfl (fun c => ?_) (fun c => ?_)
  · replace k := k.1 c
    refine y_s (pc' := 48) (L' := [some (vR (some 137)), some (vR (some b)), some (vI l2)]) (st' := [vI 0]) (h' := h) f145_47 rfl ?_
    refine y_sto (pc' := 49) (k := 2) (L' := [some (vR (some 137)), some (vR (some b)), some (vI 0)]) f145_48 rfl rfl rfl rfl rfl rfl ?_
    exact k
  · replace k := k.2 c
    refine y_s (pc' := 9) (L' := [some (vR (some 137)), some (vR (some b)), some (vI l2)]) (st' := [vR (some 137)]) (h' := h) f145_8 rfl ?_
    refine y_gr (pc' := 12) f145_9 yf_8_9 rfl rfl (ys137 w) (yp137_1 w) rfl ?_
    refine y_s (pc' := 13) (L' := [some (vR (some 137)), some (vR (some b)), some (vI l2)]) (st' := [vI l2, vR (some 138)]) (h' := h) f145_12 rfl ?_
    refine y_s (pc' := 14) (L' := [some (vR (some 137)), some (vR (some b)), some (vI l2)]) (st' := [vR (some b), vI l2, vR (some 138)]) (h' := h) f145_13 rfl ?_
    refine y_s (pc' := 15) (L' := [some (vR (some 137)), some (vR (some b)), some (vI l2)]) (st' := [vI l2, vR (some b), vI l2, vR (some 138)]) (h' := h) f145_14 rfl ?_
    refine y_ia (pc' := 16) (x := (zV h b (l2).toNat)) f145_15 hb k.1 rfl rfl ?_
    replace k := k.2
    refine y_is (pc' := 17) (h' := (zsetV h 138 (l2).toNat (zV h b (l2).toNat))) f145_16 (ys138 w) (by decide) k.1 rfl rfl ?_
    replace k := k.2
    refine y_s (pc' := 18) (L' := [some (vR (some 137)), some (vR (some b)), some (vI l2)]) (st' := [vR (some 137)]) (h' := (zsetV h 138 (l2).toNat (zV h b (l2).toNat))) f145_17 rfl ?_
    refine y_gr (pc' := 21) f145_18 yf_8_15 rfl rfl (ys137 w) (yp137_2 w) rfl ?_
    refine y_s (pc' := 22) (L' := [some (vR (some 137)), some (vR (some b)), some (vI l2)]) (st' := [vI l2, vR (some 139)]) (h' := (zsetV h 138 (l2).toNat (zV h b (l2).toNat))) f145_21 rfl ?_
    refine y_s (pc' := 23) (L' := [some (vR (some 137)), some (vR (some b)), some (vI l2)]) (st' := [vR (some b), vI l2, vR (some 139)]) (h' := (zsetV h 138 (l2).toNat (zV h b (l2).toNat))) f145_22 rfl ?_
    refine y_s (pc' := 25) (L' := [some (vR (some 137)), some (vR (some b)), some (vI l2)]) (st' := [vI 6, vR (some b), vI l2, vR (some 139)]) (h' := (zsetV h 138 (l2).toNat (zV h b (l2).toNat))) f145_23 rfl ?_
    refine y_s (pc' := 26) (L' := [some (vR (some 137)), some (vR (some b)), some (vI l2)]) (st' := [vI l2, vI 6, vR (some b), vI l2, vR (some 139)]) (h' := (zsetV h 138 (l2).toNat (zV h b (l2).toNat))) f145_25 rfl ?_
    refine y_s (pc' := 27) (L' := [some (vR (some 137)), some (vR (some b)), some (vI l2)]) (st' := [vI (zw (6 + l2)), vR (some b), vI l2, vR (some 139)]) (h' := (zsetV h 138 (l2).toNat (zV h b (l2).toNat))) f145_26 rfl ?_
    refine y_ia (pc' := 28) (x := (zV (zsetV h 138 (l2).toNat (zV h b (l2).toNat)) b ((zw (6 + l2))).toNat)) f145_27 hb k.1 rfl rfl ?_
    replace k := k.2
    refine y_is (pc' := 29) (h' := (zsetV (zsetV h 138 (l2).toNat (zV h b (l2).toNat)) 139 (l2).toNat (zV (zsetV h 138 (l2).toNat (zV h b (l2).toNat)) b ((zw (6 + l2))).toNat))) f145_28 (ys139 w) (by decide) k.1 rfl rfl ?_
    replace k := k.2
    generalize e_29 : (zsetV (zsetV h 138 (l2).toNat (zV h b (l2).toNat)) 139 (l2).toNat (zV (zsetV h 138 (l2).toNat (zV h b (l2).toNat)) b ((zw (6 + l2))).toNat)) = h_29
    replace k := k _ e_29
    have w : yWF zl nl h_29 := by rw [← e_29]; exact w
    have hb : zS h_29 b = (1, 152) := by rw [← e_29]; exact hb
    refine y_s (pc' := 30) (L' := [some (vR (some 137)), some (vR (some b)), some (vI l2)]) (st' := [vR (some 137)]) (h' := h_29) f145_29 rfl ?_
    refine y_gr (pc' := 33) f145_30 yf_8_21 rfl rfl (ys137 w) (yp137_4 w) rfl ?_
    refine y_s (pc' := 34) (L' := [some (vR (some 137)), some (vR (some b)), some (vI l2)]) (st' := [vI l2, vR (some 141)]) (h' := h_29) f145_33 rfl ?_
    refine y_s (pc' := 35) (L' := [some (vR (some 137)), some (vR (some b)), some (vI l2)]) (st' := [vR (some b), vI l2, vR (some 141)]) (h' := h_29) f145_34 rfl ?_
    refine y_s (pc' := 37) (L' := [some (vR (some 137)), some (vR (some b)), some (vI l2)]) (st' := [vI 12, vR (some b), vI l2, vR (some 141)]) (h' := h_29) f145_35 rfl ?_
    refine y_s (pc' := 38) (L' := [some (vR (some 137)), some (vR (some b)), some (vI l2)]) (st' := [vI l2, vI 12, vR (some b), vI l2, vR (some 141)]) (h' := h_29) f145_37 rfl ?_
    refine y_s (pc' := 39) (L' := [some (vR (some 137)), some (vR (some b)), some (vI l2)]) (st' := [vI (zw (12 + l2)), vR (some b), vI l2, vR (some 141)]) (h' := h_29) f145_38 rfl ?_
    refine y_ia (pc' := 40) (x := (zV h_29 b ((zw (12 + l2))).toNat)) f145_39 hb k.1 rfl rfl ?_
    replace k := k.2
    refine y_is (pc' := 41) (h' := (zsetV h_29 141 (l2).toNat (zV h_29 b ((zw (12 + l2))).toNat))) f145_40 (ys141 w) (by decide) k.1 rfl rfl ?_
    replace k := k.2
    refine y_inc (pc' := 44) (L' := [some (vR (some 137)), some (vR (some b)), some (vI (zw (l2 + 1)))]) f145_41 rfl rfl rfl rfl ?_
    refine y_go (pc' := 2) f145_44 rfl ?_
    exact k
theorem W145_49 {d : Nat} {K : Hp → Prop} (w : yWF zl nl h) {b : Nat} (hb : zS h b = (1, 152)) (hb2 : 32 ≤ b) {l2 : Int} (k : ((36 ≤ l2 → ZW d prog_10_method_58_code 8 75 [some (vR (some 137)), some (vR (some b)), some (vI 0)] [] h (yq 0 (yqU K))) ∧ (¬ (36 ≤ l2) → ((0 ≤ (zw (18 + l2)) ∧ (zw (18 + l2)) < 152) ∧ ((0 ≤ l2 ∧ l2 < 36) ∧ ZW d prog_10_method_58_code 8 49 [some (vR (some 137)), some (vR (some b)), some (vI (zw (l2 + 1)))] [] (zsetV h 140 (l2).toNat (zV h b ((zw (18 + l2))).toNat)) (yq 0 (yqU K))))))) : ZW d prog_10_method_58_code 8 49 [some (vR (some 137)), some (vR (some b)), some (vI l2)] [] h (yq 0 (yqU K)) := by
  refine y_s (pc' := 50) (L' := [some (vR (some 137)), some (vR (some b)), some (vI l2)]) (st' := [vI l2]) (h' := h) f145_49 rfl ?_
  refine y_s (pc' := 52) (L' := [some (vR (some 137)), some (vR (some b)), some (vI l2)]) (st' := [vI 36, vI l2]) (h' := h) f145_50 rfl ?_
  refine y_ic (pcT := 73) (pc' := 55) (P := 36 ≤ l2) f145_52 rfl rfl rfl (fun c => ?_) (fun c => ?_)
  · replace k := k.1 c
    refine y_s (pc' := 74) (L' := [some (vR (some 137)), some (vR (some b)), some (vI l2)]) (st' := [vI 0]) (h' := h) f145_73 rfl ?_
    refine y_sto (pc' := 75) (k := 2) (L' := [some (vR (some 137)), some (vR (some b)), some (vI 0)]) f145_74 rfl rfl rfl rfl rfl rfl ?_
    exact k
  · replace k := k.2 c
    refine y_s (pc' := 56) (L' := [some (vR (some 137)), some (vR (some b)), some (vI l2)]) (st' := [vR (some 137)]) (h' := h) f145_55 rfl ?_
    refine y_gr (pc' := 59) f145_56 yf_8_18 rfl rfl (ys137 w) (yp137_3 w) rfl ?_
    refine y_s (pc' := 60) (L' := [some (vR (some 137)), some (vR (some b)), some (vI l2)]) (st' := [vI l2, vR (some 140)]) (h' := h) f145_59 rfl ?_
    refine y_s (pc' := 61) (L' := [some (vR (some 137)), some (vR (some b)), some (vI l2)]) (st' := [vR (some b), vI l2, vR (some 140)]) (h' := h) f145_60 rfl ?_
    refine y_s (pc' := 63) (L' := [some (vR (some 137)), some (vR (some b)), some (vI l2)]) (st' := [vI 18, vR (some b), vI l2, vR (some 140)]) (h' := h) f145_61 rfl ?_
    refine y_s (pc' := 64) (L' := [some (vR (some 137)), some (vR (some b)), some (vI l2)]) (st' := [vI l2, vI 18, vR (some b), vI l2, vR (some 140)]) (h' := h) f145_63 rfl ?_
    refine y_s (pc' := 65) (L' := [some (vR (some 137)), some (vR (some b)), some (vI l2)]) (st' := [vI (zw (18 + l2)), vR (some b), vI l2, vR (some 140)]) (h' := h) f145_64 rfl ?_
    refine y_ia (pc' := 66) (x := (zV h b ((zw (18 + l2))).toNat)) f145_65 hb k.1 rfl rfl ?_
    replace k := k.2
    refine y_is (pc' := 67) (h' := (zsetV h 140 (l2).toNat (zV h b ((zw (18 + l2))).toNat))) f145_66 (ys140 w) (by decide) k.1 rfl rfl ?_
    replace k := k.2
    refine y_inc (pc' := 70) (L' := [some (vR (some 137)), some (vR (some b)), some (vI (zw (l2 + 1)))]) f145_67 rfl rfl rfl rfl ?_
    refine y_go (pc' := 49) f145_70 rfl ?_
    exact k
theorem W145_75 {d : Nat} {K : Hp → Prop} (w : yWF zl nl h) {b : Nat} (hb : zS h b = (1, 152)) (hb2 : 32 ≤ b) {l2 : Int} (k : ((24 ≤ l2 → ZW d prog_10_method_58_code 8 101 [some (vR (some 137)), some (vR (some b)), some (vI 0)] [] h (yq 0 (yqU K))) ∧ (¬ (24 ≤ l2) → ((0 ≤ (zw (54 + l2)) ∧ (zw (54 + l2)) < 152) ∧ ((0 ≤ l2 ∧ l2 < 24) ∧ ZW d prog_10_method_58_code 8 75 [some (vR (some 137)), some (vR (some b)), some (vI (zw (l2 + 1)))] [] (zsetV h 142 (l2).toNat (zV h b ((zw (54 + l2))).toNat)) (yq 0 (yqU K))))))) : ZW d prog_10_method_58_code 8 75 [some (vR (some 137)), some (vR (some b)), some (vI l2)] [] h (yq 0 (yqU K)) := by
  refine y_s (pc' := 76) (L' := [some (vR (some 137)), some (vR (some b)), some (vI l2)]) (st' := [vI l2]) (h' := h) f145_75 rfl ?_
  refine y_s (pc' := 78) (L' := [some (vR (some 137)), some (vR (some b)), some (vI l2)]) (st' := [vI 24, vI l2]) (h' := h) f145_76 rfl ?_
  refine y_ic (pcT := 99) (pc' := 81) (P := 24 ≤ l2) f145_78 rfl rfl rfl (fun c => ?_) (fun c => ?_)
  · replace k := k.1 c
    refine y_s (pc' := 100) (L' := [some (vR (some 137)), some (vR (some b)), some (vI l2)]) (st' := [vI 0]) (h' := h) f145_99 rfl ?_
    refine y_sto (pc' := 101) (k := 2) (L' := [some (vR (some 137)), some (vR (some b)), some (vI 0)]) f145_100 rfl rfl rfl rfl rfl rfl ?_
    exact k
  · replace k := k.2 c
    refine y_s (pc' := 82) (L' := [some (vR (some 137)), some (vR (some b)), some (vI l2)]) (st' := [vR (some 137)]) (h' := h) f145_81 rfl ?_
    refine y_gr (pc' := 85) f145_82 yf_8_24 rfl rfl (ys137 w) (yp137_5 w) rfl ?_
    refine y_s (pc' := 86) (L' := [some (vR (some 137)), some (vR (some b)), some (vI l2)]) (st' := [vI l2, vR (some 142)]) (h' := h) f145_85 rfl ?_
    refine y_s (pc' := 87) (L' := [some (vR (some 137)), some (vR (some b)), some (vI l2)]) (st' := [vR (some b), vI l2, vR (some 142)]) (h' := h) f145_86 rfl ?_
    refine y_s (pc' := 89) (L' := [some (vR (some 137)), some (vR (some b)), some (vI l2)]) (st' := [vI 54, vR (some b), vI l2, vR (some 142)]) (h' := h) f145_87 rfl ?_
    refine y_s (pc' := 90) (L' := [some (vR (some 137)), some (vR (some b)), some (vI l2)]) (st' := [vI l2, vI 54, vR (some b), vI l2, vR (some 142)]) (h' := h) f145_89 rfl ?_
    refine y_s (pc' := 91) (L' := [some (vR (some 137)), some (vR (some b)), some (vI l2)]) (st' := [vI (zw (54 + l2)), vR (some b), vI l2, vR (some 142)]) (h' := h) f145_90 rfl ?_
    refine y_ia (pc' := 92) (x := (zV h b ((zw (54 + l2))).toNat)) f145_91 hb k.1 rfl rfl ?_
    replace k := k.2
    refine y_is (pc' := 93) (h' := (zsetV h 142 (l2).toNat (zV h b ((zw (54 + l2))).toNat))) f145_92 (ys142 w) (by decide) k.1 rfl rfl ?_
    replace k := k.2
    refine y_inc (pc' := 96) (L' := [some (vR (some 137)), some (vR (some b)), some (vI (zw (l2 + 1)))]) f145_93 rfl rfl rfl rfl ?_
    refine y_go (pc' := 75) f145_96 rfl ?_
    exact k
theorem W145_101 {d : Nat} {K : Hp → Prop} (w : yWF zl nl h) {b : Nat} (hb : zS h b = (1, 152)) (hb2 : 32 ≤ b) {l2 : Int} (k : ((8 ≤ l2 → ZW d prog_10_method_58_code 8 151 [some (vR (some 137)), some (vR (some b)), some (vI 0)] [] h (yq 0 (yqU K))) ∧ (¬ (8 ≤ l2) → ((0 ≤ (zw (78 + l2)) ∧ (zw (78 + l2)) < 152) ∧ ((0 ≤ l2 ∧ l2 < 8) ∧ ((0 ≤ (zw (86 + l2)) ∧ (zw (86 + l2)) < 152) ∧ ((0 ≤ l2 ∧ l2 < 8) ∧ (∀ h_131, (zsetV (zsetV h 143 (l2).toNat (zV h b ((zw (78 + l2))).toNat)) 158 (l2).toNat (zV (zsetV h 143 (l2).toNat (zV h b ((zw (78 + l2))).toNat)) b ((zw (86 + l2))).toNat)) = h_131 → ((0 ≤ (zw (94 + l2)) ∧ (zw (94 + l2)) < 152) ∧ ((0 ≤ l2 ∧ l2 < 8) ∧ ZW d prog_10_method_58_code 8 101 [some (vR (some 137)), some (vR (some b)), some (vI (zw (l2 + 1)))] [] (zsetV h_131 159 (l2).toNat (zV h_131 b ((zw (94 + l2))).toNat)) (yq 0 (yqU K)))))))))))) : ZW d prog_10_method_58_code 8 101 [some (vR (some 137)), some (vR (some b)), some (vI l2)] [] h (yq 0 (yqU K)) := by
  refine y_s (pc' := 102) (L' := [some (vR (some 137)), some (vR (some b)), some (vI l2)]) (st' := [vI l2]) (h' := h) f145_101 rfl ?_
  refine y_s (pc' := 104) (L' := [some (vR (some 137)), some (vR (some b)), some (vI l2)]) (st' := [vI 8, vI l2]) (h' := h) f145_102 rfl ?_
  refine y_ic (pcT := 149) (pc' := 107) (P := 8 ≤ l2) f145_104 rfl rfl rfl (fun c => ?_) (fun c => ?_)
  · replace k := k.1 c
    refine y_s (pc' := 150) (L' := [some (vR (some 137)), some (vR (some b)), some (vI l2)]) (st' := [vI 0]) (h' := h) f145_149 rfl ?_
    refine y_sto (pc' := 151) (k := 2) (L' := [some (vR (some 137)), some (vR (some b)), some (vI 0)]) f145_150 rfl rfl rfl rfl rfl rfl ?_
    exact k
  · replace k := k.2 c
    refine y_s (pc' := 108) (L' := [some (vR (some 137)), some (vR (some b)), some (vI l2)]) (st' := [vR (some 137)]) (h' := h) f145_107 rfl ?_
    refine y_gr (pc' := 111) f145_108 yf_8_27 rfl rfl (ys137 w) (yp137_7 w) rfl ?_
    refine y_s (pc' := 112) (L' := [some (vR (some 137)), some (vR (some b)), some (vI l2)]) (st' := [vI l2, vR (some 143)]) (h' := h) f145_111 rfl ?_
    refine y_s (pc' := 113) (L' := [some (vR (some 137)), some (vR (some b)), some (vI l2)]) (st' := [vR (some b), vI l2, vR (some 143)]) (h' := h) f145_112 rfl ?_
    refine y_s (pc' := 115) (L' := [some (vR (some 137)), some (vR (some b)), some (vI l2)]) (st' := [vI 78, vR (some b), vI l2, vR (some 143)]) (h' := h) f145_113 rfl ?_
    refine y_s (pc' := 116) (L' := [some (vR (some 137)), some (vR (some b)), some (vI l2)]) (st' := [vI l2, vI 78, vR (some b), vI l2, vR (some 143)]) (h' := h) f145_115 rfl ?_
    refine y_s (pc' := 117) (L' := [some (vR (some 137)), some (vR (some b)), some (vI l2)]) (st' := [vI (zw (78 + l2)), vR (some b), vI l2, vR (some 143)]) (h' := h) f145_116 rfl ?_
    refine y_ia (pc' := 118) (x := (zV h b ((zw (78 + l2))).toNat)) f145_117 hb k.1 rfl rfl ?_
    replace k := k.2
    refine y_is (pc' := 119) (h' := (zsetV h 143 (l2).toNat (zV h b ((zw (78 + l2))).toNat))) f145_118 (ys143 w) (by decide) k.1 rfl rfl ?_
    replace k := k.2
    refine y_s (pc' := 120) (L' := [some (vR (some 137)), some (vR (some b)), some (vI l2)]) (st' := [vR (some 137)]) (h' := (zsetV h 143 (l2).toNat (zV h b ((zw (78 + l2))).toNat))) f145_119 rfl ?_
    refine y_gr (pc' := 123) f145_120 yf_8_73 rfl rfl (ys137 w) (yp137_34 w) rfl ?_
    refine y_s (pc' := 124) (L' := [some (vR (some 137)), some (vR (some b)), some (vI l2)]) (st' := [vI l2, vR (some 158)]) (h' := (zsetV h 143 (l2).toNat (zV h b ((zw (78 + l2))).toNat))) f145_123 rfl ?_
    refine y_s (pc' := 125) (L' := [some (vR (some 137)), some (vR (some b)), some (vI l2)]) (st' := [vR (some b), vI l2, vR (some 158)]) (h' := (zsetV h 143 (l2).toNat (zV h b ((zw (78 + l2))).toNat))) f145_124 rfl ?_
    refine y_s (pc' := 127) (L' := [some (vR (some 137)), some (vR (some b)), some (vI l2)]) (st' := [vI 86, vR (some b), vI l2, vR (some 158)]) (h' := (zsetV h 143 (l2).toNat (zV h b ((zw (78 + l2))).toNat))) f145_125 rfl ?_
    refine y_s (pc' := 128) (L' := [some (vR (some 137)), some (vR (some b)), some (vI l2)]) (st' := [vI l2, vI 86, vR (some b), vI l2, vR (some 158)]) (h' := (zsetV h 143 (l2).toNat (zV h b ((zw (78 + l2))).toNat))) f145_127 rfl ?_
    refine y_s (pc' := 129) (L' := [some (vR (some 137)), some (vR (some b)), some (vI l2)]) (st' := [vI (zw (86 + l2)), vR (some b), vI l2, vR (some 158)]) (h' := (zsetV h 143 (l2).toNat (zV h b ((zw (78 + l2))).toNat))) f145_128 rfl ?_
    refine y_ia (pc' := 130) (x := (zV (zsetV h 143 (l2).toNat (zV h b ((zw (78 + l2))).toNat)) b ((zw (86 + l2))).toNat)) f145_129 hb k.1 rfl rfl ?_
    replace k := k.2
    refine y_is (pc' := 131) (h' := (zsetV (zsetV h 143 (l2).toNat (zV h b ((zw (78 + l2))).toNat)) 158 (l2).toNat (zV (zsetV h 143 (l2).toNat (zV h b ((zw (78 + l2))).toNat)) b ((zw (86 + l2))).toNat))) f145_130 (ys158 w) (by decide) k.1 rfl rfl ?_
    replace k := k.2
    generalize e_131 : (zsetV (zsetV h 143 (l2).toNat (zV h b ((zw (78 + l2))).toNat)) 158 (l2).toNat (zV (zsetV h 143 (l2).toNat (zV h b ((zw (78 + l2))).toNat)) b ((zw (86 + l2))).toNat)) = h_131
    replace k := k _ e_131
    have w : yWF zl nl h_131 := by rw [← e_131]; exact w
    have hb : zS h_131 b = (1, 152) := by rw [← e_131]; exact hb
    refine y_s (pc' := 132) (L' := [some (vR (some 137)), some (vR (some b)), some (vI l2)]) (st' := [vR (some 137)]) (h' := h_131) f145_131 rfl ?_
    refine y_gr (pc' := 135) f145_132 yf_8_76 rfl rfl (ys137 w) (yp137_35 w) rfl ?_
    refine y_s (pc' := 136) (L' := [some (vR (some 137)), some (vR (some b)), some (vI l2)]) (st' := [vI l2, vR (some 159)]) (h' := h_131) f145_135 rfl ?_
    refine y_s (pc' := 137) (L' := [some (vR (some 137)), some (vR (some b)), some (vI l2)]) (st' := [vR (some b), vI l2, vR (some 159)]) (h' := h_131) f145_136 rfl ?_
    refine y_s (pc' := 139) (L' := [some (vR (some 137)), some (vR (some b)), some (vI l2)]) (st' := [vI 94, vR (some b), vI l2, vR (some 159)]) (h' := h_131) f145_137 rfl ?_
    refine y_s (pc' := 140) (L' := [some (vR (some 137)), some (vR (some b)), some (vI l2)]) (st' := [vI l2, vI 94, vR (some b), vI l2, vR (some 159)]) (h' := h_131) f145_139 rfl ?_
    refine y_s (pc' := 141) (L' := [some (vR (some 137)), some (vR (some b)), some (vI l2)]) (st' := [vI (zw (94 + l2)), vR (some b), vI l2, vR (some 159)]) (h' := h_131) f145_140 rfl ?_
    refine y_ia (pc' := 142) (x := (zV h_131 b ((zw (94 + l2))).toNat)) f145_141 hb k.1 rfl rfl ?_
    replace k := k.2
    refine y_is (pc' := 143) (h' := (zsetV h_131 159 (l2).toNat (zV h_131 b ((zw (94 + l2))).toNat))) f145_142 (ys159 w) (by decide) k.1 rfl rfl ?_
    replace k := k.2
    refine y_inc (pc' := 146) (L' := [some (vR (some 137)), some (vR (some b)), some (vI (zw (l2 + 1)))]) f145_143 rfl rfl rfl rfl ?_
    refine y_go (pc' := 101) f145_146 rfl ?_
    exact k
theorem W145_151 {d : Nat} {K : Hp → Prop} (w : yWF zl nl h) {b : Nat} (hb : zS h b = (1, 152)) (hb2 : 32 ≤ b) {l2 : Int} (k : ((5 ≤ l2 → ZW d prog_10_method_58_code 8 212 [some (vR (some 137)), some (vR (some b)), some (vI 0)] [] h (yq 0 (yqU K))) ∧ (¬ (5 ≤ l2) → ((0 ≤ (zw (102 + l2)) ∧ (zw (102 + l2)) < 152) ∧ ((0 ≤ l2 ∧ l2 < 5) ∧ ((0 ≤ (zw (107 + l2)) ∧ (zw (107 + l2)) < 152) ∧ ((0 ≤ l2 ∧ l2 < 5) ∧ (∀ h_180, (zsetV (zsetV h 152 (l2).toNat (zV h b ((zw (102 + l2))).toNat)) 153 (l2).toNat (zV (zsetV h 152 (l2).toNat (zV h b ((zw (102 + l2))).toNat)) b ((zw (107 + l2))).toNat)) = h_180 → ((0 ≤ (zw (112 + l2)) ∧ (zw (112 + l2)) < 152) ∧ ((0 ≤ l2 ∧ l2 < 5) ∧ ((0 ≤ (zw (117 + l2)) ∧ (zw (117 + l2)) < 152) ∧ ((0 ≤ l2 ∧ l2 < 5) ∧ (∀ h_204, (zsetV (zsetV h_180 154 (l2).toNat (zV h_180 b ((zw (112 + l2))).toNat)) 155 (l2).toNat (zV (zsetV h_180 154 (l2).toNat (zV h_180 b ((zw (112 + l2))).toNat)) b ((zw (117 + l2))).toNat)) = h_204 → ZW d prog_10_method_58_code 8 151 [some (vR (some 137)), some (vR (some b)), some (vI (zw (l2 + 1)))] [] h_204 (yq 0 (yqU K))))))))))))))) : ZW d prog_10_method_58_code 8 151 [some (vR (some 137)), some (vR (some b)), some (vI l2)] [] h (yq 0 (yqU K)) := by
  refine y_s (pc' := 152) (L' := [some (vR (some 137)), some (vR (some b)), some (vI l2)]) (st' := [vI l2]) (h' := h) f145_151 rfl ?_
  refine y_s (pc' := 153) (L' := [some (vR (some 137)), some (vR (some b)), some (vI l2)]) (st' := [vI 5, vI l2]) (h' := h) f145_152 rfl ?_
  refine y_ic (pcT := 210) (pc' := 156) (P := 5 ≤ l2) f145_153 rfl rfl rfl (fun c => ?_) (fun c => ?_)
  · replace k := k.1 c
    refine y_s (pc' := 211) (L' := [some (vR (some 137)), some (vR (some b)), some (vI l2)]) (st' := [vI 0]) (h' := h) f145_210 rfl ?_
    refine y_sto (pc' := 212) (k := 2) (L' := [some (vR (some 137)), some (vR (some b)), some (vI 0)]) f145_211 rfl rfl rfl rfl rfl rfl ?_
    exact k
  · replace k := k.2 c
    refine y_s (pc' := 157) (L' := [some (vR (some 137)), some (vR (some b)), some (vI l2)]) (st' := [vR (some 137)]) (h' := h) f145_156 rfl ?_
    refine y_gr (pc' := 160) f145_157 yf_8_55 rfl rfl (ys137 w) (yp137_26 w) rfl ?_
    refine y_s (pc' := 161) (L' := [some (vR (some 137)), some (vR (some b)), some (vI l2)]) (st' := [vI l2, vR (some 152)]) (h' := h) f145_160 rfl ?_
    refine y_s (pc' := 162) (L' := [some (vR (some 137)), some (vR (some b)), some (vI l2)]) (st' := [vR (some b), vI l2, vR (some 152)]) (h' := h) f145_161 rfl ?_
    refine y_s (pc' := 164) (L' := [some (vR (some 137)), some (vR (some b)), some (vI l2)]) (st' := [vI 102, vR (some b), vI l2, vR (some 152)]) (h' := h) f145_162 rfl ?_
    refine y_s (pc' := 165) (L' := [some (vR (some 137)), some (vR (some b)), some (vI l2)]) (st' := [vI l2, vI 102, vR (some b), vI l2, vR (some 152)]) (h' := h) f145_164 rfl ?_
    refine y_s (pc' := 166) (L' := [some (vR (some 137)), some (vR (some b)), some (vI l2)]) (st' := [vI (zw (102 + l2)), vR (some b), vI l2, vR (some 152)]) (h' := h) f145_165 rfl ?_
    refine y_ia (pc' := 167) (x := (zV h b ((zw (102 + l2))).toNat)) f145_166 hb k.1 rfl rfl ?_
    replace k := k.2
    refine y_is (pc' := 168) (h' := (zsetV h 152 (l2).toNat (zV h b ((zw (102 + l2))).toNat))) f145_167 (ys152 w) (by decide) k.1 rfl rfl ?_
    replace k := k.2
    refine y_s (pc' := 169) (L' := [some (vR (some 137)), some (vR (some b)), some (vI l2)]) (st' := [vR (some 137)]) (h' := (zsetV h 152 (l2).toNat (zV h b ((zw (102 + l2))).toNat))) f145_168 rfl ?_
    refine y_gr (pc' := 172) f145_169 yf_8_58 rfl rfl (ys137 w) (yp137_27 w) rfl ?_
    refine y_s (pc' := 173) (L' := [some (vR (some 137)), some (vR (some b)), some (vI l2)]) (st' := [vI l2, vR (some 153)]) (h' := (zsetV h 152 (l2).toNat (zV h b ((zw (102 + l2))).toNat))) f145_172 rfl ?_
    refine y_s (pc' := 174) (L' := [some (vR (some 137)), some (vR (some b)), some (vI l2)]) (st' := [vR (some b), vI l2, vR (some 153)]) (h' := (zsetV h 152 (l2).toNat (zV h b ((zw (102 + l2))).toNat))) f145_173 rfl ?_
    refine y_s (pc' := 176) (L' := [some (vR (some 137)), some (vR (some b)), some (vI l2)]) (st' := [vI 107, vR (some b), vI l2, vR (some 153)]) (h' := (zsetV h 152 (l2).toNat (zV h b ((zw (102 + l2))).toNat))) f145_174 rfl ?_
    refine y_s (pc' := 177) (L' := [some (vR (some 137)), some (vR (some b)), some (vI l2)]) (st' := [vI l2, vI 107, vR (some b), vI l2, vR (some 153)]) (h' := (zsetV h 152 (l2).toNat (zV h b ((zw (102 + l2))).toNat))) f145_176 rfl ?_
    refine y_s (pc' := 178) (L' := [some (vR (some 137)), some (vR (some b)), some (vI l2)]) (st' := [vI (zw (107 + l2)), vR (some b), vI l2, vR (some 153)]) (h' := (zsetV h 152 (l2).toNat (zV h b ((zw (102 + l2))).toNat))) f145_177 rfl ?_
    refine y_ia (pc' := 179) (x := (zV (zsetV h 152 (l2).toNat (zV h b ((zw (102 + l2))).toNat)) b ((zw (107 + l2))).toNat)) f145_178 hb k.1 rfl rfl ?_
    replace k := k.2
    refine y_is (pc' := 180) (h' := (zsetV (zsetV h 152 (l2).toNat (zV h b ((zw (102 + l2))).toNat)) 153 (l2).toNat (zV (zsetV h 152 (l2).toNat (zV h b ((zw (102 + l2))).toNat)) b ((zw (107 + l2))).toNat))) f145_179 (ys153 w) (by decide) k.1 rfl rfl ?_
    replace k := k.2
    generalize e_180 : (zsetV (zsetV h 152 (l2).toNat (zV h b ((zw (102 + l2))).toNat)) 153 (l2).toNat (zV (zsetV h 152 (l2).toNat (zV h b ((zw (102 + l2))).toNat)) b ((zw (107 + l2))).toNat)) = h_180
    replace k := k _ e_180
    have w : yWF zl nl h_180 := by rw [← e_180]; exact w
    have hb : zS h_180 b = (1, 152) := by rw [← e_180]; exact hb
    refine y_s (pc' := 181) (L' := [some (vR (some 137)), some (vR (some b)), some (vI l2)]) (st' := [vR (some 137)]) (h' := h_180) f145_180 rfl ?_
    refine y_gr (pc' := 184) f145_181 yf_8_61 rfl rfl (ys137 w) (yp137_28 w) rfl ?_
    refine y_s (pc' := 185) (L' := [some (vR (some 137)), some (vR (some b)), some (vI l2)]) (st' := [vI l2, vR (some 154)]) (h' := h_180) f145_184 rfl ?_
    refine y_s (pc' := 186) (L' := [some (vR (some 137)), some (vR (some b)), some (vI l2)]) (st' := [vR (some b), vI l2, vR (some 154)]) (h' := h_180) f145_185 rfl ?_
    refine y_s (pc' := 188) (L' := [some (vR (some 137)), some (vR (some b)), some (vI l2)]) (st' := [vI 112, vR (some b), vI l2, vR (some 154)]) (h' := h_180) f145_186 rfl ?_
    refine y_s (pc' := 189) (L' := [some (vR (some 137)), some (vR (some b)), some (vI l2)]) (st' := [vI l2, vI 112, vR (some b), vI l2, vR (some 154)]) (h' := h_180) f145_188 rfl ?_
    refine y_s (pc' := 190) (L' := [some (vR (some 137)), some (vR (some b)), some (vI l2)]) (st' := [vI (zw (112 + l2)), vR (some b), vI l2, vR (some 154)]) (h' := h_180) f145_189 rfl ?_
    refine y_ia (pc' := 191) (x := (zV h_180 b ((zw (112 + l2))).toNat)) f145_190 hb k.1 rfl rfl ?_
    replace k := k.2
    refine y_is (pc' := 192) (h' := (zsetV h_180 154 (l2).toNat (zV h_180 b ((zw (112 + l2))).toNat))) f145_191 (ys154 w) (by decide) k.1 rfl rfl ?_
    replace k := k.2
    refine y_s (pc' := 193) (L' := [some (vR (some 137)), some (vR (some b)), some (vI l2)]) (st' := [vR (some 137)]) (h' := (zsetV h_180 154 (l2).toNat (zV h_180 b ((zw (112 + l2))).toNat))) f145_192 rfl ?_
    refine y_gr (pc' := 196) f145_193 yf_8_64 rfl rfl (ys137 w) (yp137_29 w) rfl ?_
    refine y_s (pc' := 197) (L' := [some (vR (some 137)), some (vR (some b)), some (vI l2)]) (st' := [vI l2, vR (some 155)]) (h' := (zsetV h_180 154 (l2).toNat (zV h_180 b ((zw (112 + l2))).toNat))) f145_196 rfl ?_
    refine y_s (pc' := 198) (L' := [some (vR (some 137)), some (vR (some b)), some (vI l2)]) (st' := [vR (some b), vI l2, vR (some 155)]) (h' := (zsetV h_180 154 (l2).toNat (zV h_180 b ((zw (112 + l2))).toNat))) f145_197 rfl ?_
    refine y_s (pc' := 200) (L' := [some (vR (some 137)), some (vR (some b)), some (vI l2)]) (st' := [vI 117, vR (some b), vI l2, vR (some 155)]) (h' := (zsetV h_180 154 (l2).toNat (zV h_180 b ((zw (112 + l2))).toNat))) f145_198 rfl ?_
    refine y_s (pc' := 201) (L' := [some (vR (some 137)), some (vR (some b)), some (vI l2)]) (st' := [vI l2, vI 117, vR (some b), vI l2, vR (some 155)]) (h' := (zsetV h_180 154 (l2).toNat (zV h_180 b ((zw (112 + l2))).toNat))) f145_200 rfl ?_
    refine y_s (pc' := 202) (L' := [some (vR (some 137)), some (vR (some b)), some (vI l2)]) (st' := [vI (zw (117 + l2)), vR (some b), vI l2, vR (some 155)]) (h' := (zsetV h_180 154 (l2).toNat (zV h_180 b ((zw (112 + l2))).toNat))) f145_201 rfl ?_
    refine y_ia (pc' := 203) (x := (zV (zsetV h_180 154 (l2).toNat (zV h_180 b ((zw (112 + l2))).toNat)) b ((zw (117 + l2))).toNat)) f145_202 hb k.1 rfl rfl ?_
    replace k := k.2
    refine y_is (pc' := 204) (h' := (zsetV (zsetV h_180 154 (l2).toNat (zV h_180 b ((zw (112 + l2))).toNat)) 155 (l2).toNat (zV (zsetV h_180 154 (l2).toNat (zV h_180 b ((zw (112 + l2))).toNat)) b ((zw (117 + l2))).toNat))) f145_203 (ys155 w) (by decide) k.1 rfl rfl ?_
    replace k := k.2
    generalize e_204 : (zsetV (zsetV h_180 154 (l2).toNat (zV h_180 b ((zw (112 + l2))).toNat)) 155 (l2).toNat (zV (zsetV h_180 154 (l2).toNat (zV h_180 b ((zw (112 + l2))).toNat)) b ((zw (117 + l2))).toNat)) = h_204
    replace k := k _ e_204
    have w : yWF zl nl h_204 := by rw [← e_204]; exact w
    have hb : zS h_204 b = (1, 152) := by rw [← e_204]; exact hb
    refine y_inc (pc' := 207) (L' := [some (vR (some 137)), some (vR (some b)), some (vI (zw (l2 + 1)))]) f145_204 rfl rfl rfl rfl ?_
    refine y_go (pc' := 151) f145_207 rfl ?_
    exact k
theorem W145_212 {d : Nat} {K : Hp → Prop} (w : yWF zl nl h) {b : Nat} (hb : zS h b = (1, 152)) (hb2 : 32 ≤ b) {l2 : Int} (k : ((10 ≤ l2 → (∀ h_267, (zsetV (zsetV h 137 0 (zV h b 142)) 137 6 (zV (zsetV h 137 0 (zV h b 142)) b 143)) = h_267 → (∀ h_285, (zsetV (zsetV h_267 137 8 (zV h_267 b 144)) 137 25 (zV (zsetV h_267 137 8 (zV h_267 b 144)) b 145)) = h_285 → (∀ h_303, (zsetV (zsetV h_285 137 30 (zV h_285 b 146)) 137 33 (zV (zsetV h_285 137 30 (zV h_285 b 146)) b 147)) = h_303 → K (zsetV h_303 137 16 (zV h_303 b 148)))))) ∧ (¬ (10 ≤ l2) → ((0 ≤ (zw (122 + l2)) ∧ (zw (122 + l2)) < 152) ∧ ((0 ≤ l2 ∧ l2 < 10) ∧ ((0 ≤ (zw (132 + l2)) ∧ (zw (132 + l2)) < 152) ∧ ((0 ≤ l2 ∧ l2 < 10) ∧ (∀ h_243, (zsetV (zsetV h 156 (l2).toNat (zV h b ((zw (122 + l2))).toNat)) 157 (l2).toNat (zV (zsetV h 156 (l2).toNat (zV h b ((zw (122 + l2))).toNat)) b ((zw (132 + l2))).toNat)) = h_243 → ZW d prog_10_method_58_code 8 212 [some (vR (some 137)), some (vR (some b)), some (vI (zw (l2 + 1)))] [] h_243 (yq 0 (yqU K)))))))))) : ZW d prog_10_method_58_code 8 212 [some (vR (some 137)), some (vR (some b)), some (vI l2)] [] h (yq 0 (yqU K)) := by
  refine y_s (pc' := 213) (L' := [some (vR (some 137)), some (vR (some b)), some (vI l2)]) (st' := [vI l2]) (h' := h) f145_212 rfl ?_
  refine y_s (pc' := 215) (L' := [some (vR (some 137)), some (vR (some b)), some (vI l2)]) (st' := [vI 10, vI l2]) (h' := h) f145_213 rfl ?_
  refine y_ic (pcT := 249) (pc' := 218) (P := 10 ≤ l2) f145_215 rfl rfl rfl (fun c => ?_) (fun c => ?_)
  · replace k := k.1 c
    refine y_s (pc' := 250) (L' := [some (vR (some 137)), some (vR (some b)), some (vI l2)]) (st' := [vR (some 137)]) (h' := h) f145_249 rfl ?_
    refine y_s (pc' := 251) (L' := [some (vR (some 137)), some (vR (some b)), some (vI l2)]) (st' := [vR (some b), vR (some 137)]) (h' := h) f145_250 rfl ?_
    refine y_s (pc' := 254) (L' := [some (vR (some 137)), some (vR (some b)), some (vI l2)]) (st' := [vI 142, vR (some b), vR (some 137)]) (h' := h) f145_251 rfl ?_
    refine y_ia (pc' := 255) (x := (zV h b 142)) f145_254 hb (by decide) rfl rfl ?_
    refine y_pi (pc' := 258) f145_255 yf_8_114 rfl rfl (ys137 w) (by decide) (Or.inl rfl) rfl ?_
    refine y_s (pc' := 259) (L' := [some (vR (some 137)), some (vR (some b)), some (vI l2)]) (st' := [vR (some 137)]) (h' := (zsetV h 137 0 (zV h b 142))) f145_258 rfl ?_
    refine y_s (pc' := 260) (L' := [some (vR (some 137)), some (vR (some b)), some (vI l2)]) (st' := [vR (some b), vR (some 137)]) (h' := (zsetV h 137 0 (zV h b 142))) f145_259 rfl ?_
    refine y_s (pc' := 263) (L' := [some (vR (some 137)), some (vR (some b)), some (vI l2)]) (st' := [vI 143, vR (some b), vR (some 137)]) (h' := (zsetV h 137 0 (zV h b 142))) f145_260 rfl ?_
    refine y_ia (pc' := 264) (x := (zV (zsetV h 137 0 (zV h b 142)) b 143)) f145_263 hb (by decide) rfl rfl ?_
    refine y_pi (pc' := 267) f145_264 yf_8_154 rfl rfl (ys137 w) (by decide) (Or.inl rfl) rfl ?_
    generalize e_267 : (zsetV (zsetV h 137 0 (zV h b 142)) 137 6 (zV (zsetV h 137 0 (zV h b 142)) b 143)) = h_267
    replace k := k _ e_267
    have w : yWF zl nl h_267 := by rw [← e_267]; exact w
    have hb : zS h_267 b = (1, 152) := by rw [← e_267]; exact hb
    refine y_s (pc' := 268) (L' := [some (vR (some 137)), some (vR (some b)), some (vI l2)]) (st' := [vR (some 137)]) (h' := h_267) f145_267 rfl ?_
    refine y_s (pc' := 269) (L' := [some (vR (some 137)), some (vR (some b)), some (vI l2)]) (st' := [vR (some b), vR (some 137)]) (h' := h_267) f145_268 rfl ?_
    refine y_s (pc' := 272) (L' := [some (vR (some 137)), some (vR (some b)), some (vI l2)]) (st' := [vI 144, vR (some b), vR (some 137)]) (h' := h_267) f145_269 rfl ?_
    refine y_ia (pc' := 273) (x := (zV h_267 b 144)) f145_272 hb (by decide) rfl rfl ?_
    refine y_pi (pc' := 276) f145_273 yf_8_235 rfl rfl (ys137 w) (by decide) (Or.inl rfl) rfl ?_
    refine y_s (pc' := 277) (L' := [some (vR (some 137)), some (vR (some b)), some (vI l2)]) (st' := [vR (some 137)]) (h' := (zsetV h_267 137 8 (zV h_267 b 144))) f145_276 rfl ?_
    refine y_s (pc' := 278) (L' := [some (vR (some 137)), some (vR (some b)), some (vI l2)]) (st' := [vR (some b), vR (some 137)]) (h' := (zsetV h_267 137 8 (zV h_267 b 144))) f145_277 rfl ?_
    refine y_s (pc' := 281) (L' := [some (vR (some 137)), some (vR (some b)), some (vI l2)]) (st' := [vI 145, vR (some b), vR (some 137)]) (h' := (zsetV h_267 137 8 (zV h_267 b 144))) f145_278 rfl ?_
    refine y_ia (pc' := 282) (x := (zV (zsetV h_267 137 8 (zV h_267 b 144)) b 145)) f145_281 hb (by decide) rfl rfl ?_
    refine y_pi (pc' := 285) f145_282 yf_8_286 rfl rfl (ys137 w) (by decide) (Or.inl rfl) rfl ?_
    generalize e_285 : (zsetV (zsetV h_267 137 8 (zV h_267 b 144)) 137 25 (zV (zsetV h_267 137 8 (zV h_267 b 144)) b 145)) = h_285
    replace k := k _ e_285
    have w : yWF zl nl h_285 := by rw [← e_285]; exact w
    have hb : zS h_285 b = (1, 152) := by rw [← e_285]; exact hb
    refine y_s (pc' := 286) (L' := [some (vR (some 137)), some (vR (some b)), some (vI l2)]) (st' := [vR (some 137)]) (h' := h_285) f145_285 rfl ?_
    refine y_s (pc' := 287) (L' := [some (vR (some 137)), some (vR (some b)), some (vI l2)]) (st' := [vR (some b), vR (some 137)]) (h' := h_285) f145_286 rfl ?_
    refine y_s (pc' := 290) (L' := [some (vR (some 137)), some (vR (some b)), some (vI l2)]) (st' := [vI 146, vR (some b), vR (some 137)]) (h' := h_285) f145_287 rfl ?_
    refine y_ia (pc' := 291) (x := (zV h_285 b 146)) f145_290 hb (by decide) rfl rfl ?_
    refine y_pi (pc' := 294) f145_291 yf_8_307 rfl rfl (ys137 w) (by decide) (Or.inl rfl) rfl ?_
    refine y_s (pc' := 295) (L' := [some (vR (some 137)), some (vR (some b)), some (vI l2)]) (st' := [vR (some 137)]) (h' := (zsetV h_285 137 30 (zV h_285 b 146))) f145_294 rfl ?_
    refine y_s (pc' := 296) (L' := [some (vR (some 137)), some (vR (some b)), some (vI l2)]) (st' := [vR (some b), vR (some 137)]) (h' := (zsetV h_285 137 30 (zV h_285 b 146))) f145_295 rfl ?_
    refine y_s (pc' := 299) (L' := [some (vR (some 137)), some (vR (some b)), some (vI l2)]) (st' := [vI 147, vR (some b), vR (some 137)]) (h' := (zsetV h_285 137 30 (zV h_285 b 146))) f145_296 rfl ?_
    refine y_ia (pc' := 300) (x := (zV (zsetV h_285 137 30 (zV h_285 b 146)) b 147)) f145_299 hb (by decide) rfl rfl ?_
    refine y_pi (pc' := 303) f145_300 yf_8_310 rfl rfl (ys137 w) (by decide) (Or.inl rfl) rfl ?_
    generalize e_303 : (zsetV (zsetV h_285 137 30 (zV h_285 b 146)) 137 33 (zV (zsetV h_285 137 30 (zV h_285 b 146)) b 147)) = h_303
    replace k := k _ e_303
    have w : yWF zl nl h_303 := by rw [← e_303]; exact w
    have hb : zS h_303 b = (1, 152) := by rw [← e_303]; exact hb
    refine y_s (pc' := 304) (L' := [some (vR (some 137)), some (vR (some b)), some (vI l2)]) (st' := [vR (some 137)]) (h' := h_303) f145_303 rfl ?_
    refine y_s (pc' := 305) (L' := [some (vR (some 137)), some (vR (some b)), some (vI l2)]) (st' := [vR (some b), vR (some 137)]) (h' := h_303) f145_304 rfl ?_
    refine y_s (pc' := 308) (L' := [some (vR (some 137)), some (vR (some b)), some (vI l2)]) (st' := [vI 148, vR (some b), vR (some 137)]) (h' := h_303) f145_305 rfl ?_
    refine y_ia (pc' := 309) (x := (zV h_303 b 148)) f145_308 hb (by decide) rfl rfl ?_
    refine y_pi (pc' := 312) f145_309 yf_8_110 rfl rfl (ys137 w) (by decide) (Or.inl rfl) rfl ?_
    exact y_ru f145_312 ⟨rfl, k⟩
  · replace k := k.2 c
    refine y_s (pc' := 219) (L' := [some (vR (some 137)), some (vR (some b)), some (vI l2)]) (st' := [vR (some 137)]) (h' := h) f145_218 rfl ?_
    refine y_gr (pc' := 222) f145_219 yf_8_67 rfl rfl (ys137 w) (yp137_31 w) rfl ?_
    refine y_s (pc' := 223) (L' := [some (vR (some 137)), some (vR (some b)), some (vI l2)]) (st' := [vI l2, vR (some 156)]) (h' := h) f145_222 rfl ?_
    refine y_s (pc' := 224) (L' := [some (vR (some 137)), some (vR (some b)), some (vI l2)]) (st' := [vR (some b), vI l2, vR (some 156)]) (h' := h) f145_223 rfl ?_
    refine y_s (pc' := 226) (L' := [some (vR (some 137)), some (vR (some b)), some (vI l2)]) (st' := [vI 122, vR (some b), vI l2, vR (some 156)]) (h' := h) f145_224 rfl ?_
    refine y_s (pc' := 227) (L' := [some (vR (some 137)), some (vR (some b)), some (vI l2)]) (st' := [vI l2, vI 122, vR (some b), vI l2, vR (some 156)]) (h' := h) f145_226 rfl ?_
    refine y_s (pc' := 228) (L' := [some (vR (some 137)), some (vR (some b)), some (vI l2)]) (st' := [vI (zw (122 + l2)), vR (some b), vI l2, vR (some 156)]) (h' := h) f145_227 rfl ?_
    refine y_ia (pc' := 229) (x := (zV h b ((zw (122 + l2))).toNat)) f145_228 hb k.1 rfl rfl ?_
    replace k := k.2
    refine y_is (pc' := 230) (h' := (zsetV h 156 (l2).toNat (zV h b ((zw (122 + l2))).toNat))) f145_229 (ys156 w) (by decide) k.1 rfl rfl ?_
    replace k := k.2
    refine y_s (pc' := 231) (L' := [some (vR (some 137)), some (vR (some b)), some (vI l2)]) (st' := [vR (some 137)]) (h' := (zsetV h 156 (l2).toNat (zV h b ((zw (122 + l2))).toNat))) f145_230 rfl ?_
    refine y_gr (pc' := 234) f145_231 yf_8_70 rfl rfl (ys137 w) (yp137_32 w) rfl ?_
    refine y_s (pc' := 235) (L' := [some (vR (some 137)), some (vR (some b)), some (vI l2)]) (st' := [vI l2, vR (some 157)]) (h' := (zsetV h 156 (l2).toNat (zV h b ((zw (122 + l2))).toNat))) f145_234 rfl ?_
    refine y_s (pc' := 236) (L' := [some (vR (some 137)), some (vR (some b)), some (vI l2)]) (st' := [vR (some b), vI l2, vR (some 157)]) (h' := (zsetV h 156 (l2).toNat (zV h b ((zw (122 + l2))).toNat))) f145_235 rfl ?_
    refine y_s (pc' := 239) (L' := [some (vR (some 137)), some (vR (some b)), some (vI l2)]) (st' := [vI 132, vR (some b), vI l2, vR (some 157)]) (h' := (zsetV h 156 (l2).toNat (zV h b ((zw (122 + l2))).toNat))) f145_236 rfl ?_
    refine y_s (pc' := 240) (L' := [some (vR (some 137)), some (vR (some b)), some (vI l2)]) (st' := [vI l2, vI 132, vR (some b), vI l2, vR (some 157)]) (h' := (zsetV h 156 (l2).toNat (zV h b ((zw (122 + l2))).toNat))) f145_239 rfl ?_
    refine y_s (pc' := 241) (L' := [some (vR (some 137)), some (vR (some b)), some (vI l2)]) (st' := [vI (zw (132 + l2)), vR (some b), vI l2, vR (some 157)]) (h' := (zsetV h 156 (l2).toNat (zV h b ((zw (122 + l2))).toNat))) f145_240 rfl ?_
    refine y_ia (pc' := 242) (x := (zV (zsetV h 156 (l2).toNat (zV h b ((zw (122 + l2))).toNat)) b ((zw (132 + l2))).toNat)) f145_241 hb k.1 rfl rfl ?_
    replace k := k.2
    refine y_is (pc' := 243) (h' := (zsetV (zsetV h 156 (l2).toNat (zV h b ((zw (122 + l2))).toNat)) 157 (l2).toNat (zV (zsetV h 156 (l2).toNat (zV h b ((zw (122 + l2))).toNat)) b ((zw (132 + l2))).toNat))) f145_242 (ys157 w) (by decide) k.1 rfl rfl ?_
    replace k := k.2
    generalize e_243 : (zsetV (zsetV h 156 (l2).toNat (zV h b ((zw (122 + l2))).toNat)) 157 (l2).toNat (zV (zsetV h 156 (l2).toNat (zV h b ((zw (122 + l2))).toNat)) b ((zw (132 + l2))).toNat)) = h_243
    replace k := k _ e_243
    have w : yWF zl nl h_243 := by rw [← e_243]; exact w
    have hb : zS h_243 b = (1, 152) := by rw [← e_243]; exact hb
    refine y_inc (pc' := 246) (L' := [some (vR (some 137)), some (vR (some b)), some (vI (zw (l2 + 1)))]) f145_243 rfl rfl rfl rfl ?_
    refine y_go (pc' := 212) f145_246 rfl ?_
    exact k
/-- HatterTunesModel.goesYear()V -/
theorem E142 {d : Nat} {K : Hp → Prop} (w : yWF zl nl h) (hd : 1 ≤ d) (k : yI (d - 1) 143 [vR (some 137)] h (fun x h' => ZW d prog_10_method_35_code 8 4 [some (vR (some 137)), none, none, none] [vI x] h' (yq 0 (yqU K)))) : yU d 142 [vR (some 137)] h K := by
  refine y_en (L := [some (vR (some 137)), none, none, none]) rfl rfl ?_
  refine y_s (pc' := 1) (L' := [some (vR (some 137)), none, none, none]) (st' := [vR (some 137)]) (h' := h) f142_0 rfl ?_
  refine y_cI (pc' := 4) (as := [vR (some 137)]) (r := []) f142_1 (yzv ym_8_257 rfl (ys137 w) rfl rfl) (by omega) rfl ?_
  exact k
theorem W142_4 {d : Nat} {K : Hp → Prop} (w : yWF zl nl h) {s0 : Int} (k : ZW d prog_10_method_35_code 8 7 [some (vR (some 137)), some (vI s0), some (vI 0), none] [] h (yq 0 (yqU K))) : ZW d prog_10_method_35_code 8 4 [some (vR (some 137)), none, none, none] [vI s0] h (yq 0 (yqU K)) := by
  refine y_sto (pc' := 5) (k := 1) (L' := [some (vR (some 137)), some (vI s0), none, none]) f142_4 rfl rfl rfl rfl rfl rfl ?_
  refine y_s (pc' := 6) (L' := [some (vR (some 137)), some (vI s0), none, none]) (st' := [vI 0]) (h' := h) f142_5 rfl ?_
  refine y_sto (pc' := 7) (k := 2) (L' := [some (vR (some 137)), some (vI s0), some (vI 0), none]) f142_6 rfl rfl rfl rfl rfl rfl ?_
  exact k
theorem W142_7 {d : Nat} {K : Hp → Prop} (w : yWF zl nl h) {l1 : Int} {l2 : Int} {l3 : Option Int} (k : (((zV h 137 0) ≤ l2 → K (zsetV h 137 8 (zw ((zV h 137 8) + 1)))) ∧ (¬ ((zV h 137 0) ≤ l2) → ((l1 ≤ 0 → ((0 ≤ l2 ∧ l2 < 6) ∧ ((0 ≤ l2 ∧ l2 < 6) ∧ ZW d prog_10_method_35_code 8 7 [some (vR (some 137)), some (vI l1), some (vI (zw (l2 + 1))), some (vI (zw ((zw (6 * l2)) + (zrem (zw ((zV h 137 8) + l2)) 6))))] [] (zsetV h 141 (l2).toNat (zw ((zV h 141 (l2).toNat) + 1))) (yq 0 (yqU K))))) ∧ (¬ (l1 ≤ 0) → (l1 ≠ 0 ∧ (((zrem (zV h 137 8) l1) ≠ 0 → ((0 ≤ l2 ∧ l2 < 6) ∧ ((0 ≤ l2 ∧ l2 < 6) ∧ ZW d prog_10_method_35_code 8 7 [some (vR (some 137)), some (vI l1), some (vI (zw (l2 + 1))), some (vI (zw ((zw (6 * l2)) + (zrem (zw ((zV h 137 8) + l2)) 6))))] [] (zsetV h 141 (l2).toNat (zw ((zV h 141 (l2).toNat) + 1))) (yq 0 (yqU K))))) ∧ (¬ ((zrem (zV h 137 8) l1) ≠ 0) → ((0 ≤ (zw ((zw (6 * l2)) + (zrem (zw ((zV h 137 8) + l2)) 6))) ∧ (zw ((zw (6 * l2)) + (zrem (zw ((zV h 137 8) + l2)) 6))) < 36) ∧ ((0 ≤ (zw ((zw (6 * l2)) + (zrem (zw ((zV h 137 8) + l2)) 6))) ∧ (zw ((zw (6 * l2)) + (zrem (zw ((zV h 137 8) + l2)) 6))) < 36) ∧ ((0 ≤ l2 ∧ l2 < 6) ∧ ((0 ≤ l2 ∧ l2 < 6) ∧ (∀ h_70, (zsetV (zsetV h 140 ((zw ((zw (6 * l2)) + (zrem (zw ((zV h 137 8) + l2)) 6)))).toNat (zrem (zw ((zV h 140 ((zw ((zw (6 * l2)) + (zrem (zw ((zV h 137 8) + l2)) 6)))).toNat) + 1)) 10)) 141 (l2).toNat (zw ((zV (zsetV h 140 ((zw ((zw (6 * l2)) + (zrem (zw ((zV h 137 8) + l2)) 6)))).toNat (zrem (zw ((zV h 140 ((zw ((zw (6 * l2)) + (zrem (zw ((zV h 137 8) + l2)) 6)))).toNat) + 1)) 10)) 141 (l2).toNat) + 1))) = h_70 → ZW d prog_10_method_35_code 8 7 [some (vR (some 137)), some (vI l1), some (vI (zw (l2 + 1))), some (vI (zw ((zw (6 * l2)) + (zrem (zw ((zV h 137 8) + l2)) 6))))] [] h_70 (yq 0 (yqU K))))))))))))))) : ZW d prog_10_method_35_code 8 7 [some (vR (some 137)), some (vI l1), some (vI l2), yo l3] [] h (yq 0 (yqU K)) := by
  refine y_s (pc' := 8) (L' := [some (vR (some 137)), some (vI l1), some (vI l2), yo l3]) (st' := [vI l2]) (h' := h) f142_7 rfl ?_
  refine y_s (pc' := 9) (L' := [some (vR (some 137)), some (vI l1), some (vI l2), yo l3]) (st' := [vR (some 137), vI l2]) (h' := h) f142_8 rfl ?_
  refine y_gi (pc' := 12) f142_9 yf_8_114 rfl rfl (ys137 w) rfl ?_
  refine y_ic (pcT := 76) (pc' := 15) (P := (zV h 137 0) ≤ l2) f142_12 rfl rfl rfl (fun c => ?_) (fun c => ?_)
  · replace k := k.1 c
    refine y_s (pc' := 77) (L' := [some (vR (some 137)), some (vI l1), some (vI l2), yo l3]) (st' := [vR (some 137)]) (h' := h) f142_76 rfl ?_
    refine y_s (pc' := 78) (L' := [some (vR (some 137)), some (vI l1), some (vI l2), yo l3]) (st' := [vR (some 137), vR (some 137)]) (h' := h) f142_77 rfl ?_
    refine y_gi (pc' := 81) f142_78 yf_8_235 rfl rfl (ys137 w) rfl ?_
    refine y_s (pc' := 82) (L' := [some (vR (some 137)), some (vI l1), some (vI l2), yo l3]) (st' := [vI 1, vI (zV h 137 8), vR (some 137)]) (h' := h) f142_81 rfl ?_
    refine y_s (pc' := 83) (L' := [some (vR (some 137)), some (vI l1), some (vI l2), yo l3]) (st' := [vI (zw ((zV h 137 8) + 1)), vR (some 137)]) (h' := h) f142_82 rfl ?_
    refine y_pi (pc' := 86) f142_83 yf_8_235 rfl rfl (ys137 w) (by decide) (Or.inl rfl) rfl ?_
    exact y_ru f142_86 ⟨rfl, k⟩
  · replace k := k.2 c
    refine y_s (pc' := 17) (L' := [some (vR (some 137)), some (vI l1), some (vI l2), yo l3]) (st' := [vI 6]) (h' := h) f142_15 rfl ?_
    refine y_s (pc' := 18) (L' := [some (vR (some 137)), some (vI l1), some (vI l2), yo l3]) (st' := [vI l2, vI 6]) (h' := h) f142_17 rfl ?_
    refine y_s (pc' := 19) (L' := [some (vR (some 137)), some (vI l1), some (vI l2), yo l3]) (st' := [vI (zw (6 * l2))]) (h' := h) f142_18 rfl ?_
    refine y_s (pc' := 20) (L' := [some (vR (some 137)), some (vI l1), some (vI l2), yo l3]) (st' := [vR (some 137), vI (zw (6 * l2))]) (h' := h) f142_19 rfl ?_
    refine y_gi (pc' := 23) f142_20 yf_8_235 rfl rfl (ys137 w) rfl ?_
    refine y_s (pc' := 24) (L' := [some (vR (some 137)), some (vI l1), some (vI l2), yo l3]) (st' := [vI l2, vI (zV h 137 8), vI (zw (6 * l2))]) (h' := h) f142_23 rfl ?_
    refine y_s (pc' := 25) (L' := [some (vR (some 137)), some (vI l1), some (vI l2), yo l3]) (st' := [vI (zw ((zV h 137 8) + l2)), vI (zw (6 * l2))]) (h' := h) f142_24 rfl ?_
    refine y_s (pc' := 27) (L' := [some (vR (some 137)), some (vI l1), some (vI l2), yo l3]) (st' := [vI 6, vI (zw ((zV h 137 8) + l2)), vI (zw (6 * l2))]) (h' := h) f142_25 rfl ?_
    refine y_rm (pc' := 28) f142_27 (by decide) rfl ?_
    refine y_s (pc' := 29) (L' := [some (vR (some 137)), some (vI l1), some (vI l2), yo l3]) (st' := [vI (zw ((zw (6 * l2)) + (zrem (zw ((zV h 137 8) + l2)) 6)))]) (h' := h) f142_28 rfl ?_
    refine y_sto (pc' := 30) (k := 3) (L' := [some (vR (some 137)), some (vI l1), some (vI l2), some (vI (zw ((zw (6 * l2)) + (zrem (zw ((zV h 137 8) + l2)) 6))))]) f142_29 rfl rfl rfl rfl rfl rfl ?_
    refine y_s (pc' := 31) (L' := [some (vR (some 137)), some (vI l1), some (vI l2), some (vI (zw ((zw (6 * l2)) + (zrem (zw ((zV h 137 8) + l2)) 6))))]) (st' := [vI l1]) (h' := h) f142_30 rfl ?_
    refine y_if (pcT := 60) (pc' := 34) (P := l1 ≤ 0) f142_31 rfl rfl rfl (fun c => ?_) (fun c => ?_)
    · replace k := k.1 c
      refine y_s (pc' := 61) (L' := [some (vR (some 137)), some (vI l1), some (vI l2), some (vI (zw ((zw (6 * l2)) + (zrem (zw ((zV h 137 8) + l2)) 6))))]) (st' := [vR (some 137)]) (h' := h) f142_60 rfl ?_
      refine y_gr (pc' := 64) f142_61 yf_8_21 rfl rfl (ys137 w) (yp137_4 w) rfl ?_
      refine y_s (pc' := 65) (L' := [some (vR (some 137)), some (vI l1), some (vI l2), some (vI (zw ((zw (6 * l2)) + (zrem (zw ((zV h 137 8) + l2)) 6))))]) (st' := [vI l2, vR (some 141)]) (h' := h) f142_64 rfl ?_
      refine y_s (pc' := 66) (L' := [some (vR (some 137)), some (vI l1), some (vI l2), some (vI (zw ((zw (6 * l2)) + (zrem (zw ((zV h 137 8) + l2)) 6))))]) (st' := [vI l2, vR (some 141), vI l2, vR (some 141)]) (h' := h) f142_65 rfl ?_
      refine y_ia (pc' := 67) (x := (zV h 141 (l2).toNat)) f142_66 (ys141 w) k.1 rfl rfl ?_
      replace k := k.2
      refine y_s (pc' := 68) (L' := [some (vR (some 137)), some (vI l1), some (vI l2), some (vI (zw ((zw (6 * l2)) + (zrem (zw ((zV h 137 8) + l2)) 6))))]) (st' := [vI 1, vI (zV h 141 (l2).toNat), vI l2, vR (some 141)]) (h' := h) f142_67 rfl ?_
      refine y_s (pc' := 69) (L' := [some (vR (some 137)), some (vI l1), some (vI l2), some (vI (zw ((zw (6 * l2)) + (zrem (zw ((zV h 137 8) + l2)) 6))))]) (st' := [vI (zw ((zV h 141 (l2).toNat) + 1)), vI l2, vR (some 141)]) (h' := h) f142_68 rfl ?_
      refine y_is (pc' := 70) (h' := (zsetV h 141 (l2).toNat (zw ((zV h 141 (l2).toNat) + 1)))) f142_69 (ys141 w) (by decide) k.1 rfl rfl ?_
      replace k := k.2
      refine y_inc (pc' := 73) (L' := [some (vR (some 137)), some (vI l1), some (vI (zw (l2 + 1))), some (vI (zw ((zw (6 * l2)) + (zrem (zw ((zV h 137 8) + l2)) 6))))]) f142_70 rfl rfl rfl rfl ?_
      refine y_go (pc' := 7) f142_73 rfl ?_
      exact k
    · replace k := k.2 c
      refine y_s (pc' := 35) (L' := [some (vR (some 137)), some (vI l1), some (vI l2), some (vI (zw ((zw (6 * l2)) + (zrem (zw ((zV h 137 8) + l2)) 6))))]) (st' := [vR (some 137)]) (h' := h) f142_34 rfl ?_
      refine y_gi (pc' := 38) f142_35 yf_8_235 rfl rfl (ys137 w) rfl ?_
      refine y_s (pc' := 39) (L' := [some (vR (some 137)), some (vI l1), some (vI l2), some (vI (zw ((zw (6 * l2)) + (zrem (zw ((zV h 137 8) + l2)) 6))))]) (st' := [vI l1, vI (zV h 137 8)]) (h' := h) f142_38 rfl ?_
      refine y_rm (pc' := 40) f142_39 k.1 rfl ?_
      replace k := k.2
      refine y_if (pcT := 60) (pc' := 43) (P := (zrem (zV h 137 8) l1) ≠ 0) f142_40 rfl rfl rfl (fun c => ?_) (fun c => ?_)
      · replace k := k.1 c
        refine y_s (pc' := 61) (L' := [some (vR (some 137)), some (vI l1), some (vI l2), some (vI (zw ((zw (6 * l2)) + (zrem (zw ((zV h 137 8) + l2)) 6))))]) (st' := [vR (some 137)]) (h' := h) f142_60 rfl ?_
        refine y_gr (pc' := 64) f142_61 yf_8_21 rfl rfl (ys137 w) (yp137_4 w) rfl ?_
        refine y_s (pc' := 65) (L' := [some (vR (some 137)), some (vI l1), some (vI l2), some (vI (zw ((zw (6 * l2)) + (zrem (zw ((zV h 137 8) + l2)) 6))))]) (st' := [vI l2, vR (some 141)]) (h' := h) f142_64 rfl ?_
        refine y_s (pc' := 66) (L' := [some (vR (some 137)), some (vI l1), some (vI l2), some (vI (zw ((zw (6 * l2)) + (zrem (zw ((zV h 137 8) + l2)) 6))))]) (st' := [vI l2, vR (some 141), vI l2, vR (some 141)]) (h' := h) f142_65 rfl ?_
        refine y_ia (pc' := 67) (x := (zV h 141 (l2).toNat)) f142_66 (ys141 w) k.1 rfl rfl ?_
        replace k := k.2
        refine y_s (pc' := 68) (L' := [some (vR (some 137)), some (vI l1), some (vI l2), some (vI (zw ((zw (6 * l2)) + (zrem (zw ((zV h 137 8) + l2)) 6))))]) (st' := [vI 1, vI (zV h 141 (l2).toNat), vI l2, vR (some 141)]) (h' := h) f142_67 rfl ?_
        refine y_s (pc' := 69) (L' := [some (vR (some 137)), some (vI l1), some (vI l2), some (vI (zw ((zw (6 * l2)) + (zrem (zw ((zV h 137 8) + l2)) 6))))]) (st' := [vI (zw ((zV h 141 (l2).toNat) + 1)), vI l2, vR (some 141)]) (h' := h) f142_68 rfl ?_
        refine y_is (pc' := 70) (h' := (zsetV h 141 (l2).toNat (zw ((zV h 141 (l2).toNat) + 1)))) f142_69 (ys141 w) (by decide) k.1 rfl rfl ?_
        replace k := k.2
        refine y_inc (pc' := 73) (L' := [some (vR (some 137)), some (vI l1), some (vI (zw (l2 + 1))), some (vI (zw ((zw (6 * l2)) + (zrem (zw ((zV h 137 8) + l2)) 6))))]) f142_70 rfl rfl rfl rfl ?_
        refine y_go (pc' := 7) f142_73 rfl ?_
        exact k
      · replace k := k.2 c
        refine y_s (pc' := 44) (L' := [some (vR (some 137)), some (vI l1), some (vI l2), some (vI (zw ((zw (6 * l2)) + (zrem (zw ((zV h 137 8) + l2)) 6))))]) (st' := [vR (some 137)]) (h' := h) f142_43 rfl ?_
        refine y_gr (pc' := 47) f142_44 yf_8_18 rfl rfl (ys137 w) (yp137_3 w) rfl ?_
        refine y_s (pc' := 48) (L' := [some (vR (some 137)), some (vI l1), some (vI l2), some (vI (zw ((zw (6 * l2)) + (zrem (zw ((zV h 137 8) + l2)) 6))))]) (st' := [vI (zw ((zw (6 * l2)) + (zrem (zw ((zV h 137 8) + l2)) 6))), vR (some 140)]) (h' := h) f142_47 rfl ?_
        refine y_s (pc' := 49) (L' := [some (vR (some 137)), some (vI l1), some (vI l2), some (vI (zw ((zw (6 * l2)) + (zrem (zw ((zV h 137 8) + l2)) 6))))]) (st' := [vR (some 137), vI (zw ((zw (6 * l2)) + (zrem (zw ((zV h 137 8) + l2)) 6))), vR (some 140)]) (h' := h) f142_48 rfl ?_
        refine y_gr (pc' := 52) f142_49 yf_8_18 rfl rfl (ys137 w) (yp137_3 w) rfl ?_
        refine y_s (pc' := 53) (L' := [some (vR (some 137)), some (vI l1), some (vI l2), some (vI (zw ((zw (6 * l2)) + (zrem (zw ((zV h 137 8) + l2)) 6))))]) (st' := [vI (zw ((zw (6 * l2)) + (zrem (zw ((zV h 137 8) + l2)) 6))), vR (some 140), vI (zw ((zw (6 * l2)) + (zrem (zw ((zV h 137 8) + l2)) 6))), vR (some 140)]) (h' := h) f142_52 rfl ?_
        refine y_ia (pc' := 54) (x := (zV h 140 ((zw ((zw (6 * l2)) + (zrem (zw ((zV h 137 8) + l2)) 6)))).toNat)) f142_53 (ys140 w) k.1 rfl rfl ?_
        replace k := k.2
        refine y_s (pc' := 55) (L' := [some (vR (some 137)), some (vI l1), some (vI l2), some (vI (zw ((zw (6 * l2)) + (zrem (zw ((zV h 137 8) + l2)) 6))))]) (st' := [vI 1, vI (zV h 140 ((zw ((zw (6 * l2)) + (zrem (zw ((zV h 137 8) + l2)) 6)))).toNat), vI (zw ((zw (6 * l2)) + (zrem (zw ((zV h 137 8) + l2)) 6))), vR (some 140)]) (h' := h) f142_54 rfl ?_
        refine y_s (pc' := 56) (L' := [some (vR (some 137)), some (vI l1), some (vI l2), some (vI (zw ((zw (6 * l2)) + (zrem (zw ((zV h 137 8) + l2)) 6))))]) (st' := [vI (zw ((zV h 140 ((zw ((zw (6 * l2)) + (zrem (zw ((zV h 137 8) + l2)) 6)))).toNat) + 1)), vI (zw ((zw (6 * l2)) + (zrem (zw ((zV h 137 8) + l2)) 6))), vR (some 140)]) (h' := h) f142_55 rfl ?_
        refine y_s (pc' := 58) (L' := [some (vR (some 137)), some (vI l1), some (vI l2), some (vI (zw ((zw (6 * l2)) + (zrem (zw ((zV h 137 8) + l2)) 6))))]) (st' := [vI 10, vI (zw ((zV h 140 ((zw ((zw (6 * l2)) + (zrem (zw ((zV h 137 8) + l2)) 6)))).toNat) + 1)), vI (zw ((zw (6 * l2)) + (zrem (zw ((zV h 137 8) + l2)) 6))), vR (some 140)]) (h' := h) f142_56 rfl ?_
        refine y_rm (pc' := 59) f142_58 (by decide) rfl ?_
        refine y_is (pc' := 60) (h' := (zsetV h 140 ((zw ((zw (6 * l2)) + (zrem (zw ((zV h 137 8) + l2)) 6)))).toNat (zrem (zw ((zV h 140 ((zw ((zw (6 * l2)) + (zrem (zw ((zV h 137 8) + l2)) 6)))).toNat) + 1)) 10))) f142_59 (ys140 w) (by decide) k.1 rfl rfl ?_
        replace k := k.2
        refine y_s (pc' := 61) (L' := [some (vR (some 137)), some (vI l1), some (vI l2), some (vI (zw ((zw (6 * l2)) + (zrem (zw ((zV h 137 8) + l2)) 6))))]) (st' := [vR (some 137)]) (h' := (zsetV h 140 ((zw ((zw (6 * l2)) + (zrem (zw ((zV h 137 8) + l2)) 6)))).toNat (zrem (zw ((zV h 140 ((zw ((zw (6 * l2)) + (zrem (zw ((zV h 137 8) + l2)) 6)))).toNat) + 1)) 10))) f142_60 rfl ?_
        refine y_gr (pc' := 64) f142_61 yf_8_21 rfl rfl (ys137 w) (yp137_4 w) rfl ?_
        refine y_s (pc' := 65) (L' := [some (vR (some 137)), some (vI l1), some (vI l2), some (vI (zw ((zw (6 * l2)) + (zrem (zw ((zV h 137 8) + l2)) 6))))]) (st' := [vI l2, vR (some 141)]) (h' := (zsetV h 140 ((zw ((zw (6 * l2)) + (zrem (zw ((zV h 137 8) + l2)) 6)))).toNat (zrem (zw ((zV h 140 ((zw ((zw (6 * l2)) + (zrem (zw ((zV h 137 8) + l2)) 6)))).toNat) + 1)) 10))) f142_64 rfl ?_
        refine y_s (pc' := 66) (L' := [some (vR (some 137)), some (vI l1), some (vI l2), some (vI (zw ((zw (6 * l2)) + (zrem (zw ((zV h 137 8) + l2)) 6))))]) (st' := [vI l2, vR (some 141), vI l2, vR (some 141)]) (h' := (zsetV h 140 ((zw ((zw (6 * l2)) + (zrem (zw ((zV h 137 8) + l2)) 6)))).toNat (zrem (zw ((zV h 140 ((zw ((zw (6 * l2)) + (zrem (zw ((zV h 137 8) + l2)) 6)))).toNat) + 1)) 10))) f142_65 rfl ?_
        refine y_ia (pc' := 67) (x := (zV (zsetV h 140 ((zw ((zw (6 * l2)) + (zrem (zw ((zV h 137 8) + l2)) 6)))).toNat (zrem (zw ((zV h 140 ((zw ((zw (6 * l2)) + (zrem (zw ((zV h 137 8) + l2)) 6)))).toNat) + 1)) 10)) 141 (l2).toNat)) f142_66 (ys141 w) k.1 rfl rfl ?_
        replace k := k.2
        refine y_s (pc' := 68) (L' := [some (vR (some 137)), some (vI l1), some (vI l2), some (vI (zw ((zw (6 * l2)) + (zrem (zw ((zV h 137 8) + l2)) 6))))]) (st' := [vI 1, vI (zV (zsetV h 140 ((zw ((zw (6 * l2)) + (zrem (zw ((zV h 137 8) + l2)) 6)))).toNat (zrem (zw ((zV h 140 ((zw ((zw (6 * l2)) + (zrem (zw ((zV h 137 8) + l2)) 6)))).toNat) + 1)) 10)) 141 (l2).toNat), vI l2, vR (some 141)]) (h' := (zsetV h 140 ((zw ((zw (6 * l2)) + (zrem (zw ((zV h 137 8) + l2)) 6)))).toNat (zrem (zw ((zV h 140 ((zw ((zw (6 * l2)) + (zrem (zw ((zV h 137 8) + l2)) 6)))).toNat) + 1)) 10))) f142_67 rfl ?_
        refine y_s (pc' := 69) (L' := [some (vR (some 137)), some (vI l1), some (vI l2), some (vI (zw ((zw (6 * l2)) + (zrem (zw ((zV h 137 8) + l2)) 6))))]) (st' := [vI (zw ((zV (zsetV h 140 ((zw ((zw (6 * l2)) + (zrem (zw ((zV h 137 8) + l2)) 6)))).toNat (zrem (zw ((zV h 140 ((zw ((zw (6 * l2)) + (zrem (zw ((zV h 137 8) + l2)) 6)))).toNat) + 1)) 10)) 141 (l2).toNat) + 1)), vI l2, vR (some 141)]) (h' := (zsetV h 140 ((zw ((zw (6 * l2)) + (zrem (zw ((zV h 137 8) + l2)) 6)))).toNat (zrem (zw ((zV h 140 ((zw ((zw (6 * l2)) + (zrem (zw ((zV h 137 8) + l2)) 6)))).toNat) + 1)) 10))) f142_68 rfl ?_
        refine y_is (pc' := 70) (h' := (zsetV (zsetV h 140 ((zw ((zw (6 * l2)) + (zrem (zw ((zV h 137 8) + l2)) 6)))).toNat (zrem (zw ((zV h 140 ((zw ((zw (6 * l2)) + (zrem (zw ((zV h 137 8) + l2)) 6)))).toNat) + 1)) 10)) 141 (l2).toNat (zw ((zV (zsetV h 140 ((zw ((zw (6 * l2)) + (zrem (zw ((zV h 137 8) + l2)) 6)))).toNat (zrem (zw ((zV h 140 ((zw ((zw (6 * l2)) + (zrem (zw ((zV h 137 8) + l2)) 6)))).toNat) + 1)) 10)) 141 (l2).toNat) + 1)))) f142_69 (ys141 w) (by decide) k.1 rfl rfl ?_
        replace k := k.2
        generalize e_70 : (zsetV (zsetV h 140 ((zw ((zw (6 * l2)) + (zrem (zw ((zV h 137 8) + l2)) 6)))).toNat (zrem (zw ((zV h 140 ((zw ((zw (6 * l2)) + (zrem (zw ((zV h 137 8) + l2)) 6)))).toNat) + 1)) 10)) 141 (l2).toNat (zw ((zV (zsetV h 140 ((zw ((zw (6 * l2)) + (zrem (zw ((zV h 137 8) + l2)) 6)))).toNat (zrem (zw ((zV h 140 ((zw ((zw (6 * l2)) + (zrem (zw ((zV h 137 8) + l2)) 6)))).toNat) + 1)) 10)) 141 (l2).toNat) + 1))) = h_70
        replace k := k _ e_70
        have w : yWF zl nl h_70 := by rw [← e_70]; exact w
        refine y_inc (pc' := 73) (L' := [some (vR (some 137)), some (vI l1), some (vI (zw (l2 + 1))), some (vI (zw ((zw (6 * l2)) + (zrem (zw ((zV h 137 8) + l2)) 6))))]) f142_70 rfl rfl rfl rfl ?_
        refine y_go (pc' := 7) f142_73 rfl ?_
        exact k
/-- HatterTunesModel.allNotes()I -/
theorem E185 {d : Nat} {K : Int → Hp → Prop} (w : yWF zl nl h) (k : ZW d prog_10_method_34_code 8 4 [some (vR (some 137)), some (vI 0), some (vI 0), none] [] h (yq 1 (yqI K))) : yI d 185 [vR (some 137)] h K := by
  refine y_en (L := [some (vR (some 137)), none, none, none]) rfl rfl ?_
  refine y_s (pc' := 1) (L' := [some (vR (some 137)), none, none, none]) (st' := [vI 0]) (h' := h) f185_0 rfl ?_
  refine y_sto (pc' := 2) (k := 1) (L' := [some (vR (some 137)), some (vI 0), none, none]) f185_1 rfl rfl rfl rfl rfl rfl ?_
  refine y_s (pc' := 3) (L' := [some (vR (some 137)), some (vI 0), none, none]) (st' := [vI 0]) (h' := h) f185_2 rfl ?_
  refine y_sto (pc' := 4) (k := 2) (L' := [some (vR (some 137)), some (vI 0), some (vI 0), none]) f185_3 rfl rfl rfl rfl rfl rfl ?_
  exact k
theorem W185_4 {d : Nat} {K : Int → Hp → Prop} (w : yWF zl nl h) {l1 : Int} {l2 : Int} {l3 : Option Int} (k : (((zV h 137 0) ≤ l2 → K l1 h) ∧ (¬ ((zV h 137 0) ≤ l2) → ZW d prog_10_method_34_code 8 14 [some (vR (some 137)), some (vI l1), some (vI l2), some (vI 0)] [] h (yq 1 (yqI K))))) : ZW d prog_10_method_34_code 8 4 [some (vR (some 137)), some (vI l1), some (vI l2), yo l3] [] h (yq 1 (yqI K)) := by
  refine y_s (pc' := 5) (L' := [some (vR (some 137)), some (vI l1), some (vI l2), yo l3]) (st' := [vI l2]) (h' := h) f185_4 rfl ?_
  refine y_s (pc' := 6) (L' := [some (vR (some 137)), some (vI l1), some (vI l2), yo l3]) (st' := [vR (some 137), vI l2]) (h' := h) f185_5 rfl ?_
  refine y_gi (pc' := 9) f185_6 yf_8_114 rfl rfl (ys137 w) rfl ?_
  refine y_ic (pcT := 41) (pc' := 12) (P := (zV h 137 0) ≤ l2) f185_9 rfl rfl rfl (fun c => ?_) (fun c => ?_)
  · replace k := k.1 c
    refine y_s (pc' := 42) (L' := [some (vR (some 137)), some (vI l1), some (vI l2), yo l3]) (st' := [vI l1]) (h' := h) f185_41 rfl ?_
    exact y_ri f185_42 ⟨rfl, k⟩
  · replace k := k.2 c
    refine y_s (pc' := 13) (L' := [some (vR (some 137)), some (vI l1), some (vI l2), yo l3]) (st' := [vI 0]) (h' := h) f185_12 rfl ?_
    refine y_sto (pc' := 14) (k := 3) (L' := [some (vR (some 137)), some (vI l1), some (vI l2), some (vI 0)]) f185_13 rfl rfl rfl rfl rfl rfl ?_
    exact k
theorem W185_14 {d : Nat} {K : Int → Hp → Prop} (w : yWF zl nl h) {l1 : Int} {l2 : Int} {l3 : Int} (hd : 1 ≤ d) (k : ((6 ≤ l3 → ZW d prog_10_method_34_code 8 4 [some (vR (some 137)), some (vI l1), some (vI (zw (l2 + 1))), some (vI l3)] [] h (yq 1 (yqI K))) ∧ (¬ (6 ≤ l3) → yI (d - 1) 133 [vR (some 137), vI l2, vI l3] h (fun x h' => ZW d prog_10_method_34_code 8 27 [some (vR (some 137)), some (vI l1), some (vI l2), some (vI l3)] [vI x, vI l1] h' (yq 1 (yqI K)))))) : ZW d prog_10_method_34_code 8 14 [some (vR (some 137)), some (vI l1), some (vI l2), some (vI l3)] [] h (yq 1 (yqI K)) := by
  refine y_s (pc' := 15) (L' := [some (vR (some 137)), some (vI l1), some (vI l2), some (vI l3)]) (st' := [vI l3]) (h' := h) f185_14 rfl ?_
  refine y_s (pc' := 17) (L' := [some (vR (some 137)), some (vI l1), some (vI l2), some (vI l3)]) (st' := [vI 6, vI l3]) (h' := h) f185_15 rfl ?_
  refine y_ic (pcT := 35) (pc' := 20) (P := 6 ≤ l3) f185_17 rfl rfl rfl (fun c => ?_) (fun c => ?_)
  · replace k := k.1 c
    refine y_inc (pc' := 38) (L' := [some (vR (some 137)), some (vI l1), some (vI (zw (l2 + 1))), some (vI l3)]) f185_35 rfl rfl rfl rfl ?_
    refine y_go (pc' := 4) f185_38 rfl ?_
    exact k
  · replace k := k.2 c
    refine y_s (pc' := 21) (L' := [some (vR (some 137)), some (vI l1), some (vI l2), some (vI l3)]) (st' := [vI l1]) (h' := h) f185_20 rfl ?_
    refine y_s (pc' := 22) (L' := [some (vR (some 137)), some (vI l1), some (vI l2), some (vI l3)]) (st' := [vR (some 137), vI l1]) (h' := h) f185_21 rfl ?_
    refine y_s (pc' := 23) (L' := [some (vR (some 137)), some (vI l1), some (vI l2), some (vI l3)]) (st' := [vI l2, vR (some 137), vI l1]) (h' := h) f185_22 rfl ?_
    refine y_s (pc' := 24) (L' := [some (vR (some 137)), some (vI l1), some (vI l2), some (vI l3)]) (st' := [vI l3, vI l2, vR (some 137), vI l1]) (h' := h) f185_23 rfl ?_
    refine y_cI (pc' := 27) (as := [vR (some 137), vI l2, vI l3]) (r := [vI l1]) f185_24 (yzv ym_8_128 rfl (ys137 w) rfl rfl) (by omega) rfl ?_
    exact k
theorem W185_27 {d : Nat} {K : Int → Hp → Prop} (w : yWF zl nl h) {l1 : Int} {l2 : Int} {l3 : Int} {s0 : Int} {s1 : Int} (k : ZW d prog_10_method_34_code 8 14 [some (vR (some 137)), some (vI (zw (s0 + s1))), some (vI l2), some (vI (zw (l3 + 1)))] [] h (yq 1 (yqI K))) : ZW d prog_10_method_34_code 8 27 [some (vR (some 137)), some (vI l1), some (vI l2), some (vI l3)] [vI s1, vI s0] h (yq 1 (yqI K)) := by
  refine y_s (pc' := 28) (L' := [some (vR (some 137)), some (vI l1), some (vI l2), some (vI l3)]) (st' := [vI (zw (s0 + s1))]) (h' := h) f185_27 rfl ?_
  refine y_sto (pc' := 29) (k := 1) (L' := [some (vR (some 137)), some (vI (zw (s0 + s1))), some (vI l2), some (vI l3)]) f185_28 rfl rfl rfl rfl rfl rfl ?_
  refine y_inc (pc' := 32) (L' := [some (vR (some 137)), some (vI (zw (s0 + s1))), some (vI l2), some (vI (zw (l3 + 1)))]) f185_29 rfl rfl rfl rfl ?_
  refine y_go (pc' := 14) f185_32 rfl ?_
  exact k
/-- HatterTunesModel.allHeard()I -/
theorem E184 {d : Nat} {K : Int → Hp → Prop} (w : yWF zl nl h) (k : ZW d prog_10_method_33_code 8 4 [some (vR (some 137)), some (vI 0), some (vI 0)] [] h (yq 1 (yqI K))) : yI d 184 [vR (some 137)] h K := by
  refine y_en (L := [some (vR (some 137)), none, none]) rfl rfl ?_
  refine y_s (pc' := 1) (L' := [some (vR (some 137)), none, none]) (st' := [vI 0]) (h' := h) f184_0 rfl ?_
  refine y_sto (pc' := 2) (k := 1) (L' := [some (vR (some 137)), some (vI 0), none]) f184_1 rfl rfl rfl rfl rfl rfl ?_
  refine y_s (pc' := 3) (L' := [some (vR (some 137)), some (vI 0), none]) (st' := [vI 0]) (h' := h) f184_2 rfl ?_
  refine y_sto (pc' := 4) (k := 2) (L' := [some (vR (some 137)), some (vI 0), some (vI 0)]) f184_3 rfl rfl rfl rfl rfl rfl ?_
  exact k
theorem W184_4 {d : Nat} {K : Int → Hp → Prop} (w : yWF zl nl h) {l1 : Int} {l2 : Int} (hd : 1 ≤ d) (k : (((zV h 137 0) ≤ l2 → K l1 h) ∧ (¬ ((zV h 137 0) ≤ l2) → yI (d - 1) 146 [vR (some 137), vI l2] h (fun x h' => ZW d prog_10_method_33_code 8 17 [some (vR (some 137)), some (vI l1), some (vI l2)] [vI x] h' (yq 1 (yqI K)))))) : ZW d prog_10_method_33_code 8 4 [some (vR (some 137)), some (vI l1), some (vI l2)] [] h (yq 1 (yqI K)) := by
  refine y_s (pc' := 5) (L' := [some (vR (some 137)), some (vI l1), some (vI l2)]) (st' := [vI l2]) (h' := h) f184_4 rfl ?_
  refine y_s (pc' := 6) (L' := [some (vR (some 137)), some (vI l1), some (vI l2)]) (st' := [vR (some 137), vI l2]) (h' := h) f184_5 rfl ?_
  refine y_gi (pc' := 9) f184_6 yf_8_114 rfl rfl (ys137 w) rfl ?_
  refine y_ic (pcT := 34) (pc' := 12) (P := (zV h 137 0) ≤ l2) f184_9 rfl rfl rfl (fun c => ?_) (fun c => ?_)
  · replace k := k.1 c
    refine y_s (pc' := 35) (L' := [some (vR (some 137)), some (vI l1), some (vI l2)]) (st' := [vI l1]) (h' := h) f184_34 rfl ?_
    exact y_ri f184_35 ⟨rfl, k⟩
  · replace k := k.2 c
    refine y_s (pc' := 13) (L' := [some (vR (some 137)), some (vI l1), some (vI l2)]) (st' := [vR (some 137)]) (h' := h) f184_12 rfl ?_
    refine y_s (pc' := 14) (L' := [some (vR (some 137)), some (vI l1), some (vI l2)]) (st' := [vI l2, vR (some 137)]) (h' := h) f184_13 rfl ?_
    refine y_cI (pc' := 17) (as := [vR (some 137), vI l2]) (r := []) f184_14 (yzv ym_8_142 rfl (ys137 w) rfl rfl) (by omega) rfl ?_
    exact k
theorem W184_17 {d : Nat} {K : Int → Hp → Prop} (w : yWF zl nl h) {l1 : Int} {l2 : Int} {s0 : Int} (k : ((s0 = (-5) → ZW d prog_10_method_33_code 8 4 [some (vR (some 137)), some (vI l1), some (vI (zw (l2 + 1)))] [] h (yq 1 (yqI K))) ∧ (¬ (s0 = (-5)) → ZW d prog_10_method_33_code 8 4 [some (vR (some 137)), some (vI (zor l1 (zshl 1 l2))), some (vI (zw (l2 + 1)))] [] h (yq 1 (yqI K))))) : ZW d prog_10_method_33_code 8 17 [some (vR (some 137)), some (vI l1), some (vI l2)] [vI s0] h (yq 1 (yqI K)) := by
  refine y_s (pc' := 19) (L' := [some (vR (some 137)), some (vI l1), some (vI l2)]) (st' := [vI (-5), vI s0]) (h' := h) f184_17 rfl ?_
  refine y_ic (pcT := 28) (pc' := 22) (P := s0 = (-5)) f184_19 rfl rfl rfl (fun c => ?_) (fun c => ?_)
  · replace k := k.1 c
    refine y_inc (pc' := 31) (L' := [some (vR (some 137)), some (vI l1), some (vI (zw (l2 + 1)))]) f184_28 rfl rfl rfl rfl ?_
    refine y_go (pc' := 4) f184_31 rfl ?_
    exact k
  · replace k := k.2 c
    refine y_s (pc' := 23) (L' := [some (vR (some 137)), some (vI l1), some (vI l2)]) (st' := [vI l1]) (h' := h) f184_22 rfl ?_
    refine y_s (pc' := 24) (L' := [some (vR (some 137)), some (vI l1), some (vI l2)]) (st' := [vI 1, vI l1]) (h' := h) f184_23 rfl ?_
    refine y_s (pc' := 25) (L' := [some (vR (some 137)), some (vI l1), some (vI l2)]) (st' := [vI l2, vI 1, vI l1]) (h' := h) f184_24 rfl ?_
    refine y_s (pc' := 26) (L' := [some (vR (some 137)), some (vI l1), some (vI l2)]) (st' := [vI (zshl 1 l2), vI l1]) (h' := h) f184_25 rfl ?_
    refine y_s (pc' := 27) (L' := [some (vR (some 137)), some (vI l1), some (vI l2)]) (st' := [vI (zor l1 (zshl 1 l2))]) (h' := h) f184_26 rfl ?_
    refine y_sto (pc' := 28) (k := 1) (L' := [some (vR (some 137)), some (vI (zor l1 (zshl 1 l2))), some (vI l2)]) f184_27 rfl rfl rfl rfl rfl rfl ?_
    refine y_inc (pc' := 31) (L' := [some (vR (some 137)), some (vI (zor l1 (zshl 1 l2))), some (vI (zw (l2 + 1)))]) f184_28 rfl rfl rfl rfl ?_
    refine y_go (pc' := 4) f184_31 rfl ?_
    exact k
/-- HatterTunesModel.share(II)I -/
theorem E188 {d : Nat} {K : Int → Hp → Prop} (w : yWF zl nl h) {x0 : Int} {x1 : Int} (hd : 1 ≤ d) (k : yU (d - 1) 147 [vR (some 137), vI x0, vR (some 163)] h (fun h' => ZW d prog_10_method_40_code 8 9 [some (vR (some 137)), some (vI x0), some (vI x1), none, none, none] [] h' (yq 1 (yqI K)))) : yI d 188 [vR (some 137), vI x0, vI x1] h K := by
  refine y_en (L := [some (vR (some 137)), some (vI x0), some (vI x1), none, none, none]) rfl rfl ?_
  refine y_s (pc' := 1) (L' := [some (vR (some 137)), some (vI x0), some (vI x1), none, none, none]) (st' := [vR (some 137)]) (h' := h) f188_0 rfl ?_
  refine y_s (pc' := 2) (L' := [some (vR (some 137)), some (vI x0), some (vI x1), none, none, none]) (st' := [vI x0, vR (some 137)]) (h' := h) f188_1 rfl ?_
  refine y_s (pc' := 3) (L' := [some (vR (some 137)), some (vI x0), some (vI x1), none, none, none]) (st' := [vR (some 137), vI x0, vR (some 137)]) (h' := h) f188_2 rfl ?_
  refine y_gr (pc' := 6) f188_3 yf_8_88 rfl rfl (ys137 w) (yp137_41 w) rfl ?_
  refine y_cU (pc' := 9) (as := [vR (some 137), vI x0, vR (some 163)]) (r := []) f188_6 (yzv ym_8_253 rfl (ys137 w) rfl rfl) (by omega) rfl ?_
  exact k
theorem W188_9 {d : Nat} {K : Int → Hp → Prop} (w : yWF zl nl h) {l1 : Int} {l2 : Int} (hd : 1 ≤ d) (k : yU (d - 1) 147 [vR (some 137), vI l2, vR (some 164)] h (fun h' => ZW d prog_10_method_40_code 8 18 [some (vR (some 137)), some (vI l1), some (vI l2), none, none, none] [] h' (yq 1 (yqI K)))) : ZW d prog_10_method_40_code 8 9 [some (vR (some 137)), some (vI l1), some (vI l2), none, none, none] [] h (yq 1 (yqI K)) := by
  refine y_s (pc' := 10) (L' := [some (vR (some 137)), some (vI l1), some (vI l2), none, none, none]) (st' := [vR (some 137)]) (h' := h) f188_9 rfl ?_
  refine y_s (pc' := 11) (L' := [some (vR (some 137)), some (vI l1), some (vI l2), none, none, none]) (st' := [vI l2, vR (some 137)]) (h' := h) f188_10 rfl ?_
  refine y_s (pc' := 12) (L' := [some (vR (some 137)), some (vI l1), some (vI l2), none, none, none]) (st' := [vR (some 137), vI l2, vR (some 137)]) (h' := h) f188_11 rfl ?_
  refine y_gr (pc' := 15) f188_12 yf_8_91 rfl rfl (ys137 w) (yp137_42 w) rfl ?_
  refine y_cU (pc' := 18) (as := [vR (some 137), vI l2, vR (some 164)]) (r := []) f188_15 (yzv ym_8_253 rfl (ys137 w) rfl rfl) (by omega) rfl ?_
  exact k
theorem W188_18 {d : Nat} {K : Int → Hp → Prop} (w : yWF zl nl h) {l1 : Int} {l2 : Int} (k : ZW d prog_10_method_40_code 8 21 [some (vR (some 137)), some (vI l1), some (vI l2), some (vI 6), none, none] [] h (yq 1 (yqI K))) : ZW d prog_10_method_40_code 8 18 [some (vR (some 137)), some (vI l1), some (vI l2), none, none, none] [] h (yq 1 (yqI K)) := by
  refine y_s (pc' := 20) (L' := [some (vR (some 137)), some (vI l1), some (vI l2), none, none, none]) (st' := [vI 6]) (h' := h) f188_18 rfl ?_
  refine y_sto (pc' := 21) (k := 3) (L' := [some (vR (some 137)), some (vI l1), some (vI l2), some (vI 6), none, none]) f188_20 rfl rfl rfl rfl rfl rfl ?_
  exact k
theorem W188_21 {d : Nat} {K : Int → Hp → Prop} (w : yWF zl nl h) {l1 : Int} {l2 : Int} {l3 : Int} {l4 : Option Int} {l5 : Option Int} (k : ((l3 ≤ 0 → K 0 h) ∧ (¬ (l3 ≤ 0) → ZW d prog_10_method_40_code 8 31 [some (vR (some 137)), some (vI l1), some (vI l2), some (vI l3), some (vI 1), some (vI 0)] [] h (yq 1 (yqI K))))) : ZW d prog_10_method_40_code 8 21 [some (vR (some 137)), some (vI l1), some (vI l2), some (vI l3), yo l4, yo l5] [] h (yq 1 (yqI K)) := by
  refine y_s (pc' := 22) (L' := [some (vR (some 137)), some (vI l1), some (vI l2), some (vI l3), yo l4, yo l5]) (st' := [vI l3]) (h' := h) f188_21 rfl ?_
  refine y_if (pcT := 81) (pc' := 25) (P := l3 ≤ 0) f188_22 rfl rfl rfl (fun c => ?_) (fun c => ?_)
  · replace k := k.1 c
    refine y_s (pc' := 82) (L' := [some (vR (some 137)), some (vI l1), some (vI l2), some (vI l3), yo l4, yo l5]) (st' := [vI 0]) (h' := h) f188_81 rfl ?_
    exact y_ri f188_82 ⟨rfl, k⟩
  · replace k := k.2 c
    refine y_s (pc' := 26) (L' := [some (vR (some 137)), some (vI l1), some (vI l2), some (vI l3), yo l4, yo l5]) (st' := [vI 1]) (h' := h) f188_25 rfl ?_
    refine y_sto (pc' := 28) (k := 4) (L' := [some (vR (some 137)), some (vI l1), some (vI l2), some (vI l3), some (vI 1), yo l5]) f188_26 rfl rfl rfl rfl rfl rfl ?_
    refine y_s (pc' := 29) (L' := [some (vR (some 137)), some (vI l1), some (vI l2), some (vI l3), some (vI 1), yo l5]) (st' := [vI 0]) (h' := h) f188_28 rfl ?_
    refine y_sto (pc' := 31) (k := 5) (L' := [some (vR (some 137)), some (vI l1), some (vI l2), some (vI l3), some (vI 1), some (vI 0)]) f188_29 rfl rfl rfl rfl rfl rfl ?_
    exact k
theorem W188_31 {d : Nat} {K : Int → Hp → Prop} (w : yWF zl nl h) {l1 : Int} {l2 : Int} {l3 : Int} {l4 : Int} {l5 : Int} (k : ((l3 ≤ l5 → ((l4 = 0 → ZW d prog_10_method_40_code 8 21 [some (vR (some 137)), some (vI l1), some (vI l2), some (vI (zw (l3 + (-1)))), some (vI l4), some (vI l5)] [] h (yq 1 (yqI K))) ∧ (¬ (l4 = 0) → K l3 h))) ∧ (¬ (l3 ≤ l5) → ((0 ≤ (zw ((zw (6 - l3)) + l5)) ∧ (zw ((zw (6 - l3)) + l5)) < 6) ∧ ((0 ≤ l5 ∧ l5 < 6) ∧ (((zV h 163 ((zw ((zw (6 - l3)) + l5))).toNat) = (zV h 164 (l5).toNat) → ZW d prog_10_method_40_code 8 31 [some (vR (some 137)), some (vI l1), some (vI l2), some (vI l3), some (vI l4), some (vI (zw (l5 + 1)))] [] h (yq 1 (yqI K))) ∧ (¬ ((zV h 163 ((zw ((zw (6 - l3)) + l5))).toNat) = (zV h 164 (l5).toNat)) → ZW d prog_10_method_40_code 8 31 [some (vR (some 137)), some (vI l1), some (vI l2), some (vI l3), some (vI 0), some (vI (zw (l5 + 1)))] [] h (yq 1 (yqI K))))))))) : ZW d prog_10_method_40_code 8 31 [some (vR (some 137)), some (vI l1), some (vI l2), some (vI l3), some (vI l4), some (vI l5)] [] h (yq 1 (yqI K)) := by
  refine y_s (pc' := 33) (L' := [some (vR (some 137)), some (vI l1), some (vI l2), some (vI l3), some (vI l4), some (vI l5)]) (st' := [vI l5]) (h' := h) f188_31 rfl ?_
  refine y_s (pc' := 34) (L' := [some (vR (some 137)), some (vI l1), some (vI l2), some (vI l3), some (vI l4), some (vI l5)]) (st' := [vI l3, vI l5]) (h' := h) f188_33 rfl ?_
  refine y_ic (pcT := 68) (pc' := 37) (P := l3 ≤ l5) f188_34 rfl rfl rfl (fun c => ?_) (fun c => ?_)
  · replace k := k.1 c
    refine y_s (pc' := 70) (L' := [some (vR (some 137)), some (vI l1), some (vI l2), some (vI l3), some (vI l4), some (vI l5)]) (st' := [vI l4]) (h' := h) f188_68 rfl ?_
    refine y_if (pcT := 75) (pc' := 73) (P := l4 = 0) f188_70 rfl rfl rfl (fun c => ?_) (fun c => ?_)
    · replace k := k.1 c
      refine y_inc (pc' := 78) (L' := [some (vR (some 137)), some (vI l1), some (vI l2), some (vI (zw (l3 + (-1)))), some (vI l4), some (vI l5)]) f188_75 rfl rfl rfl rfl ?_
      refine y_go (pc' := 21) f188_78 rfl ?_
      exact k
    · replace k := k.2 c
      refine y_s (pc' := 74) (L' := [some (vR (some 137)), some (vI l1), some (vI l2), some (vI l3), some (vI l4), some (vI l5)]) (st' := [vI l3]) (h' := h) f188_73 rfl ?_
      exact y_ri f188_74 ⟨rfl, k⟩
  · replace k := k.2 c
    refine y_s (pc' := 38) (L' := [some (vR (some 137)), some (vI l1), some (vI l2), some (vI l3), some (vI l4), some (vI l5)]) (st' := [vR (some 137)]) (h' := h) f188_37 rfl ?_
    refine y_gr (pc' := 41) f188_38 yf_8_88 rfl rfl (ys137 w) (yp137_41 w) rfl ?_
    refine y_s (pc' := 43) (L' := [some (vR (some 137)), some (vI l1), some (vI l2), some (vI l3), some (vI l4), some (vI l5)]) (st' := [vI 6, vR (some 163)]) (h' := h) f188_41 rfl ?_
    refine y_s (pc' := 44) (L' := [some (vR (some 137)), some (vI l1), some (vI l2), some (vI l3), some (vI l4), some (vI l5)]) (st' := [vI l3, vI 6, vR (some 163)]) (h' := h) f188_43 rfl ?_
    refine y_s (pc' := 45) (L' := [some (vR (some 137)), some (vI l1), some (vI l2), some (vI l3), some (vI l4), some (vI l5)]) (st' := [vI (zw (6 - l3)), vR (some 163)]) (h' := h) f188_44 rfl ?_
    refine y_s (pc' := 47) (L' := [some (vR (some 137)), some (vI l1), some (vI l2), some (vI l3), some (vI l4), some (vI l5)]) (st' := [vI l5, vI (zw (6 - l3)), vR (some 163)]) (h' := h) f188_45 rfl ?_
    refine y_s (pc' := 48) (L' := [some (vR (some 137)), some (vI l1), some (vI l2), some (vI l3), some (vI l4), some (vI l5)]) (st' := [vI (zw ((zw (6 - l3)) + l5)), vR (some 163)]) (h' := h) f188_47 rfl ?_
    refine y_ia (pc' := 49) (x := (zV h 163 ((zw ((zw (6 - l3)) + l5))).toNat)) f188_48 (ys163 w) k.1 rfl rfl ?_
    replace k := k.2
    refine y_s (pc' := 50) (L' := [some (vR (some 137)), some (vI l1), some (vI l2), some (vI l3), some (vI l4), some (vI l5)]) (st' := [vR (some 137), vI (zV h 163 ((zw ((zw (6 - l3)) + l5))).toNat)]) (h' := h) f188_49 rfl ?_
    refine y_gr (pc' := 53) f188_50 yf_8_91 rfl rfl (ys137 w) (yp137_42 w) rfl ?_
    refine y_s (pc' := 55) (L' := [some (vR (some 137)), some (vI l1), some (vI l2), some (vI l3), some (vI l4), some (vI l5)]) (st' := [vI l5, vR (some 164), vI (zV h 163 ((zw ((zw (6 - l3)) + l5))).toNat)]) (h' := h) f188_53 rfl ?_
    refine y_ia (pc' := 56) (x := (zV h 164 (l5).toNat)) f188_55 (ys164 w) k.1 rfl rfl ?_
    replace k := k.2
    refine y_ic (pcT := 62) (pc' := 59) (P := (zV h 163 ((zw ((zw (6 - l3)) + l5))).toNat) = (zV h 164 (l5).toNat)) f188_56 rfl rfl rfl (fun c => ?_) (fun c => ?_)
    · replace k := k.1 c
      refine y_inc (pc' := 65) (L' := [some (vR (some 137)), some (vI l1), some (vI l2), some (vI l3), some (vI l4), some (vI (zw (l5 + 1)))]) f188_62 rfl rfl rfl rfl ?_
      refine y_go (pc' := 31) f188_65 rfl ?_
      exact k
    · replace k := k.2 c
      refine y_s (pc' := 60) (L' := [some (vR (some 137)), some (vI l1), some (vI l2), some (vI l3), some (vI l4), some (vI l5)]) (st' := [vI 0]) (h' := h) f188_59 rfl ?_
      refine y_sto (pc' := 62) (k := 4) (L' := [some (vR (some 137)), some (vI l1), some (vI l2), some (vI l3), some (vI 0), some (vI l5)]) f188_60 rfl rfl rfl rfl rfl rfl ?_
      refine y_inc (pc' := 65) (L' := [some (vR (some 137)), some (vI l1), some (vI l2), some (vI l3), some (vI 0), some (vI (zw (l5 + 1)))]) f188_62 rfl rfl rfl rfl ?_
      refine y_go (pc' := 31) f188_65 rfl ?_
      exact k
/-- HatterTunesModel.trace(I)I -/
theorem E210 {d : Nat} {K : Int → Hp → Prop} (w : yWF zl nl h) {x0 : Int} (hd : 1 ≤ d) (k : ((((0 : Int) ≤ x0 ∧ x0 ≤ (zw ((ymin 20 (zV h 137 36)) - 1))) → ((0 ≤ x0 ∧ x0 < 20) ∧ K (zV h 160 (x0).toNat) h)) ∧ (¬ (((0 : Int) ≤ x0 ∧ x0 ≤ (zw ((ymin 20 (zV h 137 36)) - 1)))) → K (-1) h))) : yI d 210 [vR (some 137), vI x0] h K := by
  refine y_en (L := [some (vR (some 137)), some (vI x0)]) rfl rfl ?_
  refine y_s (pc' := 1) (L' := [some (vR (some 137)), some (vI x0)]) (st' := [vI x0]) (h' := h) f210_0 rfl ?_
  refine y_s (pc' := 2) (L' := [some (vR (some 137)), some (vI x0)]) (st' := [vI 0, vI x0]) (h' := h) f210_1 rfl ?_
  refine y_s (pc' := 4) (L' := [some (vR (some 137)), some (vI x0)]) (st' := [vI 20, vI 0, vI x0]) (h' := h) f210_2 rfl ?_
  refine y_s (pc' := 5) (L' := [some (vR (some 137)), some (vI x0)]) (st' := [vR (some 137), vI 20, vI 0, vI x0]) (h' := h) f210_4 rfl ?_
  refine y_gi (pc' := 8) f210_5 yf_8_317 rfl rfl (ys137 w) rfl ?_
  refine y_mn (pc' := 11) f210_8 ym_8_248 (by omega) rfl rfl ?_
  refine y_s (pc' := 12) (L' := [some (vR (some 137)), some (vI x0)]) (st' := [vI 1, vI (ymin 20 (zV h 137 36)), vI 0, vI x0]) (h' := h) f210_11 rfl ?_
  refine y_s (pc' := 13) (L' := [some (vR (some 137)), some (vI x0)]) (st' := [vI (zw ((ymin 20 (zV h 137 36)) - 1)), vI 0, vI x0]) (h' := h) f210_12 rfl ?_
  refine y_cI (pc' := 16) (as := [vI x0, vI 0, vI (zw ((ymin 20 (zV h 137 36)) - 1))]) (r := []) f210_13 rfl (by omega) rfl ?_
  refine sp129 w (fun c => ?_) (fun c => ?_)
  · replace k := k.1 c
    refine y_iff (pcT := 28) (pc' := 19) f210_16 rfl rfl rfl ?_
    refine y_s (pc' := 20) (L' := [some (vR (some 137)), some (vI x0)]) (st' := [vR (some 137)]) (h' := h) f210_19 rfl ?_
    refine y_gr (pc' := 23) f210_20 yf_8_79 rfl rfl (ys137 w) (yp137_37 w) rfl ?_
    refine y_s (pc' := 24) (L' := [some (vR (some 137)), some (vI x0)]) (st' := [vI x0, vR (some 160)]) (h' := h) f210_23 rfl ?_
    refine y_ia (pc' := 25) (x := (zV h 160 (x0).toNat)) f210_24 (ys160 w) k.1 rfl rfl ?_
    replace k := k.2
    refine y_go (pc' := 29) f210_25 rfl ?_
    exact y_ri f210_29 ⟨rfl, k⟩
  · replace k := k.2 c
    refine y_ift (pcT := 28) f210_16 rfl rfl ?_
    refine y_s (pc' := 29) (L' := [some (vR (some 137)), some (vI x0)]) (st' := [vI (-1)]) (h' := h) f210_28 rfl ?_
    exact y_ri f210_29 ⟨rfl, k⟩
/-- HatterTunesModel.taken(II)I -/
theorem E211 {d : Nat} {K : Int → Hp → Prop} (w : yWF zl nl h) {x0 : Int} {x1 : Int} (hd : 2 ≤ d) (k : ((((0 : Int) ≤ x1 ∧ x1 ≤ 6) → (((0 : Int) ≤ zV h 137 0 ∧ zV h 137 0 ≤ 6) ∧ ((((0 : Int) ≤ x0 ∧ x0 < zV h 137 0) → ((0 ≤ x0 ∧ x0 < 6) ∧ ZW d prog_10_method_68_code 8 31 [some (vR (some 137)), some (vI x0), some (vI x1), some (vI (zV h 138 (x0).toNat))] [] h (yq 1 (yqI K)))) ∧ (¬ (((0 : Int) ≤ x0 ∧ x0 < zV h 137 0)) → K (-11) h)))) ∧ (¬ (((0 : Int) ≤ x1 ∧ x1 ≤ 6)) → K (-2) h))) : yI d 211 [vR (some 137), vI x0, vI x1] h K := by
  refine y_en (L := [some (vR (some 137)), some (vI x0), some (vI x1), none]) rfl rfl ?_
  refine y_s (pc' := 1) (L' := [some (vR (some 137)), some (vI x0), some (vI x1), none]) (st' := [vI x1]) (h' := h) f211_0 rfl ?_
  refine y_s (pc' := 2) (L' := [some (vR (some 137)), some (vI x0), some (vI x1), none]) (st' := [vI 0, vI x1]) (h' := h) f211_1 rfl ?_
  refine y_s (pc' := 4) (L' := [some (vR (some 137)), some (vI x0), some (vI x1), none]) (st' := [vI 6, vI 0, vI x1]) (h' := h) f211_2 rfl ?_
  refine y_cI (pc' := 7) (as := [vI x1, vI 0, vI 6]) (r := []) f211_4 rfl (by omega) rfl ?_
  refine sp129 w (fun c => ?_) (fun c => ?_)
  · replace k := k.1 c
    refine y_ift (pcT := 13) f211_7 rfl rfl ?_
    refine y_s (pc' := 14) (L' := [some (vR (some 137)), some (vI x0), some (vI x1), none]) (st' := [vR (some 137)]) (h' := h) f211_13 rfl ?_
    refine y_s (pc' := 15) (L' := [some (vR (some 137)), some (vI x0), some (vI x1), none]) (st' := [vI x0, vR (some 137)]) (h' := h) f211_14 rfl ?_
    refine y_cI (pc' := 18) (as := [vR (some 137), vI x0]) (r := []) f211_15 (yzv ym_8_121 rfl (ys137 w) rfl rfl) (by omega) rfl ?_
    have p0 := k.1
    replace k := k.2
    refine sp131 w (by omega) p0 (fun c => ?_) (fun c => ?_)
    · replace k := k.1 c
      refine y_ift (pcT := 24) f211_18 rfl rfl ?_
      refine y_s (pc' := 25) (L' := [some (vR (some 137)), some (vI x0), some (vI x1), none]) (st' := [vR (some 137)]) (h' := h) f211_24 rfl ?_
      refine y_gr (pc' := 28) f211_25 yf_8_9 rfl rfl (ys137 w) (yp137_1 w) rfl ?_
      refine y_s (pc' := 29) (L' := [some (vR (some 137)), some (vI x0), some (vI x1), none]) (st' := [vI x0, vR (some 138)]) (h' := h) f211_28 rfl ?_
      refine y_ia (pc' := 30) (x := (zV h 138 (x0).toNat)) f211_29 (ys138 w) k.1 rfl rfl ?_
      replace k := k.2
      refine y_sto (pc' := 31) (k := 3) (L' := [some (vR (some 137)), some (vI x0), some (vI x1), some (vI (zV h 138 (x0).toNat))]) f211_30 rfl rfl rfl rfl rfl rfl ?_
      exact k
    · replace k := k.2 c
      refine y_iff (pcT := 24) (pc' := 21) f211_18 rfl rfl rfl ?_
      refine y_s (pc' := 23) (L' := [some (vR (some 137)), some (vI x0), some (vI x1), none]) (st' := [vI (-11)]) (h' := h) f211_21 rfl ?_
      exact y_ri f211_23 ⟨rfl, k⟩
  · replace k := k.2 c
    refine y_iff (pcT := 13) (pc' := 10) f211_7 rfl rfl rfl ?_
    refine y_s (pc' := 12) (L' := [some (vR (some 137)), some (vI x0), some (vI x1), none]) (st' := [vI (-2)]) (h' := h) f211_10 rfl ?_
    exact y_ri f211_12 ⟨rfl, k⟩
theorem W211_31 {d : Nat} {K : Int → Hp → Prop} (w : yWF zl nl h) {l1 : Int} {l2 : Int} {l3 : Int} (hd : 1 ≤ d) (k : ((l3 = l2 → ((l3 ≠ l2 → K (-12) h) ∧ (¬ (l3 ≠ l2) → ((0 ≤ l1 ∧ l1 < 6) ∧ K (zV h 138 (l1).toNat) h)))) ∧ (¬ (l3 = l2) → ((l3 ≤ 0 → ((l3 ≠ l2 → K (-12) h) ∧ (¬ (l3 ≠ l2) → ((0 ≤ l1 ∧ l1 < 6) ∧ K (zV h 138 (l1).toNat) h)))) ∧ (¬ (l3 ≤ 0) → yI (d - 1) 207 [vI l3] h (fun x h' => ZW d prog_10_method_68_code 8 44 [some (vR (some 137)), some (vI l1), some (vI l2), some (vI l3)] [vI x] h' (yq 1 (yqI K)))))))) : ZW d prog_10_method_68_code 8 31 [some (vR (some 137)), some (vI l1), some (vI l2), some (vI l3)] [] h (yq 1 (yqI K)) := by
  refine y_s (pc' := 32) (L' := [some (vR (some 137)), some (vI l1), some (vI l2), some (vI l3)]) (st' := [vI l3]) (h' := h) f211_31 rfl ?_
  refine y_s (pc' := 33) (L' := [some (vR (some 137)), some (vI l1), some (vI l2), some (vI l3)]) (st' := [vI l2, vI l3]) (h' := h) f211_32 rfl ?_
  refine y_ic (pcT := 48) (pc' := 36) (P := l3 = l2) f211_33 rfl rfl rfl (fun c => ?_) (fun c => ?_)
  · replace k := k.1 c
    refine y_s (pc' := 49) (L' := [some (vR (some 137)), some (vI l1), some (vI l2), some (vI l3)]) (st' := [vI l3]) (h' := h) f211_48 rfl ?_
    refine y_s (pc' := 50) (L' := [some (vR (some 137)), some (vI l1), some (vI l2), some (vI l3)]) (st' := [vI l2, vI l3]) (h' := h) f211_49 rfl ?_
    refine y_ic (pcT := 62) (pc' := 53) (P := l3 ≠ l2) f211_50 rfl rfl rfl (fun c => ?_) (fun c => ?_)
    · replace k := k.1 c
      refine y_s (pc' := 64) (L' := [some (vR (some 137)), some (vI l1), some (vI l2), some (vI l3)]) (st' := [vI (-12)]) (h' := h) f211_62 rfl ?_
      exact y_ri f211_64 ⟨rfl, k⟩
    · replace k := k.2 c
      refine y_s (pc' := 54) (L' := [some (vR (some 137)), some (vI l1), some (vI l2), some (vI l3)]) (st' := [vR (some 137)]) (h' := h) f211_53 rfl ?_
      refine y_gr (pc' := 57) f211_54 yf_8_9 rfl rfl (ys137 w) (yp137_1 w) rfl ?_
      refine y_s (pc' := 58) (L' := [some (vR (some 137)), some (vI l1), some (vI l2), some (vI l3)]) (st' := [vI l1, vR (some 138)]) (h' := h) f211_57 rfl ?_
      refine y_ia (pc' := 59) (x := (zV h 138 (l1).toNat)) f211_58 (ys138 w) k.1 rfl rfl ?_
      replace k := k.2
      refine y_go (pc' := 64) f211_59 rfl ?_
      exact y_ri f211_64 ⟨rfl, k⟩
  · replace k := k.2 c
    refine y_s (pc' := 37) (L' := [some (vR (some 137)), some (vI l1), some (vI l2), some (vI l3)]) (st' := [vI l3]) (h' := h) f211_36 rfl ?_
    refine y_if (pcT := 48) (pc' := 40) (P := l3 ≤ 0) f211_37 rfl rfl rfl (fun c => ?_) (fun c => ?_)
    · replace k := k.1 c
      refine y_s (pc' := 49) (L' := [some (vR (some 137)), some (vI l1), some (vI l2), some (vI l3)]) (st' := [vI l3]) (h' := h) f211_48 rfl ?_
      refine y_s (pc' := 50) (L' := [some (vR (some 137)), some (vI l1), some (vI l2), some (vI l3)]) (st' := [vI l2, vI l3]) (h' := h) f211_49 rfl ?_
      refine y_ic (pcT := 62) (pc' := 53) (P := l3 ≠ l2) f211_50 rfl rfl rfl (fun c => ?_) (fun c => ?_)
      · replace k := k.1 c
        refine y_s (pc' := 64) (L' := [some (vR (some 137)), some (vI l1), some (vI l2), some (vI l3)]) (st' := [vI (-12)]) (h' := h) f211_62 rfl ?_
        exact y_ri f211_64 ⟨rfl, k⟩
      · replace k := k.2 c
        refine y_s (pc' := 54) (L' := [some (vR (some 137)), some (vI l1), some (vI l2), some (vI l3)]) (st' := [vR (some 137)]) (h' := h) f211_53 rfl ?_
        refine y_gr (pc' := 57) f211_54 yf_8_9 rfl rfl (ys137 w) (yp137_1 w) rfl ?_
        refine y_s (pc' := 58) (L' := [some (vR (some 137)), some (vI l1), some (vI l2), some (vI l3)]) (st' := [vI l1, vR (some 138)]) (h' := h) f211_57 rfl ?_
        refine y_ia (pc' := 59) (x := (zV h 138 (l1).toNat)) f211_58 (ys138 w) k.1 rfl rfl ?_
        replace k := k.2
        refine y_go (pc' := 64) f211_59 rfl ?_
        exact y_ri f211_64 ⟨rfl, k⟩
    · replace k := k.2 c
      refine y_s (pc' := 41) (L' := [some (vR (some 137)), some (vI l1), some (vI l2), some (vI l3)]) (st' := [vI l3]) (h' := h) f211_40 rfl ?_
      refine y_cI (pc' := 44) (as := [vI l3]) (r := []) f211_41 rfl (by omega) rfl ?_
      exact k
theorem W211_44 {d : Nat} {K : Int → Hp → Prop} (w : yWF zl nl h) {l1 : Int} {l2 : Int} {l3 : Int} {s0 : Int} (k : ZW d prog_10_method_68_code 8 31 [some (vR (some 137)), some (vI l1), some (vI l2), some (vI s0)] [] h (yq 1 (yqI K))) : ZW d prog_10_method_68_code 8 44 [some (vR (some 137)), some (vI l1), some (vI l2), some (vI l3)] [vI s0] h (yq 1 (yqI K)) := by
  refine y_sto (pc' := 45) (k := 3) (L' := [some (vR (some 137)), some (vI l1), some (vI l2), some (vI s0)]) f211_44 rfl rfl rfl rfl rfl rfl ?_
  refine y_go (pc' := 31) f211_45 rfl ?_
  exact k
/-- HatterTunesModel.count(I)I -/
theorem E212 {d : Nat} {K : Int → Hp → Prop} (w : yWF zl nl h) {x0 : Int} (k : ((x0 = 0 → K (zV h 137 0) h) ∧ (x0 = 1 → K (zV h 137 15) h) ∧ (x0 = 2 → K (zV h 137 25) h) ∧ (x0 = 3 → K (zV h 137 30) h) ∧ (x0 = 4 → K (zV h 137 33) h) ∧ (x0 = 5 → K (zV h 137 9) h) ∧ (x0 = 6 → K (zV h 137 36) h) ∧ (x0 = 7 → K (zV h 137 6) h) ∧ (x0 < 0 ∨ 7 < x0 → K (-2) h))) : yI d 212 [vR (some 137), vI x0] h K := by
  refine y_en (L := [some (vR (some 137)), some (vI x0)]) rfl rfl ?_
  refine y_s (pc' := 1) (L' := [some (vR (some 137)), some (vI x0)]) (st' := [vI x0]) (h' := h) f212_0 rfl ?_
  by_cases c : x0 = 0
  · refine y_tc (pc' := 48) (v := 0) f212_1 c rfl rfl rfl ?_
    replace k := k.1 c
    refine y_s (pc' := 49) (L' := [some (vR (some 137)), some (vI x0)]) (st' := [vR (some 137)]) (h' := h) f212_48 rfl ?_
    refine y_gi (pc' := 52) f212_49 yf_8_114 rfl rfl (ys137 w) rfl ?_
    exact y_ri f212_52 ⟨rfl, k⟩
  replace k := k.2
  have c0 := c
  by_cases c : x0 = 1
  · refine y_tc (pc' := 53) (v := 1) f212_1 c rfl rfl rfl ?_
    replace k := k.1 c
    refine y_s (pc' := 54) (L' := [some (vR (some 137)), some (vI x0)]) (st' := [vR (some 137)]) (h' := h) f212_53 rfl ?_
    refine y_gi (pc' := 57) f212_54 yf_8_229 rfl rfl (ys137 w) rfl ?_
    exact y_ri f212_57 ⟨rfl, k⟩
  replace k := k.2
  have c1 := c
  by_cases c : x0 = 2
  · refine y_tc (pc' := 58) (v := 2) f212_1 c rfl rfl rfl ?_
    replace k := k.1 c
    refine y_s (pc' := 59) (L' := [some (vR (some 137)), some (vI x0)]) (st' := [vR (some 137)]) (h' := h) f212_58 rfl ?_
    refine y_gi (pc' := 62) f212_59 yf_8_286 rfl rfl (ys137 w) rfl ?_
    exact y_ri f212_62 ⟨rfl, k⟩
  replace k := k.2
  have c2 := c
  by_cases c : x0 = 3
  · refine y_tc (pc' := 63) (v := 3) f212_1 c rfl rfl rfl ?_
    replace k := k.1 c
    refine y_s (pc' := 64) (L' := [some (vR (some 137)), some (vI x0)]) (st' := [vR (some 137)]) (h' := h) f212_63 rfl ?_
    refine y_gi (pc' := 67) f212_64 yf_8_307 rfl rfl (ys137 w) rfl ?_
    exact y_ri f212_67 ⟨rfl, k⟩
  replace k := k.2
  have c3 := c
  by_cases c : x0 = 4
  · refine y_tc (pc' := 68) (v := 4) f212_1 c rfl rfl rfl ?_
    replace k := k.1 c
    refine y_s (pc' := 69) (L' := [some (vR (some 137)), some (vI x0)]) (st' := [vR (some 137)]) (h' := h) f212_68 rfl ?_
    refine y_gi (pc' := 72) f212_69 yf_8_310 rfl rfl (ys137 w) rfl ?_
    exact y_ri f212_72 ⟨rfl, k⟩
  replace k := k.2
  have c4 := c
  by_cases c : x0 = 5
  · refine y_tc (pc' := 73) (v := 5) f212_1 c rfl rfl rfl ?_
    replace k := k.1 c
    refine y_s (pc' := 74) (L' := [some (vR (some 137)), some (vI x0)]) (st' := [vR (some 137)]) (h' := h) f212_73 rfl ?_
    refine y_gi (pc' := 77) f212_74 yf_8_157 rfl rfl (ys137 w) rfl ?_
    exact y_ri f212_77 ⟨rfl, k⟩
  replace k := k.2
  have c5 := c
  by_cases c : x0 = 6
  · refine y_tc (pc' := 78) (v := 6) f212_1 c rfl rfl rfl ?_
    replace k := k.1 c
    refine y_s (pc' := 79) (L' := [some (vR (some 137)), some (vI x0)]) (st' := [vR (some 137)]) (h' := h) f212_78 rfl ?_
    refine y_gi (pc' := 82) f212_79 yf_8_317 rfl rfl (ys137 w) rfl ?_
    exact y_ri f212_82 ⟨rfl, k⟩
  replace k := k.2
  have c6 := c
  by_cases c : x0 = 7
  · refine y_tc (pc' := 83) (v := 7) f212_1 c rfl rfl rfl ?_
    replace k := k.1 c
    refine y_s (pc' := 84) (L' := [some (vR (some 137)), some (vI x0)]) (st' := [vR (some 137)]) (h' := h) f212_83 rfl ?_
    refine y_gi (pc' := 87) f212_84 yf_8_154 rfl rfl (ys137 w) rfl ?_
    exact y_ri f212_87 ⟨rfl, k⟩
  replace k := k.2
  have c7 := c
  have cc : x0 < 0 ∨ 7 < x0 := by omega
  refine y_td (pc' := 88) f212_1 cc rfl ?_
  replace k := k cc
  refine y_s (pc' := 90) (L' := [some (vR (some 137)), some (vI x0)]) (st' := [vI (-2)]) (h' := h) f212_88 rfl ?_
  exact y_ri f212_90 ⟨rfl, k⟩
/-- HatterTunesModel.tape(III)I -/
theorem E213 {d : Nat} {K : Int → Hp → Prop} (w : yWF zl nl h) {x0 : Int} {x1 : Int} {x2 : Int} (hd : 2 ≤ d) (k : ((((0 : Int) ≤ x0 ∧ x0 < 6) → (((((-1) : Int) ≤ x1 ∧ x1 ≤ 4) → ((x1 < 0 → ((x1 < 0 → ((0 ≤ x0 ∧ x0 < 6) ∧ ((0 ≤ x1 → ((0 ≤ x0 ∧ x0 < 6) ∧ (∀ h_64, (zsetV (zsetV h 167 (x0).toNat x1) 168 (x0).toNat x2) = h_64 → ZW d prog_10_method_71_code 8 67 [some (vR (some 137)), some (vI x0), some (vI x1), some (vI x2), some (vI 0)] [] h_64 (yq 1 (yqI K))))) ∧ (¬ (0 ≤ x1) → ((0 ≤ x0 ∧ x0 < 6) ∧ (∀ h_64, (zsetV (zsetV h 167 (x0).toNat x1) 168 (x0).toNat 0) = h_64 → ZW d prog_10_method_71_code 8 67 [some (vR (some 137)), some (vI x0), some (vI x1), some (vI x2), some (vI 0)] [] h_64 (yq 1 (yqI K)))))))) ∧ (¬ (x1 < 0) → ((0 ≤ x2 → ((0 ≤ x0 ∧ x0 < 6) ∧ ((0 ≤ x1 → ((0 ≤ x0 ∧ x0 < 6) ∧ (∀ h_64, (zsetV (zsetV h 167 (x0).toNat x1) 168 (x0).toNat x2) = h_64 → ZW d prog_10_method_71_code 8 67 [some (vR (some 137)), some (vI x0), some (vI x1), some (vI x2), some (vI 0)] [] h_64 (yq 1 (yqI K))))) ∧ (¬ (0 ≤ x1) → ((0 ≤ x0 ∧ x0 < 6) ∧ (∀ h_64, (zsetV (zsetV h 167 (x0).toNat x1) 168 (x0).toNat 0) = h_64 → ZW d prog_10_method_71_code 8 67 [some (vR (some 137)), some (vI x0), some (vI x1), some (vI x2), some (vI 0)] [] h_64 (yq 1 (yqI K)))))))) ∧ (¬ (0 ≤ x2) → K (-14) h))))) ∧ (¬ (x1 < 0) → ((x2 ≤ 60 → ((x1 < 0 → ((0 ≤ x0 ∧ x0 < 6) ∧ ((0 ≤ x1 → ((0 ≤ x0 ∧ x0 < 6) ∧ (∀ h_64, (zsetV (zsetV h 167 (x0).toNat x1) 168 (x0).toNat x2) = h_64 → ZW d prog_10_method_71_code 8 67 [some (vR (some 137)), some (vI x0), some (vI x1), some (vI x2), some (vI 0)] [] h_64 (yq 1 (yqI K))))) ∧ (¬ (0 ≤ x1) → ((0 ≤ x0 ∧ x0 < 6) ∧ (∀ h_64, (zsetV (zsetV h 167 (x0).toNat x1) 168 (x0).toNat 0) = h_64 → ZW d prog_10_method_71_code 8 67 [some (vR (some 137)), some (vI x0), some (vI x1), some (vI x2), some (vI 0)] [] h_64 (yq 1 (yqI K)))))))) ∧ (¬ (x1 < 0) → ((0 ≤ x2 → ((0 ≤ x0 ∧ x0 < 6) ∧ ((0 ≤ x1 → ((0 ≤ x0 ∧ x0 < 6) ∧ (∀ h_64, (zsetV (zsetV h 167 (x0).toNat x1) 168 (x0).toNat x2) = h_64 → ZW d prog_10_method_71_code 8 67 [some (vR (some 137)), some (vI x0), some (vI x1), some (vI x2), some (vI 0)] [] h_64 (yq 1 (yqI K))))) ∧ (¬ (0 ≤ x1) → ((0 ≤ x0 ∧ x0 < 6) ∧ (∀ h_64, (zsetV (zsetV h 167 (x0).toNat x1) 168 (x0).toNat 0) = h_64 → ZW d prog_10_method_71_code 8 67 [some (vR (some 137)), some (vI x0), some (vI x1), some (vI x2), some (vI 0)] [] h_64 (yq 1 (yqI K)))))))) ∧ (¬ (0 ≤ x2) → K (-14) h))))) ∧ (¬ (x2 ≤ 60) → K (-2) h))))) ∧ (¬ ((((-1) : Int) ≤ x1 ∧ x1 ≤ 4)) → K (-2) h))) ∧ (¬ (((0 : Int) ≤ x0 ∧ x0 < 6)) → K (-1) h))) : yI d 213 [vR (some 137), vI x0, vI x1, vI x2] h K := by
  refine y_en (L := [some (vR (some 137)), some (vI x0), some (vI x1), some (vI x2), none]) rfl rfl ?_
  refine y_s (pc' := 1) (L' := [some (vR (some 137)), some (vI x0), some (vI x1), some (vI x2), none]) (st' := [vI x0]) (h' := h) f213_0 rfl ?_
  refine y_cI (pc' := 4) (as := [vI x0]) (r := []) f213_1 rfl (by omega) rfl ?_
  refine sp214 w (by omega) (fun c => ?_) (fun c => ?_)
  · replace k := k.1 c
    refine y_ift (pcT := 9) f213_4 rfl rfl ?_
    refine y_s (pc' := 10) (L' := [some (vR (some 137)), some (vI x0), some (vI x1), some (vI x2), none]) (st' := [vI x1]) (h' := h) f213_9 rfl ?_
    refine y_s (pc' := 11) (L' := [some (vR (some 137)), some (vI x0), some (vI x1), some (vI x2), none]) (st' := [vI (-1), vI x1]) (h' := h) f213_10 rfl ?_
    refine y_s (pc' := 12) (L' := [some (vR (some 137)), some (vI x0), some (vI x1), some (vI x2), none]) (st' := [vI 4, vI (-1), vI x1]) (h' := h) f213_11 rfl ?_
    refine y_cI (pc' := 15) (as := [vI x1, vI (-1), vI 4]) (r := []) f213_12 rfl (by omega) rfl ?_
    refine sp129 w (fun c => ?_) (fun c => ?_)
    · replace k := k.1 c
      refine y_iff (pcT := 28) (pc' := 18) f213_15 rfl rfl rfl ?_
      refine y_s (pc' := 19) (L' := [some (vR (some 137)), some (vI x0), some (vI x1), some (vI x2), none]) (st' := [vI x1]) (h' := h) f213_18 rfl ?_
      refine y_if (pcT := 31) (pc' := 22) (P := x1 < 0) f213_19 rfl rfl rfl (fun c => ?_) (fun c => ?_)
      · replace k := k.1 c
        refine y_s (pc' := 32) (L' := [some (vR (some 137)), some (vI x0), some (vI x1), some (vI x2), none]) (st' := [vI x1]) (h' := h) f213_31 rfl ?_
        refine y_if (pcT := 42) (pc' := 35) (P := x1 < 0) f213_32 rfl rfl rfl (fun c => ?_) (fun c => ?_)
        · replace k := k.1 c
          refine y_s (pc' := 43) (L' := [some (vR (some 137)), some (vI x0), some (vI x1), some (vI x2), none]) (st' := [vR (some 137)]) (h' := h) f213_42 rfl ?_
          refine y_gr (pc' := 46) f213_43 yf_8_100 rfl rfl (ys137 w) (yp137_46 w) rfl ?_
          refine y_s (pc' := 47) (L' := [some (vR (some 137)), some (vI x0), some (vI x1), some (vI x2), none]) (st' := [vI x0, vR (some 167)]) (h' := h) f213_46 rfl ?_
          refine y_s (pc' := 48) (L' := [some (vR (some 137)), some (vI x0), some (vI x1), some (vI x2), none]) (st' := [vI x1, vI x0, vR (some 167)]) (h' := h) f213_47 rfl ?_
          refine y_is (pc' := 49) (h' := (zsetV h 167 (x0).toNat x1)) f213_48 (ys167 w) (by decide) k.1 rfl rfl ?_
          replace k := k.2
          refine y_s (pc' := 50) (L' := [some (vR (some 137)), some (vI x0), some (vI x1), some (vI x2), none]) (st' := [vR (some 137)]) (h' := (zsetV h 167 (x0).toNat x1)) f213_49 rfl ?_
          refine y_gr (pc' := 53) f213_50 yf_8_103 rfl rfl (ys137 w) (yp137_47 w) rfl ?_
          refine y_s (pc' := 54) (L' := [some (vR (some 137)), some (vI x0), some (vI x1), some (vI x2), none]) (st' := [vI x0, vR (some 168)]) (h' := (zsetV h 167 (x0).toNat x1)) f213_53 rfl ?_
          refine y_s (pc' := 55) (L' := [some (vR (some 137)), some (vI x0), some (vI x1), some (vI x2), none]) (st' := [vI x1, vI x0, vR (some 168)]) (h' := (zsetV h 167 (x0).toNat x1)) f213_54 rfl ?_
          refine y_if (pcT := 62) (pc' := 58) (P := 0 ≤ x1) f213_55 rfl rfl rfl (fun c => ?_) (fun c => ?_)
          · replace k := k.1 c
            refine y_s (pc' := 63) (L' := [some (vR (some 137)), some (vI x0), some (vI x1), some (vI x2), none]) (st' := [vI x2, vI x0, vR (some 168)]) (h' := (zsetV h 167 (x0).toNat x1)) f213_62 rfl ?_
            refine y_is (pc' := 64) (h' := (zsetV (zsetV h 167 (x0).toNat x1) 168 (x0).toNat x2)) f213_63 (ys168 w) (by decide) k.1 rfl rfl ?_
            replace k := k.2
            generalize e_64 : (zsetV (zsetV h 167 (x0).toNat x1) 168 (x0).toNat x2) = h_64
            replace k := k _ e_64
            have w : yWF zl nl h_64 := by rw [← e_64]; exact w
            refine y_s (pc' := 65) (L' := [some (vR (some 137)), some (vI x0), some (vI x1), some (vI x2), none]) (st' := [vI 0]) (h' := h_64) f213_64 rfl ?_
            refine y_sto (pc' := 67) (k := 4) (L' := [some (vR (some 137)), some (vI x0), some (vI x1), some (vI x2), some (vI 0)]) f213_65 rfl rfl rfl rfl rfl rfl ?_
            exact k
          · replace k := k.2 c
            refine y_s (pc' := 59) (L' := [some (vR (some 137)), some (vI x0), some (vI x1), some (vI x2), none]) (st' := [vI 0, vI x0, vR (some 168)]) (h' := (zsetV h 167 (x0).toNat x1)) f213_58 rfl ?_
            refine y_go (pc' := 63) f213_59 rfl ?_
            refine y_is (pc' := 64) (h' := (zsetV (zsetV h 167 (x0).toNat x1) 168 (x0).toNat 0)) f213_63 (ys168 w) (by decide) k.1 rfl rfl ?_
            replace k := k.2
            generalize e_64 : (zsetV (zsetV h 167 (x0).toNat x1) 168 (x0).toNat 0) = h_64
            replace k := k _ e_64
            have w : yWF zl nl h_64 := by rw [← e_64]; exact w
            refine y_s (pc' := 65) (L' := [some (vR (some 137)), some (vI x0), some (vI x1), some (vI x2), none]) (st' := [vI 0]) (h' := h_64) f213_64 rfl ?_
            refine y_sto (pc' := 67) (k := 4) (L' := [some (vR (some 137)), some (vI x0), some (vI x1), some (vI x2), some (vI 0)]) f213_65 rfl rfl rfl rfl rfl rfl ?_
            exact k
        · replace k := k.2 c
          refine y_s (pc' := 36) (L' := [some (vR (some 137)), some (vI x0), some (vI x1), some (vI x2), none]) (st' := [vI x2]) (h' := h) f213_35 rfl ?_
          refine y_if (pcT := 42) (pc' := 39) (P := 0 ≤ x2) f213_36 rfl rfl rfl (fun c => ?_) (fun c => ?_)
          · replace k := k.1 c
            refine y_s (pc' := 43) (L' := [some (vR (some 137)), some (vI x0), some (vI x1), some (vI x2), none]) (st' := [vR (some 137)]) (h' := h) f213_42 rfl ?_
            refine y_gr (pc' := 46) f213_43 yf_8_100 rfl rfl (ys137 w) (yp137_46 w) rfl ?_
            refine y_s (pc' := 47) (L' := [some (vR (some 137)), some (vI x0), some (vI x1), some (vI x2), none]) (st' := [vI x0, vR (some 167)]) (h' := h) f213_46 rfl ?_
            refine y_s (pc' := 48) (L' := [some (vR (some 137)), some (vI x0), some (vI x1), some (vI x2), none]) (st' := [vI x1, vI x0, vR (some 167)]) (h' := h) f213_47 rfl ?_
            refine y_is (pc' := 49) (h' := (zsetV h 167 (x0).toNat x1)) f213_48 (ys167 w) (by decide) k.1 rfl rfl ?_
            replace k := k.2
            refine y_s (pc' := 50) (L' := [some (vR (some 137)), some (vI x0), some (vI x1), some (vI x2), none]) (st' := [vR (some 137)]) (h' := (zsetV h 167 (x0).toNat x1)) f213_49 rfl ?_
            refine y_gr (pc' := 53) f213_50 yf_8_103 rfl rfl (ys137 w) (yp137_47 w) rfl ?_
            refine y_s (pc' := 54) (L' := [some (vR (some 137)), some (vI x0), some (vI x1), some (vI x2), none]) (st' := [vI x0, vR (some 168)]) (h' := (zsetV h 167 (x0).toNat x1)) f213_53 rfl ?_
            refine y_s (pc' := 55) (L' := [some (vR (some 137)), some (vI x0), some (vI x1), some (vI x2), none]) (st' := [vI x1, vI x0, vR (some 168)]) (h' := (zsetV h 167 (x0).toNat x1)) f213_54 rfl ?_
            refine y_if (pcT := 62) (pc' := 58) (P := 0 ≤ x1) f213_55 rfl rfl rfl (fun c => ?_) (fun c => ?_)
            · replace k := k.1 c
              refine y_s (pc' := 63) (L' := [some (vR (some 137)), some (vI x0), some (vI x1), some (vI x2), none]) (st' := [vI x2, vI x0, vR (some 168)]) (h' := (zsetV h 167 (x0).toNat x1)) f213_62 rfl ?_
              refine y_is (pc' := 64) (h' := (zsetV (zsetV h 167 (x0).toNat x1) 168 (x0).toNat x2)) f213_63 (ys168 w) (by decide) k.1 rfl rfl ?_
              replace k := k.2
              generalize e_64 : (zsetV (zsetV h 167 (x0).toNat x1) 168 (x0).toNat x2) = h_64
              replace k := k _ e_64
              have w : yWF zl nl h_64 := by rw [← e_64]; exact w
              refine y_s (pc' := 65) (L' := [some (vR (some 137)), some (vI x0), some (vI x1), some (vI x2), none]) (st' := [vI 0]) (h' := h_64) f213_64 rfl ?_
              refine y_sto (pc' := 67) (k := 4) (L' := [some (vR (some 137)), some (vI x0), some (vI x1), some (vI x2), some (vI 0)]) f213_65 rfl rfl rfl rfl rfl rfl ?_
              exact k
            · replace k := k.2 c
              refine y_s (pc' := 59) (L' := [some (vR (some 137)), some (vI x0), some (vI x1), some (vI x2), none]) (st' := [vI 0, vI x0, vR (some 168)]) (h' := (zsetV h 167 (x0).toNat x1)) f213_58 rfl ?_
              refine y_go (pc' := 63) f213_59 rfl ?_
              refine y_is (pc' := 64) (h' := (zsetV (zsetV h 167 (x0).toNat x1) 168 (x0).toNat 0)) f213_63 (ys168 w) (by decide) k.1 rfl rfl ?_
              replace k := k.2
              generalize e_64 : (zsetV (zsetV h 167 (x0).toNat x1) 168 (x0).toNat 0) = h_64
              replace k := k _ e_64
              have w : yWF zl nl h_64 := by rw [← e_64]; exact w
              refine y_s (pc' := 65) (L' := [some (vR (some 137)), some (vI x0), some (vI x1), some (vI x2), none]) (st' := [vI 0]) (h' := h_64) f213_64 rfl ?_
              refine y_sto (pc' := 67) (k := 4) (L' := [some (vR (some 137)), some (vI x0), some (vI x1), some (vI x2), some (vI 0)]) f213_65 rfl rfl rfl rfl rfl rfl ?_
              exact k
          · replace k := k.2 c
            refine y_s (pc' := 41) (L' := [some (vR (some 137)), some (vI x0), some (vI x1), some (vI x2), none]) (st' := [vI (-14)]) (h' := h) f213_39 rfl ?_
            exact y_ri f213_41 ⟨rfl, k⟩
      · replace k := k.2 c
        refine y_s (pc' := 23) (L' := [some (vR (some 137)), some (vI x0), some (vI x1), some (vI x2), none]) (st' := [vI x2]) (h' := h) f213_22 rfl ?_
        refine y_s (pc' := 25) (L' := [some (vR (some 137)), some (vI x0), some (vI x1), some (vI x2), none]) (st' := [vI 60, vI x2]) (h' := h) f213_23 rfl ?_
        refine y_ic (pcT := 31) (pc' := 28) (P := x2 ≤ 60) f213_25 rfl rfl rfl (fun c => ?_) (fun c => ?_)
        · replace k := k.1 c
          refine y_s (pc' := 32) (L' := [some (vR (some 137)), some (vI x0), some (vI x1), some (vI x2), none]) (st' := [vI x1]) (h' := h) f213_31 rfl ?_
          refine y_if (pcT := 42) (pc' := 35) (P := x1 < 0) f213_32 rfl rfl rfl (fun c => ?_) (fun c => ?_)
          · replace k := k.1 c
            refine y_s (pc' := 43) (L' := [some (vR (some 137)), some (vI x0), some (vI x1), some (vI x2), none]) (st' := [vR (some 137)]) (h' := h) f213_42 rfl ?_
            refine y_gr (pc' := 46) f213_43 yf_8_100 rfl rfl (ys137 w) (yp137_46 w) rfl ?_
            refine y_s (pc' := 47) (L' := [some (vR (some 137)), some (vI x0), some (vI x1), some (vI x2), none]) (st' := [vI x0, vR (some 167)]) (h' := h) f213_46 rfl ?_
            refine y_s (pc' := 48) (L' := [some (vR (some 137)), some (vI x0), some (vI x1), some (vI x2), none]) (st' := [vI x1, vI x0, vR (some 167)]) (h' := h) f213_47 rfl ?_
            refine y_is (pc' := 49) (h' := (zsetV h 167 (x0).toNat x1)) f213_48 (ys167 w) (by decide) k.1 rfl rfl ?_
            replace k := k.2
            refine y_s (pc' := 50) (L' := [some (vR (some 137)), some (vI x0), some (vI x1), some (vI x2), none]) (st' := [vR (some 137)]) (h' := (zsetV h 167 (x0).toNat x1)) f213_49 rfl ?_
            refine y_gr (pc' := 53) f213_50 yf_8_103 rfl rfl (ys137 w) (yp137_47 w) rfl ?_
            refine y_s (pc' := 54) (L' := [some (vR (some 137)), some (vI x0), some (vI x1), some (vI x2), none]) (st' := [vI x0, vR (some 168)]) (h' := (zsetV h 167 (x0).toNat x1)) f213_53 rfl ?_
            refine y_s (pc' := 55) (L' := [some (vR (some 137)), some (vI x0), some (vI x1), some (vI x2), none]) (st' := [vI x1, vI x0, vR (some 168)]) (h' := (zsetV h 167 (x0).toNat x1)) f213_54 rfl ?_
            refine y_if (pcT := 62) (pc' := 58) (P := 0 ≤ x1) f213_55 rfl rfl rfl (fun c => ?_) (fun c => ?_)
            · replace k := k.1 c
              refine y_s (pc' := 63) (L' := [some (vR (some 137)), some (vI x0), some (vI x1), some (vI x2), none]) (st' := [vI x2, vI x0, vR (some 168)]) (h' := (zsetV h 167 (x0).toNat x1)) f213_62 rfl ?_
              refine y_is (pc' := 64) (h' := (zsetV (zsetV h 167 (x0).toNat x1) 168 (x0).toNat x2)) f213_63 (ys168 w) (by decide) k.1 rfl rfl ?_
              replace k := k.2
              generalize e_64 : (zsetV (zsetV h 167 (x0).toNat x1) 168 (x0).toNat x2) = h_64
              replace k := k _ e_64
              have w : yWF zl nl h_64 := by rw [← e_64]; exact w
              refine y_s (pc' := 65) (L' := [some (vR (some 137)), some (vI x0), some (vI x1), some (vI x2), none]) (st' := [vI 0]) (h' := h_64) f213_64 rfl ?_
              refine y_sto (pc' := 67) (k := 4) (L' := [some (vR (some 137)), some (vI x0), some (vI x1), some (vI x2), some (vI 0)]) f213_65 rfl rfl rfl rfl rfl rfl ?_
              exact k
            · replace k := k.2 c
              refine y_s (pc' := 59) (L' := [some (vR (some 137)), some (vI x0), some (vI x1), some (vI x2), none]) (st' := [vI 0, vI x0, vR (some 168)]) (h' := (zsetV h 167 (x0).toNat x1)) f213_58 rfl ?_
              refine y_go (pc' := 63) f213_59 rfl ?_
              refine y_is (pc' := 64) (h' := (zsetV (zsetV h 167 (x0).toNat x1) 168 (x0).toNat 0)) f213_63 (ys168 w) (by decide) k.1 rfl rfl ?_
              replace k := k.2
              generalize e_64 : (zsetV (zsetV h 167 (x0).toNat x1) 168 (x0).toNat 0) = h_64
              replace k := k _ e_64
              have w : yWF zl nl h_64 := by rw [← e_64]; exact w
              refine y_s (pc' := 65) (L' := [some (vR (some 137)), some (vI x0), some (vI x1), some (vI x2), none]) (st' := [vI 0]) (h' := h_64) f213_64 rfl ?_
              refine y_sto (pc' := 67) (k := 4) (L' := [some (vR (some 137)), some (vI x0), some (vI x1), some (vI x2), some (vI 0)]) f213_65 rfl rfl rfl rfl rfl rfl ?_
              exact k
          · replace k := k.2 c
            refine y_s (pc' := 36) (L' := [some (vR (some 137)), some (vI x0), some (vI x1), some (vI x2), none]) (st' := [vI x2]) (h' := h) f213_35 rfl ?_
            refine y_if (pcT := 42) (pc' := 39) (P := 0 ≤ x2) f213_36 rfl rfl rfl (fun c => ?_) (fun c => ?_)
            · replace k := k.1 c
              refine y_s (pc' := 43) (L' := [some (vR (some 137)), some (vI x0), some (vI x1), some (vI x2), none]) (st' := [vR (some 137)]) (h' := h) f213_42 rfl ?_
              refine y_gr (pc' := 46) f213_43 yf_8_100 rfl rfl (ys137 w) (yp137_46 w) rfl ?_
              refine y_s (pc' := 47) (L' := [some (vR (some 137)), some (vI x0), some (vI x1), some (vI x2), none]) (st' := [vI x0, vR (some 167)]) (h' := h) f213_46 rfl ?_
              refine y_s (pc' := 48) (L' := [some (vR (some 137)), some (vI x0), some (vI x1), some (vI x2), none]) (st' := [vI x1, vI x0, vR (some 167)]) (h' := h) f213_47 rfl ?_
              refine y_is (pc' := 49) (h' := (zsetV h 167 (x0).toNat x1)) f213_48 (ys167 w) (by decide) k.1 rfl rfl ?_
              replace k := k.2
              refine y_s (pc' := 50) (L' := [some (vR (some 137)), some (vI x0), some (vI x1), some (vI x2), none]) (st' := [vR (some 137)]) (h' := (zsetV h 167 (x0).toNat x1)) f213_49 rfl ?_
              refine y_gr (pc' := 53) f213_50 yf_8_103 rfl rfl (ys137 w) (yp137_47 w) rfl ?_
              refine y_s (pc' := 54) (L' := [some (vR (some 137)), some (vI x0), some (vI x1), some (vI x2), none]) (st' := [vI x0, vR (some 168)]) (h' := (zsetV h 167 (x0).toNat x1)) f213_53 rfl ?_
              refine y_s (pc' := 55) (L' := [some (vR (some 137)), some (vI x0), some (vI x1), some (vI x2), none]) (st' := [vI x1, vI x0, vR (some 168)]) (h' := (zsetV h 167 (x0).toNat x1)) f213_54 rfl ?_
              refine y_if (pcT := 62) (pc' := 58) (P := 0 ≤ x1) f213_55 rfl rfl rfl (fun c => ?_) (fun c => ?_)
              · replace k := k.1 c
                refine y_s (pc' := 63) (L' := [some (vR (some 137)), some (vI x0), some (vI x1), some (vI x2), none]) (st' := [vI x2, vI x0, vR (some 168)]) (h' := (zsetV h 167 (x0).toNat x1)) f213_62 rfl ?_
                refine y_is (pc' := 64) (h' := (zsetV (zsetV h 167 (x0).toNat x1) 168 (x0).toNat x2)) f213_63 (ys168 w) (by decide) k.1 rfl rfl ?_
                replace k := k.2
                generalize e_64 : (zsetV (zsetV h 167 (x0).toNat x1) 168 (x0).toNat x2) = h_64
                replace k := k _ e_64
                have w : yWF zl nl h_64 := by rw [← e_64]; exact w
                refine y_s (pc' := 65) (L' := [some (vR (some 137)), some (vI x0), some (vI x1), some (vI x2), none]) (st' := [vI 0]) (h' := h_64) f213_64 rfl ?_
                refine y_sto (pc' := 67) (k := 4) (L' := [some (vR (some 137)), some (vI x0), some (vI x1), some (vI x2), some (vI 0)]) f213_65 rfl rfl rfl rfl rfl rfl ?_
                exact k
              · replace k := k.2 c
                refine y_s (pc' := 59) (L' := [some (vR (some 137)), some (vI x0), some (vI x1), some (vI x2), none]) (st' := [vI 0, vI x0, vR (some 168)]) (h' := (zsetV h 167 (x0).toNat x1)) f213_58 rfl ?_
                refine y_go (pc' := 63) f213_59 rfl ?_
                refine y_is (pc' := 64) (h' := (zsetV (zsetV h 167 (x0).toNat x1) 168 (x0).toNat 0)) f213_63 (ys168 w) (by decide) k.1 rfl rfl ?_
                replace k := k.2
                generalize e_64 : (zsetV (zsetV h 167 (x0).toNat x1) 168 (x0).toNat 0) = h_64
                replace k := k _ e_64
                have w : yWF zl nl h_64 := by rw [← e_64]; exact w
                refine y_s (pc' := 65) (L' := [some (vR (some 137)), some (vI x0), some (vI x1), some (vI x2), none]) (st' := [vI 0]) (h' := h_64) f213_64 rfl ?_
                refine y_sto (pc' := 67) (k := 4) (L' := [some (vR (some 137)), some (vI x0), some (vI x1), some (vI x2), some (vI 0)]) f213_65 rfl rfl rfl rfl rfl rfl ?_
                exact k
            · replace k := k.2 c
              refine y_s (pc' := 41) (L' := [some (vR (some 137)), some (vI x0), some (vI x1), some (vI x2), none]) (st' := [vI (-14)]) (h' := h) f213_39 rfl ?_
              exact y_ri f213_41 ⟨rfl, k⟩
        · replace k := k.2 c
          refine y_s (pc' := 30) (L' := [some (vR (some 137)), some (vI x0), some (vI x1), some (vI x2), none]) (st' := [vI (-2)]) (h' := h) f213_28 rfl ?_
          exact y_ri f213_30 ⟨rfl, k⟩
    · replace k := k.2 c
      refine y_ift (pcT := 28) f213_15 rfl rfl ?_
      refine y_s (pc' := 30) (L' := [some (vR (some 137)), some (vI x0), some (vI x1), some (vI x2), none]) (st' := [vI (-2)]) (h' := h) f213_28 rfl ?_
      exact y_ri f213_30 ⟨rfl, k⟩
  · replace k := k.2 c
    refine y_iff (pcT := 9) (pc' := 7) f213_4 rfl rfl rfl ?_
    refine y_s (pc' := 8) (L' := [some (vR (some 137)), some (vI x0), some (vI x1), some (vI x2), none]) (st' := [vI (-1)]) (h' := h) f213_7 rfl ?_
    exact y_ri f213_8 ⟨rfl, k⟩
theorem W213_67 {d : Nat} {K : Int → Hp → Prop} (w : yWF zl nl h) {l1 : Int} {l2 : Int} {l3 : Int} {l4 : Int} (k : ((60 ≤ l4 → K 1 h) ∧ (¬ (60 ≤ l4) → ((0 ≤ (zw ((zw (60 * l1)) + l4)) ∧ (zw ((zw (60 * l1)) + l4)) < 360) ∧ ZW d prog_10_method_71_code 8 67 [some (vR (some 137)), some (vI l1), some (vI l2), some (vI l3), some (vI (zw (l4 + 1)))] [] (zsetJ h 169 ((zw ((zw (60 * l1)) + l4))).toNat 0) (yq 1 (yqI K)))))) : ZW d prog_10_method_71_code 8 67 [some (vR (some 137)), some (vI l1), some (vI l2), some (vI l3), some (vI l4)] [] h (yq 1 (yqI K)) := by
  refine y_s (pc' := 69) (L' := [some (vR (some 137)), some (vI l1), some (vI l2), some (vI l3), some (vI l4)]) (st' := [vI l4]) (h' := h) f213_67 rfl ?_
  refine y_s (pc' := 71) (L' := [some (vR (some 137)), some (vI l1), some (vI l2), some (vI l3), some (vI l4)]) (st' := [vI 60, vI l4]) (h' := h) f213_69 rfl ?_
  refine y_ic (pcT := 93) (pc' := 74) (P := 60 ≤ l4) f213_71 rfl rfl rfl (fun c => ?_) (fun c => ?_)
  · replace k := k.1 c
    refine y_s (pc' := 94) (L' := [some (vR (some 137)), some (vI l1), some (vI l2), some (vI l3), some (vI l4)]) (st' := [vI 1]) (h' := h) f213_93 rfl ?_
    exact y_ri f213_94 ⟨rfl, k⟩
  · replace k := k.2 c
    refine y_s (pc' := 75) (L' := [some (vR (some 137)), some (vI l1), some (vI l2), some (vI l3), some (vI l4)]) (st' := [vR (some 137)]) (h' := h) f213_74 rfl ?_
    refine y_gr (pc' := 78) f213_75 yf_8_106 rfl rfl (ys137 w) (yp137_48 w) rfl ?_
    refine y_s (pc' := 80) (L' := [some (vR (some 137)), some (vI l1), some (vI l2), some (vI l3), some (vI l4)]) (st' := [vI 60, vR (some 169)]) (h' := h) f213_78 rfl ?_
    refine y_s (pc' := 81) (L' := [some (vR (some 137)), some (vI l1), some (vI l2), some (vI l3), some (vI l4)]) (st' := [vI l1, vI 60, vR (some 169)]) (h' := h) f213_80 rfl ?_
    refine y_s (pc' := 82) (L' := [some (vR (some 137)), some (vI l1), some (vI l2), some (vI l3), some (vI l4)]) (st' := [vI (zw (60 * l1)), vR (some 169)]) (h' := h) f213_81 rfl ?_
    refine y_s (pc' := 84) (L' := [some (vR (some 137)), some (vI l1), some (vI l2), some (vI l3), some (vI l4)]) (st' := [vI l4, vI (zw (60 * l1)), vR (some 169)]) (h' := h) f213_82 rfl ?_
    refine y_s (pc' := 85) (L' := [some (vR (some 137)), some (vI l1), some (vI l2), some (vI l3), some (vI l4)]) (st' := [vI (zw ((zw (60 * l1)) + l4)), vR (some 169)]) (h' := h) f213_84 rfl ?_
    refine y_s (pc' := 86) (L' := [some (vR (some 137)), some (vI l1), some (vI l2), some (vI l3), some (vI l4)]) (st' := [vJ 0, vI (zw ((zw (60 * l1)) + l4)), vR (some 169)]) (h' := h) f213_85 rfl ?_
    refine y_js (pc' := 87) (h' := (zsetJ h 169 ((zw ((zw (60 * l1)) + l4))).toNat 0)) f213_86 (ys169 w) (by decide) k.1 rfl rfl ?_
    replace k := k.2
    refine y_inc (pc' := 90) (L' := [some (vR (some 137)), some (vI l1), some (vI l2), some (vI l3), some (vI (zw (l4 + 1)))]) f213_87 rfl rfl rfl rfl ?_
    refine y_go (pc' := 67) f213_90 rfl ?_
    exact k
/-- HatterTunesModel.item(IIJ)I -/
theorem E215 {d : Nat} {K : Int → Hp → Prop} (w : yWF zl nl h) {x0 : Int} {x1 : Int} {x2 : Int64} (hd : 2 ≤ d) (k : ((((0 : Int) ≤ x0 ∧ x0 < 6) → ((0 ≤ x0 ∧ x0 < 6) ∧ ((0 ≤ (zV h 167 (x0).toNat) → ((0 ≤ x0 ∧ x0 < 6) ∧ ((((0 : Int) ≤ x1 ∧ x1 ≤ (zw ((zV h 168 (x0).toNat) - 1))) → ((0 ≤ x0 ∧ x0 < 6) ∧ yJ (d - 1) 216 [vI (zV h 167 (x0).toNat), vJ x2] h (fun x h' => ZW d prog_10_method_73_code 8 60 [some (vR (some 137)), some (vI x0), some (vI x1), some (vJ x2), none] [vJ x, vI (zw ((zw (60 * x0)) + x1)), vR (some 169)] h' (yq 1 (yqI K))))) ∧ (¬ (((0 : Int) ≤ x1 ∧ x1 ≤ (zw ((zV h 168 (x0).toNat) - 1)))) → K (-13) h)))) ∧ (¬ (0 ≤ (zV h 167 (x0).toNat)) → K (-11) h)))) ∧ (¬ (((0 : Int) ≤ x0 ∧ x0 < 6)) → K (-1) h))) : yI d 215 [vR (some 137), vI x0, vI x1, vJ x2] h K := by
  refine y_en (L := [some (vR (some 137)), some (vI x0), some (vI x1), some (vJ x2), none]) rfl rfl ?_
  refine y_s (pc' := 1) (L' := [some (vR (some 137)), some (vI x0), some (vI x1), some (vJ x2), none]) (st' := [vI x0]) (h' := h) f215_0 rfl ?_
  refine y_cI (pc' := 4) (as := [vI x0]) (r := []) f215_1 rfl (by omega) rfl ?_
  refine sp214 w (by omega) (fun c => ?_) (fun c => ?_)
  · replace k := k.1 c
    refine y_ift (pcT := 9) f215_4 rfl rfl ?_
    refine y_s (pc' := 10) (L' := [some (vR (some 137)), some (vI x0), some (vI x1), some (vJ x2), none]) (st' := [vR (some 137)]) (h' := h) f215_9 rfl ?_
    refine y_gr (pc' := 13) f215_10 yf_8_100 rfl rfl (ys137 w) (yp137_46 w) rfl ?_
    refine y_s (pc' := 14) (L' := [some (vR (some 137)), some (vI x0), some (vI x1), some (vJ x2), none]) (st' := [vI x0, vR (some 167)]) (h' := h) f215_13 rfl ?_
    refine y_ia (pc' := 15) (x := (zV h 167 (x0).toNat)) f215_14 (ys167 w) k.1 rfl rfl ?_
    replace k := k.2
    refine y_if (pcT := 21) (pc' := 18) (P := 0 ≤ (zV h 167 (x0).toNat)) f215_15 rfl rfl rfl (fun c => ?_) (fun c => ?_)
    · replace k := k.1 c
      refine y_s (pc' := 22) (L' := [some (vR (some 137)), some (vI x0), some (vI x1), some (vJ x2), none]) (st' := [vI x1]) (h' := h) f215_21 rfl ?_
      refine y_s (pc' := 23) (L' := [some (vR (some 137)), some (vI x0), some (vI x1), some (vJ x2), none]) (st' := [vI 0, vI x1]) (h' := h) f215_22 rfl ?_
      refine y_s (pc' := 24) (L' := [some (vR (some 137)), some (vI x0), some (vI x1), some (vJ x2), none]) (st' := [vR (some 137), vI 0, vI x1]) (h' := h) f215_23 rfl ?_
      refine y_gr (pc' := 27) f215_24 yf_8_103 rfl rfl (ys137 w) (yp137_47 w) rfl ?_
      refine y_s (pc' := 28) (L' := [some (vR (some 137)), some (vI x0), some (vI x1), some (vJ x2), none]) (st' := [vI x0, vR (some 168), vI 0, vI x1]) (h' := h) f215_27 rfl ?_
      refine y_ia (pc' := 29) (x := (zV h 168 (x0).toNat)) f215_28 (ys168 w) k.1 rfl rfl ?_
      replace k := k.2
      refine y_s (pc' := 30) (L' := [some (vR (some 137)), some (vI x0), some (vI x1), some (vJ x2), none]) (st' := [vI 1, vI (zV h 168 (x0).toNat), vI 0, vI x1]) (h' := h) f215_29 rfl ?_
      refine y_s (pc' := 31) (L' := [some (vR (some 137)), some (vI x0), some (vI x1), some (vJ x2), none]) (st' := [vI (zw ((zV h 168 (x0).toNat) - 1)), vI 0, vI x1]) (h' := h) f215_30 rfl ?_
      refine y_cI (pc' := 34) (as := [vI x1, vI 0, vI (zw ((zV h 168 (x0).toNat) - 1))]) (r := []) f215_31 rfl (by omega) rfl ?_
      refine sp129 w (fun c => ?_) (fun c => ?_)
      · replace k := k.1 c
        refine y_ift (pcT := 40) f215_34 rfl rfl ?_
        refine y_s (pc' := 41) (L' := [some (vR (some 137)), some (vI x0), some (vI x1), some (vJ x2), none]) (st' := [vR (some 137)]) (h' := h) f215_40 rfl ?_
        refine y_gr (pc' := 44) f215_41 yf_8_106 rfl rfl (ys137 w) (yp137_48 w) rfl ?_
        refine y_s (pc' := 46) (L' := [some (vR (some 137)), some (vI x0), some (vI x1), some (vJ x2), none]) (st' := [vI 60, vR (some 169)]) (h' := h) f215_44 rfl ?_
        refine y_s (pc' := 47) (L' := [some (vR (some 137)), some (vI x0), some (vI x1), some (vJ x2), none]) (st' := [vI x0, vI 60, vR (some 169)]) (h' := h) f215_46 rfl ?_
        refine y_s (pc' := 48) (L' := [some (vR (some 137)), some (vI x0), some (vI x1), some (vJ x2), none]) (st' := [vI (zw (60 * x0)), vR (some 169)]) (h' := h) f215_47 rfl ?_
        refine y_s (pc' := 49) (L' := [some (vR (some 137)), some (vI x0), some (vI x1), some (vJ x2), none]) (st' := [vI x1, vI (zw (60 * x0)), vR (some 169)]) (h' := h) f215_48 rfl ?_
        refine y_s (pc' := 50) (L' := [some (vR (some 137)), some (vI x0), some (vI x1), some (vJ x2), none]) (st' := [vI (zw ((zw (60 * x0)) + x1)), vR (some 169)]) (h' := h) f215_49 rfl ?_
        refine y_s (pc' := 51) (L' := [some (vR (some 137)), some (vI x0), some (vI x1), some (vJ x2), none]) (st' := [vR (some 137), vI (zw ((zw (60 * x0)) + x1)), vR (some 169)]) (h' := h) f215_50 rfl ?_
        refine y_gr (pc' := 54) f215_51 yf_8_100 rfl rfl (ys137 w) (yp137_46 w) rfl ?_
        refine y_s (pc' := 55) (L' := [some (vR (some 137)), some (vI x0), some (vI x1), some (vJ x2), none]) (st' := [vI x0, vR (some 167), vI (zw ((zw (60 * x0)) + x1)), vR (some 169)]) (h' := h) f215_54 rfl ?_
        refine y_ia (pc' := 56) (x := (zV h 167 (x0).toNat)) f215_55 (ys167 w) k.1 rfl rfl ?_
        replace k := k.2
        refine y_s (pc' := 57) (L' := [some (vR (some 137)), some (vI x0), some (vI x1), some (vJ x2), none]) (st' := [vJ x2, vI (zV h 167 (x0).toNat), vI (zw ((zw (60 * x0)) + x1)), vR (some 169)]) (h' := h) f215_56 rfl ?_
        refine y_cJ (pc' := 60) (as := [vI (zV h 167 (x0).toNat), vJ x2]) (r := [vI (zw ((zw (60 * x0)) + x1)), vR (some 169)]) f215_57 rfl (by omega) rfl ?_
        exact k
      · replace k := k.2 c
        refine y_iff (pcT := 40) (pc' := 37) f215_34 rfl rfl rfl ?_
        refine y_s (pc' := 39) (L' := [some (vR (some 137)), some (vI x0), some (vI x1), some (vJ x2), none]) (st' := [vI (-13)]) (h' := h) f215_37 rfl ?_
        exact y_ri f215_39 ⟨rfl, k⟩
    · replace k := k.2 c
      refine y_s (pc' := 20) (L' := [some (vR (some 137)), some (vI x0), some (vI x1), some (vJ x2), none]) (st' := [vI (-11)]) (h' := h) f215_18 rfl ?_
      exact y_ri f215_20 ⟨rfl, k⟩
  · replace k := k.2 c
    refine y_iff (pcT := 9) (pc' := 7) f215_4 rfl rfl rfl ?_
    refine y_s (pc' := 8) (L' := [some (vR (some 137)), some (vI x0), some (vI x1), some (vJ x2), none]) (st' := [vI (-1)]) (h' := h) f215_7 rfl ?_
    exact y_ri f215_8 ⟨rfl, k⟩
theorem W215_60 {d : Nat} {K : Int → Hp → Prop} (w : yWF zl nl h) {l1 : Int} {l2 : Int} {l3 : Int64} {s1 : Int} {s2 : Int64} (k : ((0 ≤ s1 ∧ s1 < 360) ∧ K 1 (zsetJ h 169 (s1).toNat s2))) : ZW d prog_10_method_73_code 8 60 [some (vR (some 137)), some (vI l1), some (vI l2), some (vJ l3), none] [vJ s2, vI s1, vR (some 169)] h (yq 1 (yqI K)) := by
  refine y_js (pc' := 61) (h' := (zsetJ h 169 (s1).toNat s2)) f215_60 (ys169 w) (by decide) k.1 rfl rfl ?_
  replace k := k.2
  refine y_s (pc' := 62) (L' := [some (vR (some 137)), some (vI l1), some (vI l2), some (vJ l3), none]) (st' := [vI 1]) (h' := (zsetJ h 169 (s1).toNat s2)) f215_61 rfl ?_
  exact y_ri f215_62 ⟨rfl, k⟩
/-- HatterTunesModel.read(II)J -/
theorem E217 {d : Nat} {K : Int64 → Hp → Prop} (w : yWF zl nl h) {x0 : Int} {x1 : Int} (hd : 2 ≤ d) (k : ((((0 : Int) ≤ x0 ∧ x0 < 6) → ((0 ≤ x0 ∧ x0 < 6) ∧ (((zV h 167 (x0).toNat) < 0 → K (-9223372036854775808 : Int64) h) ∧ (¬ ((zV h 167 (x0).toNat) < 0) → ((0 ≤ x0 ∧ x0 < 6) ∧ ((((0 : Int) ≤ x1 ∧ x1 ≤ (zw ((zV h 168 (x0).toNat) - 1))) → ((0 ≤ (zw ((zw (60 * x0)) + x1)) ∧ (zw ((zw (60 * x0)) + x1)) < 360) ∧ K (zJ h 169 ((zw ((zw (60 * x0)) + x1))).toNat) h)) ∧ (¬ (((0 : Int) ≤ x1 ∧ x1 ≤ (zw ((zV h 168 (x0).toNat) - 1)))) → K (-9223372036854775808 : Int64) h))))))) ∧ (¬ (((0 : Int) ≤ x0 ∧ x0 < 6)) → K (-9223372036854775808 : Int64) h))) : yJ d 217 [vR (some 137), vI x0, vI x1] h K := by
  refine y_en (L := [some (vR (some 137)), some (vI x0), some (vI x1)]) rfl rfl ?_
  refine y_s (pc' := 1) (L' := [some (vR (some 137)), some (vI x0), some (vI x1)]) (st' := [vI x0]) (h' := h) f217_0 rfl ?_
  refine y_cI (pc' := 4) (as := [vI x0]) (r := []) f217_1 rfl (by omega) rfl ?_
  refine sp214 w (by omega) (fun c => ?_) (fun c => ?_)
  · replace k := k.1 c
    refine y_iff (pcT := 46) (pc' := 7) f217_4 rfl rfl rfl ?_
    refine y_s (pc' := 8) (L' := [some (vR (some 137)), some (vI x0), some (vI x1)]) (st' := [vR (some 137)]) (h' := h) f217_7 rfl ?_
    refine y_gr (pc' := 11) f217_8 yf_8_100 rfl rfl (ys137 w) (yp137_46 w) rfl ?_
    refine y_s (pc' := 12) (L' := [some (vR (some 137)), some (vI x0), some (vI x1)]) (st' := [vI x0, vR (some 167)]) (h' := h) f217_11 rfl ?_
    refine y_ia (pc' := 13) (x := (zV h 167 (x0).toNat)) f217_12 (ys167 w) k.1 rfl rfl ?_
    replace k := k.2
    refine y_if (pcT := 46) (pc' := 16) (P := (zV h 167 (x0).toNat) < 0) f217_13 rfl rfl rfl (fun c => ?_) (fun c => ?_)
    · replace k := k.1 c
      refine y_s (pc' := 49) (L' := [some (vR (some 137)), some (vI x0), some (vI x1)]) (st' := [vJ (-9223372036854775808 : Int64)]) (h' := h) f217_46 rfl ?_
      exact y_rj f217_49 ⟨rfl, k⟩
    · replace k := k.2 c
      refine y_s (pc' := 17) (L' := [some (vR (some 137)), some (vI x0), some (vI x1)]) (st' := [vI x1]) (h' := h) f217_16 rfl ?_
      refine y_s (pc' := 18) (L' := [some (vR (some 137)), some (vI x0), some (vI x1)]) (st' := [vI 0, vI x1]) (h' := h) f217_17 rfl ?_
      refine y_s (pc' := 19) (L' := [some (vR (some 137)), some (vI x0), some (vI x1)]) (st' := [vR (some 137), vI 0, vI x1]) (h' := h) f217_18 rfl ?_
      refine y_gr (pc' := 22) f217_19 yf_8_103 rfl rfl (ys137 w) (yp137_47 w) rfl ?_
      refine y_s (pc' := 23) (L' := [some (vR (some 137)), some (vI x0), some (vI x1)]) (st' := [vI x0, vR (some 168), vI 0, vI x1]) (h' := h) f217_22 rfl ?_
      refine y_ia (pc' := 24) (x := (zV h 168 (x0).toNat)) f217_23 (ys168 w) k.1 rfl rfl ?_
      replace k := k.2
      refine y_s (pc' := 25) (L' := [some (vR (some 137)), some (vI x0), some (vI x1)]) (st' := [vI 1, vI (zV h 168 (x0).toNat), vI 0, vI x1]) (h' := h) f217_24 rfl ?_
      refine y_s (pc' := 26) (L' := [some (vR (some 137)), some (vI x0), some (vI x1)]) (st' := [vI (zw ((zV h 168 (x0).toNat) - 1)), vI 0, vI x1]) (h' := h) f217_25 rfl ?_
      refine y_cI (pc' := 29) (as := [vI x1, vI 0, vI (zw ((zV h 168 (x0).toNat) - 1))]) (r := []) f217_26 rfl (by omega) rfl ?_
      refine sp129 w (fun c => ?_) (fun c => ?_)
      · replace k := k.1 c
        refine y_iff (pcT := 46) (pc' := 32) f217_29 rfl rfl rfl ?_
        refine y_s (pc' := 33) (L' := [some (vR (some 137)), some (vI x0), some (vI x1)]) (st' := [vR (some 137)]) (h' := h) f217_32 rfl ?_
        refine y_gr (pc' := 36) f217_33 yf_8_106 rfl rfl (ys137 w) (yp137_48 w) rfl ?_
        refine y_s (pc' := 38) (L' := [some (vR (some 137)), some (vI x0), some (vI x1)]) (st' := [vI 60, vR (some 169)]) (h' := h) f217_36 rfl ?_
        refine y_s (pc' := 39) (L' := [some (vR (some 137)), some (vI x0), some (vI x1)]) (st' := [vI x0, vI 60, vR (some 169)]) (h' := h) f217_38 rfl ?_
        refine y_s (pc' := 40) (L' := [some (vR (some 137)), some (vI x0), some (vI x1)]) (st' := [vI (zw (60 * x0)), vR (some 169)]) (h' := h) f217_39 rfl ?_
        refine y_s (pc' := 41) (L' := [some (vR (some 137)), some (vI x0), some (vI x1)]) (st' := [vI x1, vI (zw (60 * x0)), vR (some 169)]) (h' := h) f217_40 rfl ?_
        refine y_s (pc' := 42) (L' := [some (vR (some 137)), some (vI x0), some (vI x1)]) (st' := [vI (zw ((zw (60 * x0)) + x1)), vR (some 169)]) (h' := h) f217_41 rfl ?_
        refine y_ja (pc' := 43) (x := (zJ h 169 ((zw ((zw (60 * x0)) + x1))).toNat)) f217_42 (ys169 w) k.1 rfl rfl ?_
        replace k := k.2
        refine y_go (pc' := 49) f217_43 rfl ?_
        exact y_rj f217_49 ⟨rfl, k⟩
      · replace k := k.2 c
        refine y_ift (pcT := 46) f217_29 rfl rfl ?_
        refine y_s (pc' := 49) (L' := [some (vR (some 137)), some (vI x0), some (vI x1)]) (st' := [vJ (-9223372036854775808 : Int64)]) (h' := h) f217_46 rfl ?_
        exact y_rj f217_49 ⟨rfl, k⟩
  · replace k := k.2 c
    refine y_ift (pcT := 46) f217_4 rfl rfl ?_
    refine y_s (pc' := 49) (L' := [some (vR (some 137)), some (vI x0), some (vI x1)]) (st' := [vJ (-9223372036854775808 : Int64)]) (h' := h) f217_46 rfl ?_
    exact y_rj f217_49 ⟨rfl, k⟩
/-- HatterTunesModel.shift(IIIII)I -/
theorem E218 {d : Nat} {K : Int → Hp → Prop} (w : yWF zl nl h) {x0 : Int} {x1 : Int} {x2 : Int} {x3 : Int} {x4 : Int} (hd : 2 ≤ d) (k : ((((0 : Int) ≤ x0 ∧ x0 < 6) → ((((0 : Int) ≤ x2 ∧ x2 < 6) → ((0 ≤ x0 ∧ x0 < 6) ∧ (((zV h 167 (x0).toNat) < 0 → K (-11) h) ∧ (¬ ((zV h 167 (x0).toNat) < 0) → ((0 ≤ x2 ∧ x2 < 6) ∧ ((0 ≤ (zV h 167 (x2).toNat) → ((0 ≤ x0 ∧ x0 < 6) ∧ ((0 ≤ x2 ∧ x2 < 6) ∧ (((zV h 167 (x0).toNat) = (zV h 167 (x2).toNat) → ((x4 < 0 → K (-13) h) ∧ (¬ (x4 < 0) → ((x1 < 0 → K (-13) h) ∧ (¬ (x1 < 0) → ((x3 < 0 → K (-13) h) ∧ (¬ (x3 < 0) → ((0 ≤ x0 ∧ x0 < 6) ∧ ((0 < ((lg_cmp (((zi x1).toInt64) + ((zi x4).toInt64)) ((zi (zV h 168 (x0).toNat)).toInt64)).toInt) → K (-13) h) ∧ (¬ (0 < ((lg_cmp (((zi x1).toInt64) + ((zi x4).toInt64)) ((zi (zV h 168 (x0).toNat)).toInt64)).toInt)) → ((0 ≤ x2 ∧ x2 < 6) ∧ ((((lg_cmp (((zi x3).toInt64) + ((zi x4).toInt64)) ((zi (zV h 168 (x2).toNat)).toInt64)).toInt) ≤ 0 → ((x0 ≠ x2 → ZW d prog_10_method_75_code 8 170 [some (vR (some 137)), some (vI x0), some (vI x1), some (vI x2), some (vI x3), some (vI x4), some (vI 0)] [] h (yq 1 (yqI K))) ∧ (¬ (x0 ≠ x2) → ((x3 ≤ x1 → ZW d prog_10_method_75_code 8 170 [some (vR (some 137)), some (vI x0), some (vI x1), some (vI x2), some (vI x3), some (vI x4), some (vI 0)] [] h (yq 1 (yqI K))) ∧ (¬ (x3 ≤ x1) → ZW d prog_10_method_75_code 8 124 [some (vR (some 137)), some (vI x0), some (vI x1), some (vI x2), some (vI x3), some (vI x4), some (vI (zw (x4 - 1)))] [] h (yq 1 (yqI K))))))) ∧ (¬ (((lg_cmp (((zi x3).toInt64) + ((zi x4).toInt64)) ((zi (zV h 168 (x2).toNat)).toInt64)).toInt) ≤ 0) → K (-13) h))))))))))))) ∧ (¬ ((zV h 167 (x0).toNat) = (zV h 167 (x2).toNat)) → K (-12) h))))) ∧ (¬ (0 ≤ (zV h 167 (x2).toNat)) → K (-11) h))))))) ∧ (¬ (((0 : Int) ≤ x2 ∧ x2 < 6)) → K (-1) h))) ∧ (¬ (((0 : Int) ≤ x0 ∧ x0 < 6)) → K (-1) h))) : yI d 218 [vR (some 137), vI x0, vI x1, vI x2, vI x3, vI x4] h K := by
  refine y_en (L := [some (vR (some 137)), some (vI x0), some (vI x1), some (vI x2), some (vI x3), some (vI x4), none]) rfl rfl ?_
  refine y_s (pc' := 1) (L' := [some (vR (some 137)), some (vI x0), some (vI x1), some (vI x2), some (vI x3), some (vI x4), none]) (st' := [vI x0]) (h' := h) f218_0 rfl ?_
  refine y_cI (pc' := 4) (as := [vI x0]) (r := []) f218_1 rfl (by omega) rfl ?_
  refine sp214 w (by omega) (fun c => ?_) (fun c => ?_)
  · replace k := k.1 c
    refine y_iff (pcT := 14) (pc' := 7) f218_4 rfl rfl rfl ?_
    refine y_s (pc' := 8) (L' := [some (vR (some 137)), some (vI x0), some (vI x1), some (vI x2), some (vI x3), some (vI x4), none]) (st' := [vI x2]) (h' := h) f218_7 rfl ?_
    refine y_cI (pc' := 11) (as := [vI x2]) (r := []) f218_8 rfl (by omega) rfl ?_
    refine sp214 w (by omega) (fun c => ?_) (fun c => ?_)
    · replace k := k.1 c
      refine y_ift (pcT := 16) f218_11 rfl rfl ?_
      refine y_s (pc' := 17) (L' := [some (vR (some 137)), some (vI x0), some (vI x1), some (vI x2), some (vI x3), some (vI x4), none]) (st' := [vR (some 137)]) (h' := h) f218_16 rfl ?_
      refine y_gr (pc' := 20) f218_17 yf_8_100 rfl rfl (ys137 w) (yp137_46 w) rfl ?_
      refine y_s (pc' := 21) (L' := [some (vR (some 137)), some (vI x0), some (vI x1), some (vI x2), some (vI x3), some (vI x4), none]) (st' := [vI x0, vR (some 167)]) (h' := h) f218_20 rfl ?_
      refine y_ia (pc' := 22) (x := (zV h 167 (x0).toNat)) f218_21 (ys167 w) k.1 rfl rfl ?_
      replace k := k.2
      refine y_if (pcT := 34) (pc' := 25) (P := (zV h 167 (x0).toNat) < 0) f218_22 rfl rfl rfl (fun c => ?_) (fun c => ?_)
      · replace k := k.1 c
        refine y_s (pc' := 36) (L' := [some (vR (some 137)), some (vI x0), some (vI x1), some (vI x2), some (vI x3), some (vI x4), none]) (st' := [vI (-11)]) (h' := h) f218_34 rfl ?_
        exact y_ri f218_36 ⟨rfl, k⟩
      · replace k := k.2 c
        refine y_s (pc' := 26) (L' := [some (vR (some 137)), some (vI x0), some (vI x1), some (vI x2), some (vI x3), some (vI x4), none]) (st' := [vR (some 137)]) (h' := h) f218_25 rfl ?_
        refine y_gr (pc' := 29) f218_26 yf_8_100 rfl rfl (ys137 w) (yp137_46 w) rfl ?_
        refine y_s (pc' := 30) (L' := [some (vR (some 137)), some (vI x0), some (vI x1), some (vI x2), some (vI x3), some (vI x4), none]) (st' := [vI x2, vR (some 167)]) (h' := h) f218_29 rfl ?_
        refine y_ia (pc' := 31) (x := (zV h 167 (x2).toNat)) f218_30 (ys167 w) k.1 rfl rfl ?_
        replace k := k.2
        refine y_if (pcT := 37) (pc' := 34) (P := 0 ≤ (zV h 167 (x2).toNat)) f218_31 rfl rfl rfl (fun c => ?_) (fun c => ?_)
        · replace k := k.1 c
          refine y_s (pc' := 38) (L' := [some (vR (some 137)), some (vI x0), some (vI x1), some (vI x2), some (vI x3), some (vI x4), none]) (st' := [vR (some 137)]) (h' := h) f218_37 rfl ?_
          refine y_gr (pc' := 41) f218_38 yf_8_100 rfl rfl (ys137 w) (yp137_46 w) rfl ?_
          refine y_s (pc' := 42) (L' := [some (vR (some 137)), some (vI x0), some (vI x1), some (vI x2), some (vI x3), some (vI x4), none]) (st' := [vI x0, vR (some 167)]) (h' := h) f218_41 rfl ?_
          refine y_ia (pc' := 43) (x := (zV h 167 (x0).toNat)) f218_42 (ys167 w) k.1 rfl rfl ?_
          replace k := k.2
          refine y_s (pc' := 44) (L' := [some (vR (some 137)), some (vI x0), some (vI x1), some (vI x2), some (vI x3), some (vI x4), none]) (st' := [vR (some 137), vI (zV h 167 (x0).toNat)]) (h' := h) f218_43 rfl ?_
          refine y_gr (pc' := 47) f218_44 yf_8_100 rfl rfl (ys137 w) (yp137_46 w) rfl ?_
          refine y_s (pc' := 48) (L' := [some (vR (some 137)), some (vI x0), some (vI x1), some (vI x2), some (vI x3), some (vI x4), none]) (st' := [vI x2, vR (some 167), vI (zV h 167 (x0).toNat)]) (h' := h) f218_47 rfl ?_
          refine y_ia (pc' := 49) (x := (zV h 167 (x2).toNat)) f218_48 (ys167 w) k.1 rfl rfl ?_
          replace k := k.2
          refine y_ic (pcT := 55) (pc' := 52) (P := (zV h 167 (x0).toNat) = (zV h 167 (x2).toNat)) f218_49 rfl rfl rfl (fun c => ?_) (fun c => ?_)
          · replace k := k.1 c
            refine y_s (pc' := 57) (L' := [some (vR (some 137)), some (vI x0), some (vI x1), some (vI x2), some (vI x3), some (vI x4), none]) (st' := [vI x4]) (h' := h) f218_55 rfl ?_
            refine y_if (pcT := 104) (pc' := 60) (P := x4 < 0) f218_57 rfl rfl rfl (fun c => ?_) (fun c => ?_)
            · replace k := k.1 c
              refine y_s (pc' := 106) (L' := [some (vR (some 137)), some (vI x0), some (vI x1), some (vI x2), some (vI x3), some (vI x4), none]) (st' := [vI (-13)]) (h' := h) f218_104 rfl ?_
              exact y_ri f218_106 ⟨rfl, k⟩
            · replace k := k.2 c
              refine y_s (pc' := 61) (L' := [some (vR (some 137)), some (vI x0), some (vI x1), some (vI x2), some (vI x3), some (vI x4), none]) (st' := [vI x1]) (h' := h) f218_60 rfl ?_
              refine y_if (pcT := 104) (pc' := 64) (P := x1 < 0) f218_61 rfl rfl rfl (fun c => ?_) (fun c => ?_)
              · replace k := k.1 c
                refine y_s (pc' := 106) (L' := [some (vR (some 137)), some (vI x0), some (vI x1), some (vI x2), some (vI x3), some (vI x4), none]) (st' := [vI (-13)]) (h' := h) f218_104 rfl ?_
                exact y_ri f218_106 ⟨rfl, k⟩
              · replace k := k.2 c
                refine y_s (pc' := 66) (L' := [some (vR (some 137)), some (vI x0), some (vI x1), some (vI x2), some (vI x3), some (vI x4), none]) (st' := [vI x3]) (h' := h) f218_64 rfl ?_
                refine y_if (pcT := 104) (pc' := 69) (P := x3 < 0) f218_66 rfl rfl rfl (fun c => ?_) (fun c => ?_)
                · replace k := k.1 c
                  refine y_s (pc' := 106) (L' := [some (vR (some 137)), some (vI x0), some (vI x1), some (vI x2), some (vI x3), some (vI x4), none]) (st' := [vI (-13)]) (h' := h) f218_104 rfl ?_
                  exact y_ri f218_106 ⟨rfl, k⟩
                · replace k := k.2 c
                  refine y_s (pc' := 70) (L' := [some (vR (some 137)), some (vI x0), some (vI x1), some (vI x2), some (vI x3), some (vI x4), none]) (st' := [vI x1]) (h' := h) f218_69 rfl ?_
                  refine y_s (pc' := 71) (L' := [some (vR (some 137)), some (vI x0), some (vI x1), some (vI x2), some (vI x3), some (vI x4), none]) (st' := [vJ ((zi x1).toInt64)]) (h' := h) f218_70 rfl ?_
                  refine y_s (pc' := 73) (L' := [some (vR (some 137)), some (vI x0), some (vI x1), some (vI x2), some (vI x3), some (vI x4), none]) (st' := [vI x4, vJ ((zi x1).toInt64)]) (h' := h) f218_71 rfl ?_
                  refine y_s (pc' := 74) (L' := [some (vR (some 137)), some (vI x0), some (vI x1), some (vI x2), some (vI x3), some (vI x4), none]) (st' := [vJ ((zi x4).toInt64), vJ ((zi x1).toInt64)]) (h' := h) f218_73 rfl ?_
                  refine y_s (pc' := 75) (L' := [some (vR (some 137)), some (vI x0), some (vI x1), some (vI x2), some (vI x3), some (vI x4), none]) (st' := [vJ (((zi x1).toInt64) + ((zi x4).toInt64))]) (h' := h) f218_74 rfl ?_
                  refine y_s (pc' := 76) (L' := [some (vR (some 137)), some (vI x0), some (vI x1), some (vI x2), some (vI x3), some (vI x4), none]) (st' := [vR (some 137), vJ (((zi x1).toInt64) + ((zi x4).toInt64))]) (h' := h) f218_75 rfl ?_
                  refine y_gr (pc' := 79) f218_76 yf_8_103 rfl rfl (ys137 w) (yp137_47 w) rfl ?_
                  refine y_s (pc' := 80) (L' := [some (vR (some 137)), some (vI x0), some (vI x1), some (vI x2), some (vI x3), some (vI x4), none]) (st' := [vI x0, vR (some 168), vJ (((zi x1).toInt64) + ((zi x4).toInt64))]) (h' := h) f218_79 rfl ?_
                  refine y_ia (pc' := 81) (x := (zV h 168 (x0).toNat)) f218_80 (ys168 w) k.1 rfl rfl ?_
                  replace k := k.2
                  refine y_s (pc' := 82) (L' := [some (vR (some 137)), some (vI x0), some (vI x1), some (vI x2), some (vI x3), some (vI x4), none]) (st' := [vJ ((zi (zV h 168 (x0).toNat)).toInt64), vJ (((zi x1).toInt64) + ((zi x4).toInt64))]) (h' := h) f218_81 rfl ?_
                  refine y_s (pc' := 83) (L' := [some (vR (some 137)), some (vI x0), some (vI x1), some (vI x2), some (vI x3), some (vI x4), none]) (st' := [vI ((lg_cmp (((zi x1).toInt64) + ((zi x4).toInt64)) ((zi (zV h 168 (x0).toNat)).toInt64)).toInt)]) (h' := h) f218_82 rfl ?_
                  refine y_if (pcT := 104) (pc' := 86) (P := 0 < ((lg_cmp (((zi x1).toInt64) + ((zi x4).toInt64)) ((zi (zV h 168 (x0).toNat)).toInt64)).toInt)) f218_83 rfl rfl rfl (fun c => ?_) (fun c => ?_)
                  · replace k := k.1 c
                    refine y_s (pc' := 106) (L' := [some (vR (some 137)), some (vI x0), some (vI x1), some (vI x2), some (vI x3), some (vI x4), none]) (st' := [vI (-13)]) (h' := h) f218_104 rfl ?_
                    exact y_ri f218_106 ⟨rfl, k⟩
                  · replace k := k.2 c
                    refine y_s (pc' := 88) (L' := [some (vR (some 137)), some (vI x0), some (vI x1), some (vI x2), some (vI x3), some (vI x4), none]) (st' := [vI x3]) (h' := h) f218_86 rfl ?_
                    refine y_s (pc' := 89) (L' := [some (vR (some 137)), some (vI x0), some (vI x1), some (vI x2), some (vI x3), some (vI x4), none]) (st' := [vJ ((zi x3).toInt64)]) (h' := h) f218_88 rfl ?_
                    refine y_s (pc' := 91) (L' := [some (vR (some 137)), some (vI x0), some (vI x1), some (vI x2), some (vI x3), some (vI x4), none]) (st' := [vI x4, vJ ((zi x3).toInt64)]) (h' := h) f218_89 rfl ?_
                    refine y_s (pc' := 92) (L' := [some (vR (some 137)), some (vI x0), some (vI x1), some (vI x2), some (vI x3), some (vI x4), none]) (st' := [vJ ((zi x4).toInt64), vJ ((zi x3).toInt64)]) (h' := h) f218_91 rfl ?_
                    refine y_s (pc' := 93) (L' := [some (vR (some 137)), some (vI x0), some (vI x1), some (vI x2), some (vI x3), some (vI x4), none]) (st' := [vJ (((zi x3).toInt64) + ((zi x4).toInt64))]) (h' := h) f218_92 rfl ?_
                    refine y_s (pc' := 94) (L' := [some (vR (some 137)), some (vI x0), some (vI x1), some (vI x2), some (vI x3), some (vI x4), none]) (st' := [vR (some 137), vJ (((zi x3).toInt64) + ((zi x4).toInt64))]) (h' := h) f218_93 rfl ?_
                    refine y_gr (pc' := 97) f218_94 yf_8_103 rfl rfl (ys137 w) (yp137_47 w) rfl ?_
                    refine y_s (pc' := 98) (L' := [some (vR (some 137)), some (vI x0), some (vI x1), some (vI x2), some (vI x3), some (vI x4), none]) (st' := [vI x2, vR (some 168), vJ (((zi x3).toInt64) + ((zi x4).toInt64))]) (h' := h) f218_97 rfl ?_
                    refine y_ia (pc' := 99) (x := (zV h 168 (x2).toNat)) f218_98 (ys168 w) k.1 rfl rfl ?_
                    replace k := k.2
                    refine y_s (pc' := 100) (L' := [some (vR (some 137)), some (vI x0), some (vI x1), some (vI x2), some (vI x3), some (vI x4), none]) (st' := [vJ ((zi (zV h 168 (x2).toNat)).toInt64), vJ (((zi x3).toInt64) + ((zi x4).toInt64))]) (h' := h) f218_99 rfl ?_
                    refine y_s (pc' := 101) (L' := [some (vR (some 137)), some (vI x0), some (vI x1), some (vI x2), some (vI x3), some (vI x4), none]) (st' := [vI ((lg_cmp (((zi x3).toInt64) + ((zi x4).toInt64)) ((zi (zV h 168 (x2).toNat)).toInt64)).toInt)]) (h' := h) f218_100 rfl ?_
                    refine y_if (pcT := 107) (pc' := 104) (P := ((lg_cmp (((zi x3).toInt64) + ((zi x4).toInt64)) ((zi (zV h 168 (x2).toNat)).toInt64)).toInt) ≤ 0) f218_101 rfl rfl rfl (fun c => ?_) (fun c => ?_)
                    · replace k := k.1 c
                      refine y_s (pc' := 108) (L' := [some (vR (some 137)), some (vI x0), some (vI x1), some (vI x2), some (vI x3), some (vI x4), none]) (st' := [vI x0]) (h' := h) f218_107 rfl ?_
                      refine y_s (pc' := 109) (L' := [some (vR (some 137)), some (vI x0), some (vI x1), some (vI x2), some (vI x3), some (vI x4), none]) (st' := [vI x2, vI x0]) (h' := h) f218_108 rfl ?_
                      refine y_ic (pcT := 167) (pc' := 112) (P := x0 ≠ x2) f218_109 rfl rfl rfl (fun c => ?_) (fun c => ?_)
                      · replace k := k.1 c
                        refine y_s (pc' := 168) (L' := [some (vR (some 137)), some (vI x0), some (vI x1), some (vI x2), some (vI x3), some (vI x4), none]) (st' := [vI 0]) (h' := h) f218_167 rfl ?_
                        refine y_sto (pc' := 170) (k := 6) (L' := [some (vR (some 137)), some (vI x0), some (vI x1), some (vI x2), some (vI x3), some (vI x4), some (vI 0)]) f218_168 rfl rfl rfl rfl rfl rfl ?_
                        exact k
                      · replace k := k.2 c
                        refine y_s (pc' := 113) (L' := [some (vR (some 137)), some (vI x0), some (vI x1), some (vI x2), some (vI x3), some (vI x4), none]) (st' := [vI x1]) (h' := h) f218_112 rfl ?_
                        refine y_s (pc' := 115) (L' := [some (vR (some 137)), some (vI x0), some (vI x1), some (vI x2), some (vI x3), some (vI x4), none]) (st' := [vI x3, vI x1]) (h' := h) f218_113 rfl ?_
                        refine y_ic (pcT := 167) (pc' := 118) (P := x3 ≤ x1) f218_115 rfl rfl rfl (fun c => ?_) (fun c => ?_)
                        · replace k := k.1 c
                          refine y_s (pc' := 168) (L' := [some (vR (some 137)), some (vI x0), some (vI x1), some (vI x2), some (vI x3), some (vI x4), none]) (st' := [vI 0]) (h' := h) f218_167 rfl ?_
                          refine y_sto (pc' := 170) (k := 6) (L' := [some (vR (some 137)), some (vI x0), some (vI x1), some (vI x2), some (vI x3), some (vI x4), some (vI 0)]) f218_168 rfl rfl rfl rfl rfl rfl ?_
                          exact k
                        · replace k := k.2 c
                          refine y_s (pc' := 120) (L' := [some (vR (some 137)), some (vI x0), some (vI x1), some (vI x2), some (vI x3), some (vI x4), none]) (st' := [vI x4]) (h' := h) f218_118 rfl ?_
                          refine y_s (pc' := 121) (L' := [some (vR (some 137)), some (vI x0), some (vI x1), some (vI x2), some (vI x3), some (vI x4), none]) (st' := [vI 1, vI x4]) (h' := h) f218_120 rfl ?_
                          refine y_s (pc' := 122) (L' := [some (vR (some 137)), some (vI x0), some (vI x1), some (vI x2), some (vI x3), some (vI x4), none]) (st' := [vI (zw (x4 - 1))]) (h' := h) f218_121 rfl ?_
                          refine y_sto (pc' := 124) (k := 6) (L' := [some (vR (some 137)), some (vI x0), some (vI x1), some (vI x2), some (vI x3), some (vI x4), some (vI (zw (x4 - 1)))]) f218_122 rfl rfl rfl rfl rfl rfl ?_
                          exact k
                    · replace k := k.2 c
                      refine y_s (pc' := 106) (L' := [some (vR (some 137)), some (vI x0), some (vI x1), some (vI x2), some (vI x3), some (vI x4), none]) (st' := [vI (-13)]) (h' := h) f218_104 rfl ?_
                      exact y_ri f218_106 ⟨rfl, k⟩
          · replace k := k.2 c
            refine y_s (pc' := 54) (L' := [some (vR (some 137)), some (vI x0), some (vI x1), some (vI x2), some (vI x3), some (vI x4), none]) (st' := [vI (-12)]) (h' := h) f218_52 rfl ?_
            exact y_ri f218_54 ⟨rfl, k⟩
        · replace k := k.2 c
          refine y_s (pc' := 36) (L' := [some (vR (some 137)), some (vI x0), some (vI x1), some (vI x2), some (vI x3), some (vI x4), none]) (st' := [vI (-11)]) (h' := h) f218_34 rfl ?_
          exact y_ri f218_36 ⟨rfl, k⟩
    · replace k := k.2 c
      refine y_iff (pcT := 16) (pc' := 14) f218_11 rfl rfl rfl ?_
      refine y_s (pc' := 15) (L' := [some (vR (some 137)), some (vI x0), some (vI x1), some (vI x2), some (vI x3), some (vI x4), none]) (st' := [vI (-1)]) (h' := h) f218_14 rfl ?_
      exact y_ri f218_15 ⟨rfl, k⟩
  · replace k := k.2 c
    refine y_ift (pcT := 14) f218_4 rfl rfl ?_
    refine y_s (pc' := 15) (L' := [some (vR (some 137)), some (vI x0), some (vI x1), some (vI x2), some (vI x3), some (vI x4), none]) (st' := [vI (-1)]) (h' := h) f218_14 rfl ?_
    exact y_ri f218_15 ⟨rfl, k⟩
theorem W218_124 {d : Nat} {K : Int → Hp → Prop} (w : yWF zl nl h) {l1 : Int} {l2 : Int} {l3 : Int} {l4 : Int} {l5 : Int} {l6 : Int} (k : ((l6 < 0 → K l5 h) ∧ (¬ (l6 < 0) → ((0 ≤ (zw ((zw ((zw (60 * l1)) + l2)) + l6)) ∧ (zw ((zw ((zw (60 * l1)) + l2)) + l6)) < 360) ∧ ((0 ≤ (zw ((zw ((zw (60 * l3)) + l4)) + l6)) ∧ (zw ((zw ((zw (60 * l3)) + l4)) + l6)) < 360) ∧ ZW d prog_10_method_75_code 8 124 [some (vR (some 137)), some (vI l1), some (vI l2), some (vI l3), some (vI l4), some (vI l5), some (vI (zw (l6 + (-1))))] [] (zsetJ h 169 ((zw ((zw ((zw (60 * l3)) + l4)) + l6))).toNat (zJ h 169 ((zw ((zw ((zw (60 * l1)) + l2)) + l6))).toNat)) (yq 1 (yqI K))))))) : ZW d prog_10_method_75_code 8 124 [some (vR (some 137)), some (vI l1), some (vI l2), some (vI l3), some (vI l4), some (vI l5), some (vI l6)] [] h (yq 1 (yqI K)) := by
  refine y_s (pc' := 126) (L' := [some (vR (some 137)), some (vI l1), some (vI l2), some (vI l3), some (vI l4), some (vI l5), some (vI l6)]) (st' := [vI l6]) (h' := h) f218_124 rfl ?_
  refine y_if (pcT := 164) (pc' := 129) (P := l6 < 0) f218_126 rfl rfl rfl (fun c => ?_) (fun c => ?_)
  · replace k := k.1 c
    refine y_go (pc' := 212) f218_164 rfl ?_
    refine y_s (pc' := 214) (L' := [some (vR (some 137)), some (vI l1), some (vI l2), some (vI l3), some (vI l4), some (vI l5), some (vI l6)]) (st' := [vI l5]) (h' := h) f218_212 rfl ?_
    exact y_ri f218_214 ⟨rfl, k⟩
  · replace k := k.2 c
    refine y_s (pc' := 130) (L' := [some (vR (some 137)), some (vI l1), some (vI l2), some (vI l3), some (vI l4), some (vI l5), some (vI l6)]) (st' := [vR (some 137)]) (h' := h) f218_129 rfl ?_
    refine y_gr (pc' := 133) f218_130 yf_8_106 rfl rfl (ys137 w) (yp137_48 w) rfl ?_
    refine y_s (pc' := 135) (L' := [some (vR (some 137)), some (vI l1), some (vI l2), some (vI l3), some (vI l4), some (vI l5), some (vI l6)]) (st' := [vI 60, vR (some 169)]) (h' := h) f218_133 rfl ?_
    refine y_s (pc' := 136) (L' := [some (vR (some 137)), some (vI l1), some (vI l2), some (vI l3), some (vI l4), some (vI l5), some (vI l6)]) (st' := [vI l3, vI 60, vR (some 169)]) (h' := h) f218_135 rfl ?_
    refine y_s (pc' := 137) (L' := [some (vR (some 137)), some (vI l1), some (vI l2), some (vI l3), some (vI l4), some (vI l5), some (vI l6)]) (st' := [vI (zw (60 * l3)), vR (some 169)]) (h' := h) f218_136 rfl ?_
    refine y_s (pc' := 139) (L' := [some (vR (some 137)), some (vI l1), some (vI l2), some (vI l3), some (vI l4), some (vI l5), some (vI l6)]) (st' := [vI l4, vI (zw (60 * l3)), vR (some 169)]) (h' := h) f218_137 rfl ?_
    refine y_s (pc' := 140) (L' := [some (vR (some 137)), some (vI l1), some (vI l2), some (vI l3), some (vI l4), some (vI l5), some (vI l6)]) (st' := [vI (zw ((zw (60 * l3)) + l4)), vR (some 169)]) (h' := h) f218_139 rfl ?_
    refine y_s (pc' := 142) (L' := [some (vR (some 137)), some (vI l1), some (vI l2), some (vI l3), some (vI l4), some (vI l5), some (vI l6)]) (st' := [vI l6, vI (zw ((zw (60 * l3)) + l4)), vR (some 169)]) (h' := h) f218_140 rfl ?_
    refine y_s (pc' := 143) (L' := [some (vR (some 137)), some (vI l1), some (vI l2), some (vI l3), some (vI l4), some (vI l5), some (vI l6)]) (st' := [vI (zw ((zw ((zw (60 * l3)) + l4)) + l6)), vR (some 169)]) (h' := h) f218_142 rfl ?_
    refine y_s (pc' := 144) (L' := [some (vR (some 137)), some (vI l1), some (vI l2), some (vI l3), some (vI l4), some (vI l5), some (vI l6)]) (st' := [vR (some 137), vI (zw ((zw ((zw (60 * l3)) + l4)) + l6)), vR (some 169)]) (h' := h) f218_143 rfl ?_
    refine y_gr (pc' := 147) f218_144 yf_8_106 rfl rfl (ys137 w) (yp137_48 w) rfl ?_
    refine y_s (pc' := 149) (L' := [some (vR (some 137)), some (vI l1), some (vI l2), some (vI l3), some (vI l4), some (vI l5), some (vI l6)]) (st' := [vI 60, vR (some 169), vI (zw ((zw ((zw (60 * l3)) + l4)) + l6)), vR (some 169)]) (h' := h) f218_147 rfl ?_
    refine y_s (pc' := 150) (L' := [some (vR (some 137)), some (vI l1), some (vI l2), some (vI l3), some (vI l4), some (vI l5), some (vI l6)]) (st' := [vI l1, vI 60, vR (some 169), vI (zw ((zw ((zw (60 * l3)) + l4)) + l6)), vR (some 169)]) (h' := h) f218_149 rfl ?_
    refine y_s (pc' := 151) (L' := [some (vR (some 137)), some (vI l1), some (vI l2), some (vI l3), some (vI l4), some (vI l5), some (vI l6)]) (st' := [vI (zw (60 * l1)), vR (some 169), vI (zw ((zw ((zw (60 * l3)) + l4)) + l6)), vR (some 169)]) (h' := h) f218_150 rfl ?_
    refine y_s (pc' := 152) (L' := [some (vR (some 137)), some (vI l1), some (vI l2), some (vI l3), some (vI l4), some (vI l5), some (vI l6)]) (st' := [vI l2, vI (zw (60 * l1)), vR (some 169), vI (zw ((zw ((zw (60 * l3)) + l4)) + l6)), vR (some 169)]) (h' := h) f218_151 rfl ?_
    refine y_s (pc' := 153) (L' := [some (vR (some 137)), some (vI l1), some (vI l2), some (vI l3), some (vI l4), some (vI l5), some (vI l6)]) (st' := [vI (zw ((zw (60 * l1)) + l2)), vR (some 169), vI (zw ((zw ((zw (60 * l3)) + l4)) + l6)), vR (some 169)]) (h' := h) f218_152 rfl ?_
    refine y_s (pc' := 155) (L' := [some (vR (some 137)), some (vI l1), some (vI l2), some (vI l3), some (vI l4), some (vI l5), some (vI l6)]) (st' := [vI l6, vI (zw ((zw (60 * l1)) + l2)), vR (some 169), vI (zw ((zw ((zw (60 * l3)) + l4)) + l6)), vR (some 169)]) (h' := h) f218_153 rfl ?_
    refine y_s (pc' := 156) (L' := [some (vR (some 137)), some (vI l1), some (vI l2), some (vI l3), some (vI l4), some (vI l5), some (vI l6)]) (st' := [vI (zw ((zw ((zw (60 * l1)) + l2)) + l6)), vR (some 169), vI (zw ((zw ((zw (60 * l3)) + l4)) + l6)), vR (some 169)]) (h' := h) f218_155 rfl ?_
    refine y_ja (pc' := 157) (x := (zJ h 169 ((zw ((zw ((zw (60 * l1)) + l2)) + l6))).toNat)) f218_156 (ys169 w) k.1 rfl rfl ?_
    replace k := k.2
    refine y_js (pc' := 158) (h' := (zsetJ h 169 ((zw ((zw ((zw (60 * l3)) + l4)) + l6))).toNat (zJ h 169 ((zw ((zw ((zw (60 * l1)) + l2)) + l6))).toNat))) f218_157 (ys169 w) (by decide) k.1 rfl rfl ?_
    replace k := k.2
    refine y_inc (pc' := 161) (L' := [some (vR (some 137)), some (vI l1), some (vI l2), some (vI l3), some (vI l4), some (vI l5), some (vI (zw (l6 + (-1))))]) f218_158 rfl rfl rfl rfl ?_
    refine y_go (pc' := 124) f218_161 rfl ?_
    exact k
theorem W218_170 {d : Nat} {K : Int → Hp → Prop} (w : yWF zl nl h) {l1 : Int} {l2 : Int} {l3 : Int} {l4 : Int} {l5 : Int} {l6 : Int} (k : ((l5 ≤ l6 → K l5 h) ∧ (¬ (l5 ≤ l6) → ((0 ≤ (zw ((zw ((zw (60 * l1)) + l2)) + l6)) ∧ (zw ((zw ((zw (60 * l1)) + l2)) + l6)) < 360) ∧ ((0 ≤ (zw ((zw ((zw (60 * l3)) + l4)) + l6)) ∧ (zw ((zw ((zw (60 * l3)) + l4)) + l6)) < 360) ∧ ZW d prog_10_method_75_code 8 170 [some (vR (some 137)), some (vI l1), some (vI l2), some (vI l3), some (vI l4), some (vI l5), some (vI (zw (l6 + 1)))] [] (zsetJ h 169 ((zw ((zw ((zw (60 * l3)) + l4)) + l6))).toNat (zJ h 169 ((zw ((zw ((zw (60 * l1)) + l2)) + l6))).toNat)) (yq 1 (yqI K))))))) : ZW d prog_10_method_75_code 8 170 [some (vR (some 137)), some (vI l1), some (vI l2), some (vI l3), some (vI l4), some (vI l5), some (vI l6)] [] h (yq 1 (yqI K)) := by
  refine y_s (pc' := 172) (L' := [some (vR (some 137)), some (vI l1), some (vI l2), some (vI l3), some (vI l4), some (vI l5), some (vI l6)]) (st' := [vI l6]) (h' := h) f218_170 rfl ?_
  refine y_s (pc' := 174) (L' := [some (vR (some 137)), some (vI l1), some (vI l2), some (vI l3), some (vI l4), some (vI l5), some (vI l6)]) (st' := [vI l5, vI l6]) (h' := h) f218_172 rfl ?_
  refine y_ic (pcT := 212) (pc' := 177) (P := l5 ≤ l6) f218_174 rfl rfl rfl (fun c => ?_) (fun c => ?_)
  · replace k := k.1 c
    refine y_s (pc' := 214) (L' := [some (vR (some 137)), some (vI l1), some (vI l2), some (vI l3), some (vI l4), some (vI l5), some (vI l6)]) (st' := [vI l5]) (h' := h) f218_212 rfl ?_
    exact y_ri f218_214 ⟨rfl, k⟩
  · replace k := k.2 c
    refine y_s (pc' := 178) (L' := [some (vR (some 137)), some (vI l1), some (vI l2), some (vI l3), some (vI l4), some (vI l5), some (vI l6)]) (st' := [vR (some 137)]) (h' := h) f218_177 rfl ?_
    refine y_gr (pc' := 181) f218_178 yf_8_106 rfl rfl (ys137 w) (yp137_48 w) rfl ?_
    refine y_s (pc' := 183) (L' := [some (vR (some 137)), some (vI l1), some (vI l2), some (vI l3), some (vI l4), some (vI l5), some (vI l6)]) (st' := [vI 60, vR (some 169)]) (h' := h) f218_181 rfl ?_
    refine y_s (pc' := 184) (L' := [some (vR (some 137)), some (vI l1), some (vI l2), some (vI l3), some (vI l4), some (vI l5), some (vI l6)]) (st' := [vI l3, vI 60, vR (some 169)]) (h' := h) f218_183 rfl ?_
    refine y_s (pc' := 185) (L' := [some (vR (some 137)), some (vI l1), some (vI l2), some (vI l3), some (vI l4), some (vI l5), some (vI l6)]) (st' := [vI (zw (60 * l3)), vR (some 169)]) (h' := h) f218_184 rfl ?_
    refine y_s (pc' := 187) (L' := [some (vR (some 137)), some (vI l1), some (vI l2), some (vI l3), some (vI l4), some (vI l5), some (vI l6)]) (st' := [vI l4, vI (zw (60 * l3)), vR (some 169)]) (h' := h) f218_185 rfl ?_
    refine y_s (pc' := 188) (L' := [some (vR (some 137)), some (vI l1), some (vI l2), some (vI l3), some (vI l4), some (vI l5), some (vI l6)]) (st' := [vI (zw ((zw (60 * l3)) + l4)), vR (some 169)]) (h' := h) f218_187 rfl ?_
    refine y_s (pc' := 190) (L' := [some (vR (some 137)), some (vI l1), some (vI l2), some (vI l3), some (vI l4), some (vI l5), some (vI l6)]) (st' := [vI l6, vI (zw ((zw (60 * l3)) + l4)), vR (some 169)]) (h' := h) f218_188 rfl ?_
    refine y_s (pc' := 191) (L' := [some (vR (some 137)), some (vI l1), some (vI l2), some (vI l3), some (vI l4), some (vI l5), some (vI l6)]) (st' := [vI (zw ((zw ((zw (60 * l3)) + l4)) + l6)), vR (some 169)]) (h' := h) f218_190 rfl ?_
    refine y_s (pc' := 192) (L' := [some (vR (some 137)), some (vI l1), some (vI l2), some (vI l3), some (vI l4), some (vI l5), some (vI l6)]) (st' := [vR (some 137), vI (zw ((zw ((zw (60 * l3)) + l4)) + l6)), vR (some 169)]) (h' := h) f218_191 rfl ?_
    refine y_gr (pc' := 195) f218_192 yf_8_106 rfl rfl (ys137 w) (yp137_48 w) rfl ?_
    refine y_s (pc' := 197) (L' := [some (vR (some 137)), some (vI l1), some (vI l2), some (vI l3), some (vI l4), some (vI l5), some (vI l6)]) (st' := [vI 60, vR (some 169), vI (zw ((zw ((zw (60 * l3)) + l4)) + l6)), vR (some 169)]) (h' := h) f218_195 rfl ?_
    refine y_s (pc' := 198) (L' := [some (vR (some 137)), some (vI l1), some (vI l2), some (vI l3), some (vI l4), some (vI l5), some (vI l6)]) (st' := [vI l1, vI 60, vR (some 169), vI (zw ((zw ((zw (60 * l3)) + l4)) + l6)), vR (some 169)]) (h' := h) f218_197 rfl ?_
    refine y_s (pc' := 199) (L' := [some (vR (some 137)), some (vI l1), some (vI l2), some (vI l3), some (vI l4), some (vI l5), some (vI l6)]) (st' := [vI (zw (60 * l1)), vR (some 169), vI (zw ((zw ((zw (60 * l3)) + l4)) + l6)), vR (some 169)]) (h' := h) f218_198 rfl ?_
    refine y_s (pc' := 200) (L' := [some (vR (some 137)), some (vI l1), some (vI l2), some (vI l3), some (vI l4), some (vI l5), some (vI l6)]) (st' := [vI l2, vI (zw (60 * l1)), vR (some 169), vI (zw ((zw ((zw (60 * l3)) + l4)) + l6)), vR (some 169)]) (h' := h) f218_199 rfl ?_
    refine y_s (pc' := 201) (L' := [some (vR (some 137)), some (vI l1), some (vI l2), some (vI l3), some (vI l4), some (vI l5), some (vI l6)]) (st' := [vI (zw ((zw (60 * l1)) + l2)), vR (some 169), vI (zw ((zw ((zw (60 * l3)) + l4)) + l6)), vR (some 169)]) (h' := h) f218_200 rfl ?_
    refine y_s (pc' := 203) (L' := [some (vR (some 137)), some (vI l1), some (vI l2), some (vI l3), some (vI l4), some (vI l5), some (vI l6)]) (st' := [vI l6, vI (zw ((zw (60 * l1)) + l2)), vR (some 169), vI (zw ((zw ((zw (60 * l3)) + l4)) + l6)), vR (some 169)]) (h' := h) f218_201 rfl ?_
    refine y_s (pc' := 204) (L' := [some (vR (some 137)), some (vI l1), some (vI l2), some (vI l3), some (vI l4), some (vI l5), some (vI l6)]) (st' := [vI (zw ((zw ((zw (60 * l1)) + l2)) + l6)), vR (some 169), vI (zw ((zw ((zw (60 * l3)) + l4)) + l6)), vR (some 169)]) (h' := h) f218_203 rfl ?_
    refine y_ja (pc' := 205) (x := (zJ h 169 ((zw ((zw ((zw (60 * l1)) + l2)) + l6))).toNat)) f218_204 (ys169 w) k.1 rfl rfl ?_
    replace k := k.2
    refine y_js (pc' := 206) (h' := (zsetJ h 169 ((zw ((zw ((zw (60 * l3)) + l4)) + l6))).toNat (zJ h 169 ((zw ((zw ((zw (60 * l1)) + l2)) + l6))).toNat))) f218_205 (ys169 w) (by decide) k.1 rfl rfl ?_
    replace k := k.2
    refine y_inc (pc' := 209) (L' := [some (vR (some 137)), some (vI l1), some (vI l2), some (vI l3), some (vI l4), some (vI l5), some (vI (zw (l6 + 1)))]) f218_206 rfl rfl rfl rfl ?_
    refine y_go (pc' := 170) f218_209 rfl ?_
    exact k
/-- HatterTunesModel.image()I -/
theorem E202 {d : Nat} {K : Int → Hp → Prop} (w : yWF zl nl h) (hd : 1 ≤ d) (k : yU (d - 1) 141 [vR (some 137), vR (some 161)] (zsetV h 137 38 1) (fun h' => ZW d prog_10_method_59_code 8 13 [some (vR (some 137))] [] h' (yq 1 (yqI K)))) : yI d 202 [vR (some 137)] h K := by
  refine y_en (L := [some (vR (some 137))]) rfl rfl ?_
  refine y_s (pc' := 1) (L' := [some (vR (some 137))]) (st' := [vR (some 137)]) (h' := h) f202_0 rfl ?_
  refine y_s (pc' := 2) (L' := [some (vR (some 137))]) (st' := [vI 1, vR (some 137)]) (h' := h) f202_1 rfl ?_
  refine y_pi (pc' := 5) f202_2 yf_8_313 rfl rfl (ys137 w) (by decide) (Or.inr ⟨rfl, by decide⟩) rfl ?_
  refine y_s (pc' := 6) (L' := [some (vR (some 137))]) (st' := [vR (some 137)]) (h' := (zsetV h 137 38 1)) f202_5 rfl ?_
  refine y_s (pc' := 7) (L' := [some (vR (some 137))]) (st' := [vR (some 137), vR (some 137)]) (h' := (zsetV h 137 38 1)) f202_6 rfl ?_
  refine y_gr (pc' := 10) f202_7 yf_8_82 rfl rfl (ys137 w) (yp137_39 w) rfl ?_
  refine y_cU (pc' := 13) (as := [vR (some 137), vR (some 161)]) (r := []) f202_10 (yzv ym_8_269 rfl (ys137 w) rfl rfl) (by omega) rfl ?_
  exact k
theorem W202_13 {d : Nat} {K : Int → Hp → Prop} (w : yWF zl nl h)  (k : K (zV h 137 0) h) : ZW d prog_10_method_59_code 8 13 [some (vR (some 137))] [] h (yq 1 (yqI K)) := by
  refine y_s (pc' := 14) (L' := [some (vR (some 137))]) (st' := [vR (some 137)]) (h' := h) f202_13 rfl ?_
  refine y_gi (pc' := 17) f202_14 yf_8_114 rfl rfl (ys137 w) rfl ?_
  exact y_ri f202_17 ⟨rfl, k⟩
/-- HatterTunesModel.undo()I -/
theorem E203 {d : Nat} {K : Int → Hp → Prop} (w : yWF zl nl h) (hd : 1 ≤ d) (k : (((zV h 137 38) ≠ 0 → yU (d - 1) 145 [vR (some 137), vR (some 161)] h (fun h' => ZW d prog_10_method_60_code 8 18 [some (vR (some 137))] [] h' (yq 1 (yqI K)))) ∧ (¬ ((zV h 137 38) ≠ 0) → K (-3) h))) : yI d 203 [vR (some 137)] h K := by
  refine y_en (L := [some (vR (some 137))]) rfl rfl ?_
  refine y_s (pc' := 1) (L' := [some (vR (some 137))]) (st' := [vR (some 137)]) (h' := h) f203_0 rfl ?_
  refine y_gi (pc' := 4) f203_1 yf_8_313 rfl rfl (ys137 w) rfl ?_
  refine y_if (pcT := 10) (pc' := 7) (P := (zV h 137 38) ≠ 0) f203_4 rfl rfl rfl (fun c => ?_) (fun c => ?_)
  · replace k := k.1 c
    refine y_s (pc' := 11) (L' := [some (vR (some 137))]) (st' := [vR (some 137)]) (h' := h) f203_10 rfl ?_
    refine y_s (pc' := 12) (L' := [some (vR (some 137))]) (st' := [vR (some 137), vR (some 137)]) (h' := h) f203_11 rfl ?_
    refine y_gr (pc' := 15) f203_12 yf_8_82 rfl rfl (ys137 w) (yp137_39 w) rfl ?_
    refine y_cU (pc' := 18) (as := [vR (some 137), vR (some 161)]) (r := []) f203_15 (yzv ym_8_273 rfl (ys137 w) rfl rfl) (by omega) rfl ?_
    exact k
  · replace k := k.2 c
    refine y_s (pc' := 9) (L' := [some (vR (some 137))]) (st' := [vI (-3)]) (h' := h) f203_7 rfl ?_
    exact y_ri f203_9 ⟨rfl, k⟩
theorem W203_18 {d : Nat} {K : Int → Hp → Prop} (w : yWF zl nl h)  (k : K (zV h 137 0) h) : ZW d prog_10_method_60_code 8 18 [some (vR (some 137))] [] h (yq 1 (yqI K)) := by
  refine y_s (pc' := 19) (L' := [some (vR (some 137))]) (st' := [vR (some 137)]) (h' := h) f203_18 rfl ?_
  refine y_gi (pc' := 22) f203_19 yf_8_114 rfl rfl (ys137 w) rfl ?_
  exact y_ri f203_22 ⟨rfl, k⟩
/-- HatterTunesModel.act(III)I -/
theorem E204 {d : Nat} {K : Int → Hp → Prop} (w : yWF zl nl h) {x0 : Int} {x1 : Int} {x2 : Int} (hd : 2 ≤ d) (k : (((0 : Int) ≤ zV (zsetV h 137 36 0) 137 0 ∧ zV (zsetV h 137 36 0) 137 0 ≤ 6) ∧ ((((0 : Int) ≤ x0 ∧ x0 < zV (zsetV h 137 36 0) 137 0) → ((((0 : Int) ≤ x1 ∧ x1 ≤ 2) → ((0 ≤ x0 ∧ x0 < 6) ∧ ((x1 ≠ 0 → ((x1 ≠ 1 → yI (d - 1) 209 [vR (some 137), vI x0, vI (zV (zsetV h 137 36 0) 138 (x0).toNat), vI x2] (zsetV h 137 36 0) (fun x h' => ZW d prog_10_method_66_code 8 71 [some (vR (some 137)), some (vI x0), some (vI x1), some (vI x2), some (vI (zV (zsetV h 137 36 0) 138 (x0).toNat))] [vI x] h' (yq 1 (yqI K)))) ∧ (¬ (x1 ≠ 1) → yI (d - 1) 208 [vR (some 137), vI x0, vI (zV (zsetV h 137 36 0) 138 (x0).toNat), vI x2] (zsetV h 137 36 0) (fun x h' => ZW d prog_10_method_66_code 8 60 [some (vR (some 137)), some (vI x0), some (vI x1), some (vI x2), some (vI (zV (zsetV h 137 36 0) 138 (x0).toNat))] [vI x] h' (yq 1 (yqI K)))))) ∧ (¬ (x1 ≠ 0) → yI (d - 1) 205 [vR (some 137), vI x0, vI (zV (zsetV h 137 36 0) 138 (x0).toNat), vI x2] (zsetV h 137 36 0) (fun x h' => ZW d prog_10_method_66_code 8 44 [some (vR (some 137)), some (vI x0), some (vI x1), some (vI x2), some (vI (zV (zsetV h 137 36 0) 138 (x0).toNat))] [vI x] h' (yq 1 (yqI K))))))) ∧ (¬ (((0 : Int) ≤ x1 ∧ x1 ≤ 2)) → K 0 (zsetV h 137 36 0)))) ∧ (¬ (((0 : Int) ≤ x0 ∧ x0 < zV (zsetV h 137 36 0) 137 0)) → K 0 (zsetV h 137 36 0))))) : yI d 204 [vR (some 137), vI x0, vI x1, vI x2] h K := by
  refine y_en (L := [some (vR (some 137)), some (vI x0), some (vI x1), some (vI x2), none]) rfl rfl ?_
  refine y_s (pc' := 1) (L' := [some (vR (some 137)), some (vI x0), some (vI x1), some (vI x2), none]) (st' := [vR (some 137)]) (h' := h) f204_0 rfl ?_
  refine y_s (pc' := 2) (L' := [some (vR (some 137)), some (vI x0), some (vI x1), some (vI x2), none]) (st' := [vI 0, vR (some 137)]) (h' := h) f204_1 rfl ?_
  refine y_pi (pc' := 5) f204_2 yf_8_317 rfl rfl (ys137 w) (by decide) (Or.inl rfl) rfl ?_
  refine y_s (pc' := 6) (L' := [some (vR (some 137)), some (vI x0), some (vI x1), some (vI x2), none]) (st' := [vR (some 137)]) (h' := (zsetV h 137 36 0)) f204_5 rfl ?_
  refine y_s (pc' := 7) (L' := [some (vR (some 137)), some (vI x0), some (vI x1), some (vI x2), none]) (st' := [vI x0, vR (some 137)]) (h' := (zsetV h 137 36 0)) f204_6 rfl ?_
  refine y_cI (pc' := 10) (as := [vR (some 137), vI x0]) (r := []) f204_7 (yzv ym_8_121 rfl (ys137 w) rfl rfl) (by omega) rfl ?_
  have p0 := k.1
  replace k := k.2
  refine sp131 w (by omega) p0 (fun c => ?_) (fun c => ?_)
  · replace k := k.1 c
    refine y_iff (pcT := 22) (pc' := 13) f204_10 rfl rfl rfl ?_
    refine y_s (pc' := 14) (L' := [some (vR (some 137)), some (vI x0), some (vI x1), some (vI x2), none]) (st' := [vI x1]) (h' := (zsetV h 137 36 0)) f204_13 rfl ?_
    refine y_s (pc' := 15) (L' := [some (vR (some 137)), some (vI x0), some (vI x1), some (vI x2), none]) (st' := [vI 0, vI x1]) (h' := (zsetV h 137 36 0)) f204_14 rfl ?_
    refine y_s (pc' := 16) (L' := [some (vR (some 137)), some (vI x0), some (vI x1), some (vI x2), none]) (st' := [vI 2, vI 0, vI x1]) (h' := (zsetV h 137 36 0)) f204_15 rfl ?_
    refine y_cI (pc' := 19) (as := [vI x1, vI 0, vI 2]) (r := []) f204_16 rfl (by omega) rfl ?_
    refine sp129 w (fun c => ?_) (fun c => ?_)
    · replace k := k.1 c
      refine y_ift (pcT := 24) f204_19 rfl rfl ?_
      refine y_s (pc' := 25) (L' := [some (vR (some 137)), some (vI x0), some (vI x1), some (vI x2), none]) (st' := [vR (some 137)]) (h' := (zsetV h 137 36 0)) f204_24 rfl ?_
      refine y_gr (pc' := 28) f204_25 yf_8_9 rfl rfl (ys137 w) (yp137_1 w) rfl ?_
      refine y_s (pc' := 29) (L' := [some (vR (some 137)), some (vI x0), some (vI x1), some (vI x2), none]) (st' := [vI x0, vR (some 138)]) (h' := (zsetV h 137 36 0)) f204_28 rfl ?_
      refine y_ia (pc' := 30) (x := (zV (zsetV h 137 36 0) 138 (x0).toNat)) f204_29 (ys138 w) k.1 rfl rfl ?_
      replace k := k.2
      refine y_sto (pc' := 32) (k := 4) (L' := [some (vR (some 137)), some (vI x0), some (vI x1), some (vI x2), some (vI (zV (zsetV h 137 36 0) 138 (x0).toNat))]) f204_30 rfl rfl rfl rfl rfl rfl ?_
      refine y_s (pc' := 33) (L' := [some (vR (some 137)), some (vI x0), some (vI x1), some (vI x2), some (vI (zV (zsetV h 137 36 0) 138 (x0).toNat))]) (st' := [vI x1]) (h' := (zsetV h 137 36 0)) f204_32 rfl ?_
      refine y_if (pcT := 47) (pc' := 36) (P := x1 ≠ 0) f204_33 rfl rfl rfl (fun c => ?_) (fun c => ?_)
      · replace k := k.1 c
        refine y_s (pc' := 48) (L' := [some (vR (some 137)), some (vI x0), some (vI x1), some (vI x2), some (vI (zV (zsetV h 137 36 0) 138 (x0).toNat))]) (st' := [vI x1]) (h' := (zsetV h 137 36 0)) f204_47 rfl ?_
        refine y_s (pc' := 49) (L' := [some (vR (some 137)), some (vI x0), some (vI x1), some (vI x2), some (vI (zV (zsetV h 137 36 0) 138 (x0).toNat))]) (st' := [vI 1, vI x1]) (h' := (zsetV h 137 36 0)) f204_48 rfl ?_
        refine y_ic (pcT := 63) (pc' := 52) (P := x1 ≠ 1) f204_49 rfl rfl rfl (fun c => ?_) (fun c => ?_)
        · replace k := k.1 c
          refine y_s (pc' := 64) (L' := [some (vR (some 137)), some (vI x0), some (vI x1), some (vI x2), some (vI (zV (zsetV h 137 36 0) 138 (x0).toNat))]) (st' := [vR (some 137)]) (h' := (zsetV h 137 36 0)) f204_63 rfl ?_
          refine y_s (pc' := 65) (L' := [some (vR (some 137)), some (vI x0), some (vI x1), some (vI x2), some (vI (zV (zsetV h 137 36 0) 138 (x0).toNat))]) (st' := [vI x0, vR (some 137)]) (h' := (zsetV h 137 36 0)) f204_64 rfl ?_
          refine y_s (pc' := 67) (L' := [some (vR (some 137)), some (vI x0), some (vI x1), some (vI x2), some (vI (zV (zsetV h 137 36 0) 138 (x0).toNat))]) (st' := [vI (zV (zsetV h 137 36 0) 138 (x0).toNat), vI x0, vR (some 137)]) (h' := (zsetV h 137 36 0)) f204_65 rfl ?_
          refine y_s (pc' := 68) (L' := [some (vR (some 137)), some (vI x0), some (vI x1), some (vI x2), some (vI (zV (zsetV h 137 36 0) 138 (x0).toNat))]) (st' := [vI x2, vI (zV (zsetV h 137 36 0) 138 (x0).toNat), vI x0, vR (some 137)]) (h' := (zsetV h 137 36 0)) f204_67 rfl ?_
          refine y_cI (pc' := 71) (as := [vR (some 137), vI x0, vI (zV (zsetV h 137 36 0) 138 (x0).toNat), vI x2]) (r := []) f204_68 (yzv ym_8_333 rfl (ys137 w) rfl rfl) (by omega) rfl ?_
          exact k
        · replace k := k.2 c
          refine y_s (pc' := 53) (L' := [some (vR (some 137)), some (vI x0), some (vI x1), some (vI x2), some (vI (zV (zsetV h 137 36 0) 138 (x0).toNat))]) (st' := [vR (some 137)]) (h' := (zsetV h 137 36 0)) f204_52 rfl ?_
          refine y_s (pc' := 54) (L' := [some (vR (some 137)), some (vI x0), some (vI x1), some (vI x2), some (vI (zV (zsetV h 137 36 0) 138 (x0).toNat))]) (st' := [vI x0, vR (some 137)]) (h' := (zsetV h 137 36 0)) f204_53 rfl ?_
          refine y_s (pc' := 56) (L' := [some (vR (some 137)), some (vI x0), some (vI x1), some (vI x2), some (vI (zV (zsetV h 137 36 0) 138 (x0).toNat))]) (st' := [vI (zV (zsetV h 137 36 0) 138 (x0).toNat), vI x0, vR (some 137)]) (h' := (zsetV h 137 36 0)) f204_54 rfl ?_
          refine y_s (pc' := 57) (L' := [some (vR (some 137)), some (vI x0), some (vI x1), some (vI x2), some (vI (zV (zsetV h 137 36 0) 138 (x0).toNat))]) (st' := [vI x2, vI (zV (zsetV h 137 36 0) 138 (x0).toNat), vI x0, vR (some 137)]) (h' := (zsetV h 137 36 0)) f204_56 rfl ?_
          refine y_cI (pc' := 60) (as := [vR (some 137), vI x0, vI (zV (zsetV h 137 36 0) 138 (x0).toNat), vI x2]) (r := []) f204_57 (yzv ym_8_330 rfl (ys137 w) rfl rfl) (by omega) rfl ?_
          exact k
      · replace k := k.2 c
        refine y_s (pc' := 37) (L' := [some (vR (some 137)), some (vI x0), some (vI x1), some (vI x2), some (vI (zV (zsetV h 137 36 0) 138 (x0).toNat))]) (st' := [vR (some 137)]) (h' := (zsetV h 137 36 0)) f204_36 rfl ?_
        refine y_s (pc' := 38) (L' := [some (vR (some 137)), some (vI x0), some (vI x1), some (vI x2), some (vI (zV (zsetV h 137 36 0) 138 (x0).toNat))]) (st' := [vI x0, vR (some 137)]) (h' := (zsetV h 137 36 0)) f204_37 rfl ?_
        refine y_s (pc' := 40) (L' := [some (vR (some 137)), some (vI x0), some (vI x1), some (vI x2), some (vI (zV (zsetV h 137 36 0) 138 (x0).toNat))]) (st' := [vI (zV (zsetV h 137 36 0) 138 (x0).toNat), vI x0, vR (some 137)]) (h' := (zsetV h 137 36 0)) f204_38 rfl ?_
        refine y_s (pc' := 41) (L' := [some (vR (some 137)), some (vI x0), some (vI x1), some (vI x2), some (vI (zV (zsetV h 137 36 0) 138 (x0).toNat))]) (st' := [vI x2, vI (zV (zsetV h 137 36 0) 138 (x0).toNat), vI x0, vR (some 137)]) (h' := (zsetV h 137 36 0)) f204_40 rfl ?_
        refine y_cI (pc' := 44) (as := [vR (some 137), vI x0, vI (zV (zsetV h 137 36 0) 138 (x0).toNat), vI x2]) (r := []) f204_41 (yzv ym_8_324 rfl (ys137 w) rfl rfl) (by omega) rfl ?_
        exact k
    · replace k := k.2 c
      refine y_iff (pcT := 24) (pc' := 22) f204_19 rfl rfl rfl ?_
      refine y_s (pc' := 23) (L' := [some (vR (some 137)), some (vI x0), some (vI x1), some (vI x2), none]) (st' := [vI 0]) (h' := (zsetV h 137 36 0)) f204_22 rfl ?_
      exact y_ri f204_23 ⟨rfl, k⟩
  · replace k := k.2 c
    refine y_ift (pcT := 22) f204_10 rfl rfl ?_
    refine y_s (pc' := 23) (L' := [some (vR (some 137)), some (vI x0), some (vI x1), some (vI x2), none]) (st' := [vI 0]) (h' := (zsetV h 137 36 0)) f204_22 rfl ?_
    exact y_ri f204_23 ⟨rfl, k⟩
theorem W204_44 {d : Nat} {K : Int → Hp → Prop} (w : yWF zl nl h) {l1 : Int} {l2 : Int} {l3 : Int} {l4 : Int} {s0 : Int} (k : K s0 h) : ZW d prog_10_method_66_code 8 44 [some (vR (some 137)), some (vI l1), some (vI l2), some (vI l3), some (vI l4)] [vI s0] h (yq 1 (yqI K)) := by
  refine y_go (pc' := 71) f204_44 rfl ?_
  exact y_ri f204_71 ⟨rfl, k⟩
theorem W204_60 {d : Nat} {K : Int → Hp → Prop} (w : yWF zl nl h) {l1 : Int} {l2 : Int} {l3 : Int} {l4 : Int} {s0 : Int} (k : K s0 h) : ZW d prog_10_method_66_code 8 60 [some (vR (some 137)), some (vI l1), some (vI l2), some (vI l3), some (vI l4)] [vI s0] h (yq 1 (yqI K)) := by
  refine y_go (pc' := 71) f204_60 rfl ?_
  exact y_ri f204_71 ⟨rfl, k⟩
theorem W204_71 {d : Nat} {K : Int → Hp → Prop} (w : yWF zl nl h) {l1 : Int} {l2 : Int} {l3 : Int} {l4 : Int} {s0 : Int} (k : K s0 h) : ZW d prog_10_method_66_code 8 71 [some (vR (some 137)), some (vI l1), some (vI l2), some (vI l3), some (vI l4)] [vI s0] h (yq 1 (yqI K)) := by
  exact y_ri f204_71 ⟨rfl, k⟩
/-- HatterTunesModel.hums(III)I -/
theorem E205 {d : Nat} {K : Int → Hp → Prop} (w : yWF zl nl h) {x0 : Int} {x1 : Int} {x2 : Int} (hd : 1 ≤ d) (k : ((x1 = 0 → yU (d - 1) 206 [vR (some 137), vI 10] h (fun h' => ZW d prog_10_method_63_code 8 102 [some (vR (some 137)), some (vI x0), some (vI x1), some (vI x2)] [] h' (yq 1 (yqI K)))) ∧ (x1 = 1 → yI (d - 1) 207 [vI x1] h (fun x h' => ZW d prog_10_method_63_code 8 112 [some (vR (some 137)), some (vI x0), some (vI x1), some (vI x2)] [vI x, vI x0, vR (some 137)] h' (yq 1 (yqI K)))) ∧ (x1 = 2 → yU (d - 1) 206 [vR (some 137), vI 30] h (fun h' => ZW d prog_10_method_63_code 8 50 [some (vR (some 137)), some (vI x0), some (vI x1), some (vI x2)] [] h' (yq 1 (yqI K)))) ∧ (x1 = 3 → yI (d - 1) 207 [vI x1] h (fun x h' => ZW d prog_10_method_63_code 8 112 [some (vR (some 137)), some (vI x0), some (vI x1), some (vI x2)] [vI x, vI x0, vR (some 137)] h' (yq 1 (yqI K)))) ∧ (x1 = 4 → yU (d - 1) 206 [vR (some 137), vI 50] h (fun h' => ZW d prog_10_method_63_code 8 66 [some (vR (some 137)), some (vI x0), some (vI x1), some (vI x2)] [] h' (yq 1 (yqI K)))) ∧ (x1 = 5 → yI (d - 1) 207 [vI x1] h (fun x h' => ZW d prog_10_method_63_code 8 112 [some (vR (some 137)), some (vI x0), some (vI x1), some (vI x2)] [vI x, vI x0, vR (some 137)] h' (yq 1 (yqI K)))) ∧ (x1 = 6 → yU (d - 1) 206 [vR (some 137), vI 71] h (fun h' => ZW d prog_10_method_63_code 8 81 [some (vR (some 137)), some (vI x0), some (vI x1), some (vI x2)] [] h' (yq 1 (yqI K)))) ∧ (x1 < 0 ∨ 6 < x1 → yI (d - 1) 207 [vI x1] h (fun x h' => ZW d prog_10_method_63_code 8 112 [some (vR (some 137)), some (vI x0), some (vI x1), some (vI x2)] [vI x, vI x0, vR (some 137)] h' (yq 1 (yqI K)))))) : yI d 205 [vR (some 137), vI x0, vI x1, vI x2] h K := by
  refine y_en (L := [some (vR (some 137)), some (vI x0), some (vI x1), some (vI x2)]) rfl rfl ?_
  refine y_s (pc' := 1) (L' := [some (vR (some 137)), some (vI x0), some (vI x1), some (vI x2)]) (st' := [vI x1]) (h' := h) f205_0 rfl ?_
  by_cases c : x1 = 0
  · refine y_tc (pc' := 96) (v := 0) f205_1 c rfl rfl rfl ?_
    replace k := k.1 c
    refine y_s (pc' := 97) (L' := [some (vR (some 137)), some (vI x0), some (vI x1), some (vI x2)]) (st' := [vR (some 137)]) (h' := h) f205_96 rfl ?_
    refine y_s (pc' := 99) (L' := [some (vR (some 137)), some (vI x0), some (vI x1), some (vI x2)]) (st' := [vI 10, vR (some 137)]) (h' := h) f205_97 rfl ?_
    refine y_cU (pc' := 102) (as := [vR (some 137), vI 10]) (r := []) f205_99 (yzv ym_8_320 rfl (ys137 w) rfl rfl) (by omega) rfl ?_
    exact k
  replace k := k.2
  have c0 := c
  by_cases c : x1 = 1
  · refine y_tc (pc' := 106) (v := 1) f205_1 c rfl rfl rfl ?_
    replace k := k.1 c
    refine y_s (pc' := 107) (L' := [some (vR (some 137)), some (vI x0), some (vI x1), some (vI x2)]) (st' := [vR (some 137)]) (h' := h) f205_106 rfl ?_
    refine y_s (pc' := 108) (L' := [some (vR (some 137)), some (vI x0), some (vI x1), some (vI x2)]) (st' := [vI x0, vR (some 137)]) (h' := h) f205_107 rfl ?_
    refine y_s (pc' := 109) (L' := [some (vR (some 137)), some (vI x0), some (vI x1), some (vI x2)]) (st' := [vI x1, vI x0, vR (some 137)]) (h' := h) f205_108 rfl ?_
    refine y_cI (pc' := 112) (as := [vI x1]) (r := [vI x0, vR (some 137)]) f205_109 rfl (by omega) rfl ?_
    exact k
  replace k := k.2
  have c1 := c
  by_cases c : x1 = 2
  · refine y_tc (pc' := 44) (v := 2) f205_1 c rfl rfl rfl ?_
    replace k := k.1 c
    refine y_s (pc' := 45) (L' := [some (vR (some 137)), some (vI x0), some (vI x1), some (vI x2)]) (st' := [vR (some 137)]) (h' := h) f205_44 rfl ?_
    refine y_s (pc' := 47) (L' := [some (vR (some 137)), some (vI x0), some (vI x1), some (vI x2)]) (st' := [vI 30, vR (some 137)]) (h' := h) f205_45 rfl ?_
    refine y_cU (pc' := 50) (as := [vR (some 137), vI 30]) (r := []) f205_47 (yzv ym_8_320 rfl (ys137 w) rfl rfl) (by omega) rfl ?_
    exact k
  replace k := k.2
  have c2 := c
  by_cases c : x1 = 3
  · refine y_tc (pc' := 106) (v := 3) f205_1 c rfl rfl rfl ?_
    replace k := k.1 c
    refine y_s (pc' := 107) (L' := [some (vR (some 137)), some (vI x0), some (vI x1), some (vI x2)]) (st' := [vR (some 137)]) (h' := h) f205_106 rfl ?_
    refine y_s (pc' := 108) (L' := [some (vR (some 137)), some (vI x0), some (vI x1), some (vI x2)]) (st' := [vI x0, vR (some 137)]) (h' := h) f205_107 rfl ?_
    refine y_s (pc' := 109) (L' := [some (vR (some 137)), some (vI x0), some (vI x1), some (vI x2)]) (st' := [vI x1, vI x0, vR (some 137)]) (h' := h) f205_108 rfl ?_
    refine y_cI (pc' := 112) (as := [vI x1]) (r := [vI x0, vR (some 137)]) f205_109 rfl (by omega) rfl ?_
    exact k
  replace k := k.2
  have c3 := c
  by_cases c : x1 = 4
  · refine y_tc (pc' := 60) (v := 4) f205_1 c rfl rfl rfl ?_
    replace k := k.1 c
    refine y_s (pc' := 61) (L' := [some (vR (some 137)), some (vI x0), some (vI x1), some (vI x2)]) (st' := [vR (some 137)]) (h' := h) f205_60 rfl ?_
    refine y_s (pc' := 63) (L' := [some (vR (some 137)), some (vI x0), some (vI x1), some (vI x2)]) (st' := [vI 50, vR (some 137)]) (h' := h) f205_61 rfl ?_
    refine y_cU (pc' := 66) (as := [vR (some 137), vI 50]) (r := []) f205_63 (yzv ym_8_320 rfl (ys137 w) rfl rfl) (by omega) rfl ?_
    exact k
  replace k := k.2
  have c4 := c
  by_cases c : x1 = 5
  · refine y_tc (pc' := 106) (v := 5) f205_1 c rfl rfl rfl ?_
    replace k := k.1 c
    refine y_s (pc' := 107) (L' := [some (vR (some 137)), some (vI x0), some (vI x1), some (vI x2)]) (st' := [vR (some 137)]) (h' := h) f205_106 rfl ?_
    refine y_s (pc' := 108) (L' := [some (vR (some 137)), some (vI x0), some (vI x1), some (vI x2)]) (st' := [vI x0, vR (some 137)]) (h' := h) f205_107 rfl ?_
    refine y_s (pc' := 109) (L' := [some (vR (some 137)), some (vI x0), some (vI x1), some (vI x2)]) (st' := [vI x1, vI x0, vR (some 137)]) (h' := h) f205_108 rfl ?_
    refine y_cI (pc' := 112) (as := [vI x1]) (r := [vI x0, vR (some 137)]) f205_109 rfl (by omega) rfl ?_
    exact k
  replace k := k.2
  have c5 := c
  by_cases c : x1 = 6
  · refine y_tc (pc' := 75) (v := 6) f205_1 c rfl rfl rfl ?_
    replace k := k.1 c
    refine y_s (pc' := 76) (L' := [some (vR (some 137)), some (vI x0), some (vI x1), some (vI x2)]) (st' := [vR (some 137)]) (h' := h) f205_75 rfl ?_
    refine y_s (pc' := 78) (L' := [some (vR (some 137)), some (vI x0), some (vI x1), some (vI x2)]) (st' := [vI 71, vR (some 137)]) (h' := h) f205_76 rfl ?_
    refine y_cU (pc' := 81) (as := [vR (some 137), vI 71]) (r := []) f205_78 (yzv ym_8_320 rfl (ys137 w) rfl rfl) (by omega) rfl ?_
    exact k
  replace k := k.2
  have c6 := c
  have cc : x1 < 0 ∨ 6 < x1 := by omega
  refine y_td (pc' := 106) f205_1 cc rfl ?_
  replace k := k cc
  refine y_s (pc' := 107) (L' := [some (vR (some 137)), some (vI x0), some (vI x1), some (vI x2)]) (st' := [vR (some 137)]) (h' := h) f205_106 rfl ?_
  refine y_s (pc' := 108) (L' := [some (vR (some 137)), some (vI x0), some (vI x1), some (vI x2)]) (st' := [vI x0, vR (some 137)]) (h' := h) f205_107 rfl ?_
  refine y_s (pc' := 109) (L' := [some (vR (some 137)), some (vI x0), some (vI x1), some (vI x2)]) (st' := [vI x1, vI x0, vR (some 137)]) (h' := h) f205_108 rfl ?_
  refine y_cI (pc' := 112) (as := [vI x1]) (r := [vI x0, vR (some 137)]) f205_109 rfl (by omega) rfl ?_
  exact k
theorem W205_50 {d : Nat} {K : Int → Hp → Prop} (w : yWF zl nl h) {l1 : Int} {l2 : Int} {l3 : Int} (hd : 1 ≤ d) (k : yI (d - 1) 205 [vR (some 137), vI l1, vI 0, vI (zw (l3 * 3))] h (fun x h' => ZW d prog_10_method_63_code 8 59 [some (vR (some 137)), some (vI l1), some (vI l2), some (vI l3)] [vI x] h' (yq 1 (yqI K)))) : ZW d prog_10_method_63_code 8 50 [some (vR (some 137)), some (vI l1), some (vI l2), some (vI l3)] [] h (yq 1 (yqI K)) := by
  refine y_s (pc' := 51) (L' := [some (vR (some 137)), some (vI l1), some (vI l2), some (vI l3)]) (st' := [vR (some 137)]) (h' := h) f205_50 rfl ?_
  refine y_s (pc' := 52) (L' := [some (vR (some 137)), some (vI l1), some (vI l2), some (vI l3)]) (st' := [vI l1, vR (some 137)]) (h' := h) f205_51 rfl ?_
  refine y_s (pc' := 53) (L' := [some (vR (some 137)), some (vI l1), some (vI l2), some (vI l3)]) (st' := [vI 0, vI l1, vR (some 137)]) (h' := h) f205_52 rfl ?_
  refine y_s (pc' := 54) (L' := [some (vR (some 137)), some (vI l1), some (vI l2), some (vI l3)]) (st' := [vI l3, vI 0, vI l1, vR (some 137)]) (h' := h) f205_53 rfl ?_
  refine y_s (pc' := 55) (L' := [some (vR (some 137)), some (vI l1), some (vI l2), some (vI l3)]) (st' := [vI 3, vI l3, vI 0, vI l1, vR (some 137)]) (h' := h) f205_54 rfl ?_
  refine y_s (pc' := 56) (L' := [some (vR (some 137)), some (vI l1), some (vI l2), some (vI l3)]) (st' := [vI (zw (l3 * 3)), vI 0, vI l1, vR (some 137)]) (h' := h) f205_55 rfl ?_
  refine y_cI (pc' := 59) (as := [vR (some 137), vI l1, vI 0, vI (zw (l3 * 3))]) (r := []) f205_56 (yzv ym_8_324 rfl (ys137 w) rfl rfl) (by omega) rfl ?_
  exact k
theorem W205_59 {d : Nat} {K : Int → Hp → Prop} (w : yWF zl nl h) {l1 : Int} {l2 : Int} {l3 : Int} {s0 : Int} (k : K s0 h) : ZW d prog_10_method_63_code 8 59 [some (vR (some 137)), some (vI l1), some (vI l2), some (vI l3)] [vI s0] h (yq 1 (yqI K)) := by
  exact y_ri f205_59 ⟨rfl, k⟩
theorem W205_66 {d : Nat} {K : Int → Hp → Prop} (w : yWF zl nl h) {l1 : Int} {l2 : Int} {l3 : Int} (hd : 1 ≤ d) (k : yI (d - 1) 205 [vR (some 137), vI l1, vI 1, vI l3] h (fun x h' => ZW d prog_10_method_63_code 8 73 [some (vR (some 137)), some (vI l1), some (vI l2), some (vI l3)] [vI x] h' (yq 1 (yqI K)))) : ZW d prog_10_method_63_code 8 66 [some (vR (some 137)), some (vI l1), some (vI l2), some (vI l3)] [] h (yq 1 (yqI K)) := by
  refine y_s (pc' := 67) (L' := [some (vR (some 137)), some (vI l1), some (vI l2), some (vI l3)]) (st' := [vR (some 137)]) (h' := h) f205_66 rfl ?_
  refine y_s (pc' := 68) (L' := [some (vR (some 137)), some (vI l1), some (vI l2), some (vI l3)]) (st' := [vI l1, vR (some 137)]) (h' := h) f205_67 rfl ?_
  refine y_s (pc' := 69) (L' := [some (vR (some 137)), some (vI l1), some (vI l2), some (vI l3)]) (st' := [vI 1, vI l1, vR (some 137)]) (h' := h) f205_68 rfl ?_
  refine y_s (pc' := 70) (L' := [some (vR (some 137)), some (vI l1), some (vI l2), some (vI l3)]) (st' := [vI l3, vI 1, vI l1, vR (some 137)]) (h' := h) f205_69 rfl ?_
  refine y_cI (pc' := 73) (as := [vR (some 137), vI l1, vI 1, vI l3]) (r := []) f205_70 (yzv ym_8_324 rfl (ys137 w) rfl rfl) (by omega) rfl ?_
  exact k
theorem W205_73 {d : Nat} {K : Int → Hp → Prop} (w : yWF zl nl h) {l1 : Int} {l2 : Int} {l3 : Int} {s0 : Int} (k : K (zw (-s0)) h) : ZW d prog_10_method_63_code 8 73 [some (vR (some 137)), some (vI l1), some (vI l2), some (vI l3)] [vI s0] h (yq 1 (yqI K)) := by
  refine y_s (pc' := 74) (L' := [some (vR (some 137)), some (vI l1), some (vI l2), some (vI l3)]) (st' := [vI (zw (-s0))]) (h' := h) f205_73 rfl ?_
  exact y_ri f205_74 ⟨rfl, k⟩
theorem W205_81 {d : Nat} {K : Int → Hp → Prop} (w : yWF zl nl h) {l1 : Int} {l2 : Int} {l3 : Int} (hd : 1 ≤ d) (k : yI (d - 1) 205 [vR (some 137), vI l1, vI 3, vI l3] h (fun x h' => ZW d prog_10_method_63_code 8 88 [some (vR (some 137)), some (vI l1), some (vI l2), some (vI l3)] [vI x] h' (yq 1 (yqI K)))) : ZW d prog_10_method_63_code 8 81 [some (vR (some 137)), some (vI l1), some (vI l2), some (vI l3)] [] h (yq 1 (yqI K)) := by
  refine y_s (pc' := 82) (L' := [some (vR (some 137)), some (vI l1), some (vI l2), some (vI l3)]) (st' := [vR (some 137)]) (h' := h) f205_81 rfl ?_
  refine y_s (pc' := 83) (L' := [some (vR (some 137)), some (vI l1), some (vI l2), some (vI l3)]) (st' := [vI l1, vR (some 137)]) (h' := h) f205_82 rfl ?_
  refine y_s (pc' := 84) (L' := [some (vR (some 137)), some (vI l1), some (vI l2), some (vI l3)]) (st' := [vI 3, vI l1, vR (some 137)]) (h' := h) f205_83 rfl ?_
  refine y_s (pc' := 85) (L' := [some (vR (some 137)), some (vI l1), some (vI l2), some (vI l3)]) (st' := [vI l3, vI 3, vI l1, vR (some 137)]) (h' := h) f205_84 rfl ?_
  refine y_cI (pc' := 88) (as := [vR (some 137), vI l1, vI 3, vI l3]) (r := []) f205_85 (yzv ym_8_324 rfl (ys137 w) rfl rfl) (by omega) rfl ?_
  exact k
theorem W205_88 {d : Nat} {K : Int → Hp → Prop} (w : yWF zl nl h) {l1 : Int} {l2 : Int} {l3 : Int} {s0 : Int} (k : ((0 ≤ l1 ∧ l1 < 6) ∧ K (zxor s0 (zV h 139 (l1).toNat)) h)) : ZW d prog_10_method_63_code 8 88 [some (vR (some 137)), some (vI l1), some (vI l2), some (vI l3)] [vI s0] h (yq 1 (yqI K)) := by
  refine y_s (pc' := 89) (L' := [some (vR (some 137)), some (vI l1), some (vI l2), some (vI l3)]) (st' := [vR (some 137), vI s0]) (h' := h) f205_88 rfl ?_
  refine y_gr (pc' := 92) f205_89 yf_8_15 rfl rfl (ys137 w) (yp137_2 w) rfl ?_
  refine y_s (pc' := 93) (L' := [some (vR (some 137)), some (vI l1), some (vI l2), some (vI l3)]) (st' := [vI l1, vR (some 139), vI s0]) (h' := h) f205_92 rfl ?_
  refine y_ia (pc' := 94) (x := (zV h 139 (l1).toNat)) f205_93 (ys139 w) k.1 rfl rfl ?_
  replace k := k.2
  refine y_s (pc' := 95) (L' := [some (vR (some 137)), some (vI l1), some (vI l2), some (vI l3)]) (st' := [vI (zxor s0 (zV h 139 (l1).toNat))]) (h' := h) f205_94 rfl ?_
  exact y_ri f205_95 ⟨rfl, k⟩
theorem W205_102 {d : Nat} {K : Int → Hp → Prop} (w : yWF zl nl h) {l1 : Int} {l2 : Int} {l3 : Int} (k : K (zw (l3 + l1)) h) : ZW d prog_10_method_63_code 8 102 [some (vR (some 137)), some (vI l1), some (vI l2), some (vI l3)] [] h (yq 1 (yqI K)) := by
  refine y_s (pc' := 103) (L' := [some (vR (some 137)), some (vI l1), some (vI l2), some (vI l3)]) (st' := [vI l3]) (h' := h) f205_102 rfl ?_
  refine y_s (pc' := 104) (L' := [some (vR (some 137)), some (vI l1), some (vI l2), some (vI l3)]) (st' := [vI l1, vI l3]) (h' := h) f205_103 rfl ?_
  refine y_s (pc' := 105) (L' := [some (vR (some 137)), some (vI l1), some (vI l2), some (vI l3)]) (st' := [vI (zw (l3 + l1))]) (h' := h) f205_104 rfl ?_
  exact y_ri f205_105 ⟨rfl, k⟩
theorem W205_112 {d : Nat} {K : Int → Hp → Prop} (w : yWF zl nl h) {l1 : Int} {l2 : Int} {l3 : Int} {s1 : Int} {s2 : Int} (hd : 1 ≤ d) (k : yI (d - 1) 205 [vR (some 137), vI s1, vI s2, vI l3] h (fun x h' => ZW d prog_10_method_63_code 8 116 [some (vR (some 137)), some (vI l1), some (vI l2), some (vI l3)] [vI x] h' (yq 1 (yqI K)))) : ZW d prog_10_method_63_code 8 112 [some (vR (some 137)), some (vI l1), some (vI l2), some (vI l3)] [vI s2, vI s1, vR (some 137)] h (yq 1 (yqI K)) := by
  refine y_s (pc' := 113) (L' := [some (vR (some 137)), some (vI l1), some (vI l2), some (vI l3)]) (st' := [vI l3, vI s2, vI s1, vR (some 137)]) (h' := h) f205_112 rfl ?_
  refine y_cI (pc' := 116) (as := [vR (some 137), vI s1, vI s2, vI l3]) (r := []) f205_113 (yzv ym_8_324 rfl (ys137 w) rfl rfl) (by omega) rfl ?_
  exact k
theorem W205_116 {d : Nat} {K : Int → Hp → Prop} (w : yWF zl nl h) {l1 : Int} {l2 : Int} {l3 : Int} {s0 : Int} (k : K s0 h) : ZW d prog_10_method_63_code 8 116 [some (vR (some 137)), some (vI l1), some (vI l2), some (vI l3)] [vI s0] h (yq 1 (yqI K)) := by
  exact y_ri f205_116 ⟨rfl, k⟩
/-- HatterTunesModel.plays(III)I -/
theorem E208 {d : Nat} {K : Int → Hp → Prop} (w : yWF zl nl h) {x0 : Int} {x1 : Int} {x2 : Int} (hd : 1 ≤ d) (k : ((x1 = 0 → yU (d - 1) 206 [vR (some 137), vI 11] h (fun h' => ZW d prog_10_method_64_code 8 109 [some (vR (some 137)), some (vI x0), some (vI x1), some (vI x2), none] [] h' (yq 1 (yqI K)))) ∧ (x1 = 1 → yU (d - 1) 206 [vR (some 137), vI 20] h (fun h' => ZW d prog_10_method_64_code 8 50 [some (vR (some 137)), some (vI x0), some (vI x1), some (vI x2), none] [] h' (yq 1 (yqI K)))) ∧ (x1 = 2 → yI (d - 1) 207 [vI x1] h (fun x h' => ZW d prog_10_method_64_code 8 135 [some (vR (some 137)), some (vI x0), some (vI x1), some (vI x2), none] [vI x, vI x0, vR (some 137)] h' (yq 1 (yqI K)))) ∧ (x1 = 3 → yI (d - 1) 207 [vI x1] h (fun x h' => ZW d prog_10_method_64_code 8 135 [some (vR (some 137)), some (vI x0), some (vI x1), some (vI x2), none] [vI x, vI x0, vR (some 137)] h' (yq 1 (yqI K)))) ∧ (x1 = 4 → yU (d - 1) 206 [vR (some 137), vI 51] h (fun h' => ZW d prog_10_method_64_code 8 67 [some (vR (some 137)), some (vI x0), some (vI x1), some (vI x2), none] [] h' (yq 1 (yqI K)))) ∧ (x1 = 5 → yI (d - 1) 207 [vI x1] h (fun x h' => ZW d prog_10_method_64_code 8 135 [some (vR (some 137)), some (vI x0), some (vI x1), some (vI x2), none] [vI x, vI x0, vR (some 137)] h' (yq 1 (yqI K)))) ∧ (x1 = 6 → yU (d - 1) 206 [vR (some 137), vI 70] h (fun h' => ZW d prog_10_method_64_code 8 83 [some (vR (some 137)), some (vI x0), some (vI x1), some (vI x2), none] [] h' (yq 1 (yqI K)))) ∧ (x1 < 0 ∨ 6 < x1 → yI (d - 1) 207 [vI x1] h (fun x h' => ZW d prog_10_method_64_code 8 135 [some (vR (some 137)), some (vI x0), some (vI x1), some (vI x2), none] [vI x, vI x0, vR (some 137)] h' (yq 1 (yqI K)))))) : yI d 208 [vR (some 137), vI x0, vI x1, vI x2] h K := by
  refine y_en (L := [some (vR (some 137)), some (vI x0), some (vI x1), some (vI x2), none]) rfl rfl ?_
  refine y_s (pc' := 1) (L' := [some (vR (some 137)), some (vI x0), some (vI x1), some (vI x2), none]) (st' := [vI x1]) (h' := h) f208_0 rfl ?_
  by_cases c : x1 = 0
  · refine y_tc (pc' := 103) (v := 0) f208_1 c rfl rfl rfl ?_
    replace k := k.1 c
    refine y_s (pc' := 104) (L' := [some (vR (some 137)), some (vI x0), some (vI x1), some (vI x2), none]) (st' := [vR (some 137)]) (h' := h) f208_103 rfl ?_
    refine y_s (pc' := 106) (L' := [some (vR (some 137)), some (vI x0), some (vI x1), some (vI x2), none]) (st' := [vI 11, vR (some 137)]) (h' := h) f208_104 rfl ?_
    refine y_cU (pc' := 109) (as := [vR (some 137), vI 11]) (r := []) f208_106 (yzv ym_8_320 rfl (ys137 w) rfl rfl) (by omega) rfl ?_
    exact k
  replace k := k.2
  have c0 := c
  by_cases c : x1 = 1
  · refine y_tc (pc' := 44) (v := 1) f208_1 c rfl rfl rfl ?_
    replace k := k.1 c
    refine y_s (pc' := 45) (L' := [some (vR (some 137)), some (vI x0), some (vI x1), some (vI x2), none]) (st' := [vR (some 137)]) (h' := h) f208_44 rfl ?_
    refine y_s (pc' := 47) (L' := [some (vR (some 137)), some (vI x0), some (vI x1), some (vI x2), none]) (st' := [vI 20, vR (some 137)]) (h' := h) f208_45 rfl ?_
    refine y_cU (pc' := 50) (as := [vR (some 137), vI 20]) (r := []) f208_47 (yzv ym_8_320 rfl (ys137 w) rfl rfl) (by omega) rfl ?_
    exact k
  replace k := k.2
  have c1 := c
  by_cases c : x1 = 2
  · refine y_tc (pc' := 129) (v := 2) f208_1 c rfl rfl rfl ?_
    replace k := k.1 c
    refine y_s (pc' := 130) (L' := [some (vR (some 137)), some (vI x0), some (vI x1), some (vI x2), none]) (st' := [vR (some 137)]) (h' := h) f208_129 rfl ?_
    refine y_s (pc' := 131) (L' := [some (vR (some 137)), some (vI x0), some (vI x1), some (vI x2), none]) (st' := [vI x0, vR (some 137)]) (h' := h) f208_130 rfl ?_
    refine y_s (pc' := 132) (L' := [some (vR (some 137)), some (vI x0), some (vI x1), some (vI x2), none]) (st' := [vI x1, vI x0, vR (some 137)]) (h' := h) f208_131 rfl ?_
    refine y_cI (pc' := 135) (as := [vI x1]) (r := [vI x0, vR (some 137)]) f208_132 rfl (by omega) rfl ?_
    exact k
  replace k := k.2
  have c2 := c
  by_cases c : x1 = 3
  · refine y_tc (pc' := 129) (v := 3) f208_1 c rfl rfl rfl ?_
    replace k := k.1 c
    refine y_s (pc' := 130) (L' := [some (vR (some 137)), some (vI x0), some (vI x1), some (vI x2), none]) (st' := [vR (some 137)]) (h' := h) f208_129 rfl ?_
    refine y_s (pc' := 131) (L' := [some (vR (some 137)), some (vI x0), some (vI x1), some (vI x2), none]) (st' := [vI x0, vR (some 137)]) (h' := h) f208_130 rfl ?_
    refine y_s (pc' := 132) (L' := [some (vR (some 137)), some (vI x0), some (vI x1), some (vI x2), none]) (st' := [vI x1, vI x0, vR (some 137)]) (h' := h) f208_131 rfl ?_
    refine y_cI (pc' := 135) (as := [vI x1]) (r := [vI x0, vR (some 137)]) f208_132 rfl (by omega) rfl ?_
    exact k
  replace k := k.2
  have c3 := c
  by_cases c : x1 = 4
  · refine y_tc (pc' := 61) (v := 4) f208_1 c rfl rfl rfl ?_
    replace k := k.1 c
    refine y_s (pc' := 62) (L' := [some (vR (some 137)), some (vI x0), some (vI x1), some (vI x2), none]) (st' := [vR (some 137)]) (h' := h) f208_61 rfl ?_
    refine y_s (pc' := 64) (L' := [some (vR (some 137)), some (vI x0), some (vI x1), some (vI x2), none]) (st' := [vI 51, vR (some 137)]) (h' := h) f208_62 rfl ?_
    refine y_cU (pc' := 67) (as := [vR (some 137), vI 51]) (r := []) f208_64 (yzv ym_8_320 rfl (ys137 w) rfl rfl) (by omega) rfl ?_
    exact k
  replace k := k.2
  have c4 := c
  by_cases c : x1 = 5
  · refine y_tc (pc' := 129) (v := 5) f208_1 c rfl rfl rfl ?_
    replace k := k.1 c
    refine y_s (pc' := 130) (L' := [some (vR (some 137)), some (vI x0), some (vI x1), some (vI x2), none]) (st' := [vR (some 137)]) (h' := h) f208_129 rfl ?_
    refine y_s (pc' := 131) (L' := [some (vR (some 137)), some (vI x0), some (vI x1), some (vI x2), none]) (st' := [vI x0, vR (some 137)]) (h' := h) f208_130 rfl ?_
    refine y_s (pc' := 132) (L' := [some (vR (some 137)), some (vI x0), some (vI x1), some (vI x2), none]) (st' := [vI x1, vI x0, vR (some 137)]) (h' := h) f208_131 rfl ?_
    refine y_cI (pc' := 135) (as := [vI x1]) (r := [vI x0, vR (some 137)]) f208_132 rfl (by omega) rfl ?_
    exact k
  replace k := k.2
  have c5 := c
  by_cases c : x1 = 6
  · refine y_tc (pc' := 77) (v := 6) f208_1 c rfl rfl rfl ?_
    replace k := k.1 c
    refine y_s (pc' := 78) (L' := [some (vR (some 137)), some (vI x0), some (vI x1), some (vI x2), none]) (st' := [vR (some 137)]) (h' := h) f208_77 rfl ?_
    refine y_s (pc' := 80) (L' := [some (vR (some 137)), some (vI x0), some (vI x1), some (vI x2), none]) (st' := [vI 70, vR (some 137)]) (h' := h) f208_78 rfl ?_
    refine y_cU (pc' := 83) (as := [vR (some 137), vI 70]) (r := []) f208_80 (yzv ym_8_320 rfl (ys137 w) rfl rfl) (by omega) rfl ?_
    exact k
  replace k := k.2
  have c6 := c
  have cc : x1 < 0 ∨ 6 < x1 := by omega
  refine y_td (pc' := 129) f208_1 cc rfl ?_
  replace k := k cc
  refine y_s (pc' := 130) (L' := [some (vR (some 137)), some (vI x0), some (vI x1), some (vI x2), none]) (st' := [vR (some 137)]) (h' := h) f208_129 rfl ?_
  refine y_s (pc' := 131) (L' := [some (vR (some 137)), some (vI x0), some (vI x1), some (vI x2), none]) (st' := [vI x0, vR (some 137)]) (h' := h) f208_130 rfl ?_
  refine y_s (pc' := 132) (L' := [some (vR (some 137)), some (vI x0), some (vI x1), some (vI x2), none]) (st' := [vI x1, vI x0, vR (some 137)]) (h' := h) f208_131 rfl ?_
  refine y_cI (pc' := 135) (as := [vI x1]) (r := [vI x0, vR (some 137)]) f208_132 rfl (by omega) rfl ?_
  exact k
theorem W208_50 {d : Nat} {K : Int → Hp → Prop} (w : yWF zl nl h) {l1 : Int} {l2 : Int} {l3 : Int} (hd : 1 ≤ d) (k : yI (d - 1) 208 [vR (some 137), vI l1, vI 0, vI l3] h (fun x h' => ZW d prog_10_method_64_code 8 57 [some (vR (some 137)), some (vI l1), some (vI l2), some (vI l3), none] [vI x] h' (yq 1 (yqI K)))) : ZW d prog_10_method_64_code 8 50 [some (vR (some 137)), some (vI l1), some (vI l2), some (vI l3), none] [] h (yq 1 (yqI K)) := by
  refine y_s (pc' := 51) (L' := [some (vR (some 137)), some (vI l1), some (vI l2), some (vI l3), none]) (st' := [vR (some 137)]) (h' := h) f208_50 rfl ?_
  refine y_s (pc' := 52) (L' := [some (vR (some 137)), some (vI l1), some (vI l2), some (vI l3), none]) (st' := [vI l1, vR (some 137)]) (h' := h) f208_51 rfl ?_
  refine y_s (pc' := 53) (L' := [some (vR (some 137)), some (vI l1), some (vI l2), some (vI l3), none]) (st' := [vI 0, vI l1, vR (some 137)]) (h' := h) f208_52 rfl ?_
  refine y_s (pc' := 54) (L' := [some (vR (some 137)), some (vI l1), some (vI l2), some (vI l3), none]) (st' := [vI l3, vI 0, vI l1, vR (some 137)]) (h' := h) f208_53 rfl ?_
  refine y_cI (pc' := 57) (as := [vR (some 137), vI l1, vI 0, vI l3]) (r := []) f208_54 (yzv ym_8_330 rfl (ys137 w) rfl rfl) (by omega) rfl ?_
  exact k
theorem W208_57 {d : Nat} {K : Int → Hp → Prop} (w : yWF zl nl h) {l1 : Int} {l2 : Int} {l3 : Int} {s0 : Int} (k : K (zxor s0 6) h) : ZW d prog_10_method_64_code 8 57 [some (vR (some 137)), some (vI l1), some (vI l2), some (vI l3), none] [vI s0] h (yq 1 (yqI K)) := by
  refine y_s (pc' := 59) (L' := [some (vR (some 137)), some (vI l1), some (vI l2), some (vI l3), none]) (st' := [vI 6, vI s0]) (h' := h) f208_57 rfl ?_
  refine y_s (pc' := 60) (L' := [some (vR (some 137)), some (vI l1), some (vI l2), some (vI l3), none]) (st' := [vI (zxor s0 6)]) (h' := h) f208_59 rfl ?_
  exact y_ri f208_60 ⟨rfl, k⟩
theorem W208_67 {d : Nat} {K : Int → Hp → Prop} (w : yWF zl nl h) {l1 : Int} {l2 : Int} {l3 : Int} (hd : 1 ≤ d) (k : yI (d - 1) 208 [vR (some 137), vI l1, vI 1, vI (zw (l3 + 1))] h (fun x h' => ZW d prog_10_method_64_code 8 76 [some (vR (some 137)), some (vI l1), some (vI l2), some (vI l3), none] [vI x] h' (yq 1 (yqI K)))) : ZW d prog_10_method_64_code 8 67 [some (vR (some 137)), some (vI l1), some (vI l2), some (vI l3), none] [] h (yq 1 (yqI K)) := by
  refine y_s (pc' := 68) (L' := [some (vR (some 137)), some (vI l1), some (vI l2), some (vI l3), none]) (st' := [vR (some 137)]) (h' := h) f208_67 rfl ?_
  refine y_s (pc' := 69) (L' := [some (vR (some 137)), some (vI l1), some (vI l2), some (vI l3), none]) (st' := [vI l1, vR (some 137)]) (h' := h) f208_68 rfl ?_
  refine y_s (pc' := 70) (L' := [some (vR (some 137)), some (vI l1), some (vI l2), some (vI l3), none]) (st' := [vI 1, vI l1, vR (some 137)]) (h' := h) f208_69 rfl ?_
  refine y_s (pc' := 71) (L' := [some (vR (some 137)), some (vI l1), some (vI l2), some (vI l3), none]) (st' := [vI l3, vI 1, vI l1, vR (some 137)]) (h' := h) f208_70 rfl ?_
  refine y_s (pc' := 72) (L' := [some (vR (some 137)), some (vI l1), some (vI l2), some (vI l3), none]) (st' := [vI 1, vI l3, vI 1, vI l1, vR (some 137)]) (h' := h) f208_71 rfl ?_
  refine y_s (pc' := 73) (L' := [some (vR (some 137)), some (vI l1), some (vI l2), some (vI l3), none]) (st' := [vI (zw (l3 + 1)), vI 1, vI l1, vR (some 137)]) (h' := h) f208_72 rfl ?_
  refine y_cI (pc' := 76) (as := [vR (some 137), vI l1, vI 1, vI (zw (l3 + 1))]) (r := []) f208_73 (yzv ym_8_330 rfl (ys137 w) rfl rfl) (by omega) rfl ?_
  exact k
theorem W208_76 {d : Nat} {K : Int → Hp → Prop} (w : yWF zl nl h) {l1 : Int} {l2 : Int} {l3 : Int} {s0 : Int} (k : K s0 h) : ZW d prog_10_method_64_code 8 76 [some (vR (some 137)), some (vI l1), some (vI l2), some (vI l3), none] [vI s0] h (yq 1 (yqI K)) := by
  exact y_ri f208_76 ⟨rfl, k⟩
theorem W208_83 {d : Nat} {K : Int → Hp → Prop} (w : yWF zl nl h) {l1 : Int} {l2 : Int} {l3 : Int} (hd : 1 ≤ d) (k : yI (d - 1) 208 [vR (some 137), vI l1, vI 3, vI l3] h (fun x h' => ZW d prog_10_method_64_code 8 90 [some (vR (some 137)), some (vI l1), some (vI l2), some (vI l3), none] [vI x] h' (yq 1 (yqI K)))) : ZW d prog_10_method_64_code 8 83 [some (vR (some 137)), some (vI l1), some (vI l2), some (vI l3), none] [] h (yq 1 (yqI K)) := by
  refine y_s (pc' := 84) (L' := [some (vR (some 137)), some (vI l1), some (vI l2), some (vI l3), none]) (st' := [vR (some 137)]) (h' := h) f208_83 rfl ?_
  refine y_s (pc' := 85) (L' := [some (vR (some 137)), some (vI l1), some (vI l2), some (vI l3), none]) (st' := [vI l1, vR (some 137)]) (h' := h) f208_84 rfl ?_
  refine y_s (pc' := 86) (L' := [some (vR (some 137)), some (vI l1), some (vI l2), some (vI l3), none]) (st' := [vI 3, vI l1, vR (some 137)]) (h' := h) f208_85 rfl ?_
  refine y_s (pc' := 87) (L' := [some (vR (some 137)), some (vI l1), some (vI l2), some (vI l3), none]) (st' := [vI l3, vI 3, vI l1, vR (some 137)]) (h' := h) f208_86 rfl ?_
  refine y_cI (pc' := 90) (as := [vR (some 137), vI l1, vI 3, vI l3]) (r := []) f208_87 (yzv ym_8_330 rfl (ys137 w) rfl rfl) (by omega) rfl ?_
  exact k
theorem W208_90 {d : Nat} {K : Int → Hp → Prop} (w : yWF zl nl h) {l1 : Int} {l2 : Int} {l3 : Int} {s0 : Int} (hd : 1 ≤ d) (k : yI (d - 1) 205 [vR (some 137), vI l1, vI 3, vI 2] h (fun x h' => ZW d prog_10_method_64_code 8 101 [some (vR (some 137)), some (vI l1), some (vI l2), some (vI l3), some (vI s0)] [vI x, vI s0] h' (yq 1 (yqI K)))) : ZW d prog_10_method_64_code 8 90 [some (vR (some 137)), some (vI l1), some (vI l2), some (vI l3), none] [vI s0] h (yq 1 (yqI K)) := by
  refine y_sto (pc' := 92) (k := 4) (L' := [some (vR (some 137)), some (vI l1), some (vI l2), some (vI l3), some (vI s0)]) f208_90 rfl rfl rfl rfl rfl rfl ?_
  refine y_s (pc' := 94) (L' := [some (vR (some 137)), some (vI l1), some (vI l2), some (vI l3), some (vI s0)]) (st' := [vI s0]) (h' := h) f208_92 rfl ?_
  refine y_s (pc' := 95) (L' := [some (vR (some 137)), some (vI l1), some (vI l2), some (vI l3), some (vI s0)]) (st' := [vR (some 137), vI s0]) (h' := h) f208_94 rfl ?_
  refine y_s (pc' := 96) (L' := [some (vR (some 137)), some (vI l1), some (vI l2), some (vI l3), some (vI s0)]) (st' := [vI l1, vR (some 137), vI s0]) (h' := h) f208_95 rfl ?_
  refine y_s (pc' := 97) (L' := [some (vR (some 137)), some (vI l1), some (vI l2), some (vI l3), some (vI s0)]) (st' := [vI 3, vI l1, vR (some 137), vI s0]) (h' := h) f208_96 rfl ?_
  refine y_s (pc' := 98) (L' := [some (vR (some 137)), some (vI l1), some (vI l2), some (vI l3), some (vI s0)]) (st' := [vI 2, vI 3, vI l1, vR (some 137), vI s0]) (h' := h) f208_97 rfl ?_
  refine y_cI (pc' := 101) (as := [vR (some 137), vI l1, vI 3, vI 2]) (r := [vI s0]) f208_98 (yzv ym_8_324 rfl (ys137 w) rfl rfl) (by omega) rfl ?_
  exact k
theorem W208_101 {d : Nat} {K : Int → Hp → Prop} (w : yWF zl nl h) {l1 : Int} {l2 : Int} {l3 : Int} {l4 : Int} {s0 : Int} {s1 : Int} (k : K (zw (s0 + s1)) h) : ZW d prog_10_method_64_code 8 101 [some (vR (some 137)), some (vI l1), some (vI l2), some (vI l3), some (vI l4)] [vI s1, vI s0] h (yq 1 (yqI K)) := by
  refine y_s (pc' := 102) (L' := [some (vR (some 137)), some (vI l1), some (vI l2), some (vI l3), some (vI l4)]) (st' := [vI (zw (s0 + s1))]) (h' := h) f208_101 rfl ?_
  exact y_ri f208_102 ⟨rfl, k⟩
theorem W208_109 {d : Nat} {K : Int → Hp → Prop} (w : yWF zl nl h) {l1 : Int} {l2 : Int} {l3 : Int} (hd : 1 ≤ d) (k : ((0 ≤ l1 ∧ l1 < 6) ∧ yI (d - 1) 205 [vR (some 137), vI l1, vI (zV h 138 (l1).toNat), vI l3] h (fun x h' => ZW d prog_10_method_64_code 8 121 [some (vR (some 137)), some (vI l1), some (vI l2), some (vI l3), none] [vI x] h' (yq 1 (yqI K))))) : ZW d prog_10_method_64_code 8 109 [some (vR (some 137)), some (vI l1), some (vI l2), some (vI l3), none] [] h (yq 1 (yqI K)) := by
  refine y_s (pc' := 110) (L' := [some (vR (some 137)), some (vI l1), some (vI l2), some (vI l3), none]) (st' := [vR (some 137)]) (h' := h) f208_109 rfl ?_
  refine y_s (pc' := 111) (L' := [some (vR (some 137)), some (vI l1), some (vI l2), some (vI l3), none]) (st' := [vI l1, vR (some 137)]) (h' := h) f208_110 rfl ?_
  refine y_s (pc' := 112) (L' := [some (vR (some 137)), some (vI l1), some (vI l2), some (vI l3), none]) (st' := [vR (some 137), vI l1, vR (some 137)]) (h' := h) f208_111 rfl ?_
  refine y_gr (pc' := 115) f208_112 yf_8_9 rfl rfl (ys137 w) (yp137_1 w) rfl ?_
  refine y_s (pc' := 116) (L' := [some (vR (some 137)), some (vI l1), some (vI l2), some (vI l3), none]) (st' := [vI l1, vR (some 138), vI l1, vR (some 137)]) (h' := h) f208_115 rfl ?_
  refine y_ia (pc' := 117) (x := (zV h 138 (l1).toNat)) f208_116 (ys138 w) k.1 rfl rfl ?_
  replace k := k.2
  refine y_s (pc' := 118) (L' := [some (vR (some 137)), some (vI l1), some (vI l2), some (vI l3), none]) (st' := [vI l3, vI (zV h 138 (l1).toNat), vI l1, vR (some 137)]) (h' := h) f208_117 rfl ?_
  refine y_cI (pc' := 121) (as := [vR (some 137), vI l1, vI (zV h 138 (l1).toNat), vI l3]) (r := []) f208_118 (yzv ym_8_324 rfl (ys137 w) rfl rfl) (by omega) rfl ?_
  exact k
theorem W208_121 {d : Nat} {K : Int → Hp → Prop} (w : yWF zl nl h) {l1 : Int} {l2 : Int} {l3 : Int} {s0 : Int} (k : ((0 ≤ l1 ∧ l1 < 6) ∧ K (zw (s0 - (zV h 139 (l1).toNat))) h)) : ZW d prog_10_method_64_code 8 121 [some (vR (some 137)), some (vI l1), some (vI l2), some (vI l3), none] [vI s0] h (yq 1 (yqI K)) := by
  refine y_s (pc' := 122) (L' := [some (vR (some 137)), some (vI l1), some (vI l2), some (vI l3), none]) (st' := [vR (some 137), vI s0]) (h' := h) f208_121 rfl ?_
  refine y_gr (pc' := 125) f208_122 yf_8_15 rfl rfl (ys137 w) (yp137_2 w) rfl ?_
  refine y_s (pc' := 126) (L' := [some (vR (some 137)), some (vI l1), some (vI l2), some (vI l3), none]) (st' := [vI l1, vR (some 139), vI s0]) (h' := h) f208_125 rfl ?_
  refine y_ia (pc' := 127) (x := (zV h 139 (l1).toNat)) f208_126 (ys139 w) k.1 rfl rfl ?_
  replace k := k.2
  refine y_s (pc' := 128) (L' := [some (vR (some 137)), some (vI l1), some (vI l2), some (vI l3), none]) (st' := [vI (zw (s0 - (zV h 139 (l1).toNat)))]) (h' := h) f208_127 rfl ?_
  exact y_ri f208_128 ⟨rfl, k⟩
theorem W208_135 {d : Nat} {K : Int → Hp → Prop} (w : yWF zl nl h) {l1 : Int} {l2 : Int} {l3 : Int} {s1 : Int} {s2 : Int} (hd : 1 ≤ d) (k : yI (d - 1) 208 [vR (some 137), vI s1, vI s2, vI l3] h (fun x h' => ZW d prog_10_method_64_code 8 139 [some (vR (some 137)), some (vI l1), some (vI l2), some (vI l3), none] [vI x] h' (yq 1 (yqI K)))) : ZW d prog_10_method_64_code 8 135 [some (vR (some 137)), some (vI l1), some (vI l2), some (vI l3), none] [vI s2, vI s1, vR (some 137)] h (yq 1 (yqI K)) := by
  refine y_s (pc' := 136) (L' := [some (vR (some 137)), some (vI l1), some (vI l2), some (vI l3), none]) (st' := [vI l3, vI s2, vI s1, vR (some 137)]) (h' := h) f208_135 rfl ?_
  refine y_cI (pc' := 139) (as := [vR (some 137), vI s1, vI s2, vI l3]) (r := []) f208_136 (yzv ym_8_330 rfl (ys137 w) rfl rfl) (by omega) rfl ?_
  exact k
theorem W208_139 {d : Nat} {K : Int → Hp → Prop} (w : yWF zl nl h) {l1 : Int} {l2 : Int} {l3 : Int} {s0 : Int} (k : K s0 h) : ZW d prog_10_method_64_code 8 139 [some (vR (some 137)), some (vI l1), some (vI l2), some (vI l3), none] [vI s0] h (yq 1 (yqI K)) := by
  exact y_ri f208_139 ⟨rfl, k⟩
/-- HatterTunesModel.tells(III)I -/
theorem E209 {d : Nat} {K : Int → Hp → Prop} (w : yWF zl nl h) {x0 : Int} {x1 : Int} {x2 : Int} (hd : 1 ≤ d) (k : ((x1 = 0 → yU (d - 1) 206 [vR (some 137), vI 12] h (fun h' => ZW d prog_10_method_65_code 8 89 [some (vR (some 137)), some (vI x0), some (vI x1), some (vI x2), none] [] h' (yq 1 (yqI K)))) ∧ (x1 = 3 → yU (d - 1) 206 [vR (some 137), vI 40] h (fun h' => ZW d prog_10_method_65_code 8 42 [some (vR (some 137)), some (vI x0), some (vI x1), some (vI x2), none] [] h' (yq 1 (yqI K)))) ∧ (x1 = 5 → yU (d - 1) 206 [vR (some 137), vI 60] h (fun h' => ZW d prog_10_method_65_code 8 73 [some (vR (some 137)), some (vI x0), some (vI x1), some (vI x2), none] [] h' (yq 1 (yqI K)))) ∧ (x1 ≠ 0 ∧ x1 ≠ 3 ∧ x1 ≠ 5 → yI (d - 1) 207 [vI x1] h (fun x h' => ZW d prog_10_method_65_code 8 110 [some (vR (some 137)), some (vI x0), some (vI x1), some (vI x2), none] [vI x, vI x0, vR (some 137)] h' (yq 1 (yqI K)))))) : yI d 209 [vR (some 137), vI x0, vI x1, vI x2] h K := by
  refine y_en (L := [some (vR (some 137)), some (vI x0), some (vI x1), some (vI x2), none]) rfl rfl ?_
  refine y_s (pc' := 1) (L' := [some (vR (some 137)), some (vI x0), some (vI x1), some (vI x2), none]) (st' := [vI x1]) (h' := h) f209_0 rfl ?_
  by_cases c : x1 = 0
  · refine y_ls (pc' := 83) (off := 82) f209_1 rfl (by rw [c]; rfl) rfl ?_
    replace k := k.1 c
    refine y_s (pc' := 84) (L' := [some (vR (some 137)), some (vI x0), some (vI x1), some (vI x2), none]) (st' := [vR (some 137)]) (h' := h) f209_83 rfl ?_
    refine y_s (pc' := 86) (L' := [some (vR (some 137)), some (vI x0), some (vI x1), some (vI x2), none]) (st' := [vI 12, vR (some 137)]) (h' := h) f209_84 rfl ?_
    refine y_cU (pc' := 89) (as := [vR (some 137), vI 12]) (r := []) f209_86 (yzv ym_8_320 rfl (ys137 w) rfl rfl) (by omega) rfl ?_
    exact k
  replace k := k.2
  have c0 := c
  by_cases c : x1 = 3
  · refine y_ls (pc' := 36) (off := 35) f209_1 rfl (by rw [c]; rfl) rfl ?_
    replace k := k.1 c
    refine y_s (pc' := 37) (L' := [some (vR (some 137)), some (vI x0), some (vI x1), some (vI x2), none]) (st' := [vR (some 137)]) (h' := h) f209_36 rfl ?_
    refine y_s (pc' := 39) (L' := [some (vR (some 137)), some (vI x0), some (vI x1), some (vI x2), none]) (st' := [vI 40, vR (some 137)]) (h' := h) f209_37 rfl ?_
    refine y_cU (pc' := 42) (as := [vR (some 137), vI 40]) (r := []) f209_39 (yzv ym_8_320 rfl (ys137 w) rfl rfl) (by omega) rfl ?_
    exact k
  replace k := k.2
  have c1 := c
  by_cases c : x1 = 5
  · refine y_ls (pc' := 67) (off := 66) f209_1 rfl (by rw [c]; rfl) rfl ?_
    replace k := k.1 c
    refine y_s (pc' := 68) (L' := [some (vR (some 137)), some (vI x0), some (vI x1), some (vI x2), none]) (st' := [vR (some 137)]) (h' := h) f209_67 rfl ?_
    refine y_s (pc' := 70) (L' := [some (vR (some 137)), some (vI x0), some (vI x1), some (vI x2), none]) (st' := [vI 60, vR (some 137)]) (h' := h) f209_68 rfl ?_
    refine y_cU (pc' := 73) (as := [vR (some 137), vI 60]) (r := []) f209_70 (yzv ym_8_320 rfl (ys137 w) rfl rfl) (by omega) rfl ?_
    exact k
  replace k := k.2
  have c2 := c
  replace k := k ⟨c0, c1, c2⟩
  refine y_ls (pc' := 104) (off := 103) f209_1 rfl (by show Op.lookupswitch.offset [(0, 82), (3, 35), (5, 66)] 103 x1 = 103; rw [Op.lookupswitch.offset_cons, if_neg (fun q => c0 q.symm), Op.lookupswitch.offset_cons, if_neg (fun q => c1 q.symm), Op.lookupswitch.offset_cons, if_neg (fun q => c2 q.symm)]; rfl) rfl ?_
  refine y_s (pc' := 105) (L' := [some (vR (some 137)), some (vI x0), some (vI x1), some (vI x2), none]) (st' := [vR (some 137)]) (h' := h) f209_104 rfl ?_
  refine y_s (pc' := 106) (L' := [some (vR (some 137)), some (vI x0), some (vI x1), some (vI x2), none]) (st' := [vI x0, vR (some 137)]) (h' := h) f209_105 rfl ?_
  refine y_s (pc' := 107) (L' := [some (vR (some 137)), some (vI x0), some (vI x1), some (vI x2), none]) (st' := [vI x1, vI x0, vR (some 137)]) (h' := h) f209_106 rfl ?_
  refine y_cI (pc' := 110) (as := [vI x1]) (r := [vI x0, vR (some 137)]) f209_107 rfl (by omega) rfl ?_
  exact k
theorem W209_42 {d : Nat} {K : Int → Hp → Prop} (w : yWF zl nl h) {l1 : Int} {l2 : Int} {l3 : Int} (hd : 1 ≤ d) (k : yI (d - 1) 209 [vR (some 137), vI l1, vI 0, vI l3] h (fun x h' => ZW d prog_10_method_65_code 8 49 [some (vR (some 137)), some (vI l1), some (vI l2), some (vI l3), none] [vI x] h' (yq 1 (yqI K)))) : ZW d prog_10_method_65_code 8 42 [some (vR (some 137)), some (vI l1), some (vI l2), some (vI l3), none] [] h (yq 1 (yqI K)) := by
  refine y_s (pc' := 43) (L' := [some (vR (some 137)), some (vI l1), some (vI l2), some (vI l3), none]) (st' := [vR (some 137)]) (h' := h) f209_42 rfl ?_
  refine y_s (pc' := 44) (L' := [some (vR (some 137)), some (vI l1), some (vI l2), some (vI l3), none]) (st' := [vI l1, vR (some 137)]) (h' := h) f209_43 rfl ?_
  refine y_s (pc' := 45) (L' := [some (vR (some 137)), some (vI l1), some (vI l2), some (vI l3), none]) (st' := [vI 0, vI l1, vR (some 137)]) (h' := h) f209_44 rfl ?_
  refine y_s (pc' := 46) (L' := [some (vR (some 137)), some (vI l1), some (vI l2), some (vI l3), none]) (st' := [vI l3, vI 0, vI l1, vR (some 137)]) (h' := h) f209_45 rfl ?_
  refine y_cI (pc' := 49) (as := [vR (some 137), vI l1, vI 0, vI l3]) (r := []) f209_46 (yzv ym_8_333 rfl (ys137 w) rfl rfl) (by omega) rfl ?_
  exact k
theorem W209_49 {d : Nat} {K : Int → Hp → Prop} (w : yWF zl nl h) {l1 : Int} {l2 : Int} {l3 : Int} {s0 : Int} (hd : 1 ≤ d) (k : ((0 ≤ l1 ∧ l1 < 6) ∧ yI (d - 1) 208 [vR (some 137), vI l1, vI (zV h 138 (l1).toNat), vI 1] h (fun x h' => ZW d prog_10_method_65_code 8 65 [some (vR (some 137)), some (vI l1), some (vI l2), some (vI l3), some (vI s0)] [vI x, vI s0] h' (yq 1 (yqI K))))) : ZW d prog_10_method_65_code 8 49 [some (vR (some 137)), some (vI l1), some (vI l2), some (vI l3), none] [vI s0] h (yq 1 (yqI K)) := by
  refine y_sto (pc' := 51) (k := 4) (L' := [some (vR (some 137)), some (vI l1), some (vI l2), some (vI l3), some (vI s0)]) f209_49 rfl rfl rfl rfl rfl rfl ?_
  refine y_s (pc' := 53) (L' := [some (vR (some 137)), some (vI l1), some (vI l2), some (vI l3), some (vI s0)]) (st' := [vI s0]) (h' := h) f209_51 rfl ?_
  refine y_s (pc' := 54) (L' := [some (vR (some 137)), some (vI l1), some (vI l2), some (vI l3), some (vI s0)]) (st' := [vR (some 137), vI s0]) (h' := h) f209_53 rfl ?_
  refine y_s (pc' := 55) (L' := [some (vR (some 137)), some (vI l1), some (vI l2), some (vI l3), some (vI s0)]) (st' := [vI l1, vR (some 137), vI s0]) (h' := h) f209_54 rfl ?_
  refine y_s (pc' := 56) (L' := [some (vR (some 137)), some (vI l1), some (vI l2), some (vI l3), some (vI s0)]) (st' := [vR (some 137), vI l1, vR (some 137), vI s0]) (h' := h) f209_55 rfl ?_
  refine y_gr (pc' := 59) f209_56 yf_8_9 rfl rfl (ys137 w) (yp137_1 w) rfl ?_
  refine y_s (pc' := 60) (L' := [some (vR (some 137)), some (vI l1), some (vI l2), some (vI l3), some (vI s0)]) (st' := [vI l1, vR (some 138), vI l1, vR (some 137), vI s0]) (h' := h) f209_59 rfl ?_
  refine y_ia (pc' := 61) (x := (zV h 138 (l1).toNat)) f209_60 (ys138 w) k.1 rfl rfl ?_
  replace k := k.2
  refine y_s (pc' := 62) (L' := [some (vR (some 137)), some (vI l1), some (vI l2), some (vI l3), some (vI s0)]) (st' := [vI 1, vI (zV h 138 (l1).toNat), vI l1, vR (some 137), vI s0]) (h' := h) f209_61 rfl ?_
  refine y_cI (pc' := 65) (as := [vR (some 137), vI l1, vI (zV h 138 (l1).toNat), vI 1]) (r := [vI s0]) f209_62 (yzv ym_8_330 rfl (ys137 w) rfl rfl) (by omega) rfl ?_
  exact k
theorem W209_65 {d : Nat} {K : Int → Hp → Prop} (w : yWF zl nl h) {l1 : Int} {l2 : Int} {l3 : Int} {l4 : Int} {s0 : Int} {s1 : Int} (k : K (zw (s0 + s1)) h) : ZW d prog_10_method_65_code 8 65 [some (vR (some 137)), some (vI l1), some (vI l2), some (vI l3), some (vI l4)] [vI s1, vI s0] h (yq 1 (yqI K)) := by
  refine y_s (pc' := 66) (L' := [some (vR (some 137)), some (vI l1), some (vI l2), some (vI l3), some (vI l4)]) (st' := [vI (zw (s0 + s1))]) (h' := h) f209_65 rfl ?_
  exact y_ri f209_66 ⟨rfl, k⟩
theorem W209_73 {d : Nat} {K : Int → Hp → Prop} (w : yWF zl nl h) {l1 : Int} {l2 : Int} {l3 : Int} (hd : 1 ≤ d) (k : yI (d - 1) 209 [vR (some 137), vI l1, vI 2, vI (zw (l3 - l1))] h (fun x h' => ZW d prog_10_method_65_code 8 82 [some (vR (some 137)), some (vI l1), some (vI l2), some (vI l3), none] [vI x] h' (yq 1 (yqI K)))) : ZW d prog_10_method_65_code 8 73 [some (vR (some 137)), some (vI l1), some (vI l2), some (vI l3), none] [] h (yq 1 (yqI K)) := by
  refine y_s (pc' := 74) (L' := [some (vR (some 137)), some (vI l1), some (vI l2), some (vI l3), none]) (st' := [vR (some 137)]) (h' := h) f209_73 rfl ?_
  refine y_s (pc' := 75) (L' := [some (vR (some 137)), some (vI l1), some (vI l2), some (vI l3), none]) (st' := [vI l1, vR (some 137)]) (h' := h) f209_74 rfl ?_
  refine y_s (pc' := 76) (L' := [some (vR (some 137)), some (vI l1), some (vI l2), some (vI l3), none]) (st' := [vI 2, vI l1, vR (some 137)]) (h' := h) f209_75 rfl ?_
  refine y_s (pc' := 77) (L' := [some (vR (some 137)), some (vI l1), some (vI l2), some (vI l3), none]) (st' := [vI l3, vI 2, vI l1, vR (some 137)]) (h' := h) f209_76 rfl ?_
  refine y_s (pc' := 78) (L' := [some (vR (some 137)), some (vI l1), some (vI l2), some (vI l3), none]) (st' := [vI l1, vI l3, vI 2, vI l1, vR (some 137)]) (h' := h) f209_77 rfl ?_
  refine y_s (pc' := 79) (L' := [some (vR (some 137)), some (vI l1), some (vI l2), some (vI l3), none]) (st' := [vI (zw (l3 - l1)), vI 2, vI l1, vR (some 137)]) (h' := h) f209_78 rfl ?_
  refine y_cI (pc' := 82) (as := [vR (some 137), vI l1, vI 2, vI (zw (l3 - l1))]) (r := []) f209_79 (yzv ym_8_333 rfl (ys137 w) rfl rfl) (by omega) rfl ?_
  exact k
theorem W209_82 {d : Nat} {K : Int → Hp → Prop} (w : yWF zl nl h) {l1 : Int} {l2 : Int} {l3 : Int} {s0 : Int} (k : K s0 h) : ZW d prog_10_method_65_code 8 82 [some (vR (some 137)), some (vI l1), some (vI l2), some (vI l3), none] [vI s0] h (yq 1 (yqI K)) := by
  exact y_ri f209_82 ⟨rfl, k⟩
theorem W209_89 {d : Nat} {K : Int → Hp → Prop} (w : yWF zl nl h) {l1 : Int} {l2 : Int} {l3 : Int} (hd : 1 ≤ d) (k : ((0 ≤ l1 ∧ l1 < 6) ∧ yI (d - 1) 208 [vR (some 137), vI l1, vI (zV h 138 (l1).toNat), vI l3] h (fun x h' => ZW d prog_10_method_65_code 8 101 [some (vR (some 137)), some (vI l1), some (vI l2), some (vI l3), none] [vI x] h' (yq 1 (yqI K))))) : ZW d prog_10_method_65_code 8 89 [some (vR (some 137)), some (vI l1), some (vI l2), some (vI l3), none] [] h (yq 1 (yqI K)) := by
  refine y_s (pc' := 90) (L' := [some (vR (some 137)), some (vI l1), some (vI l2), some (vI l3), none]) (st' := [vR (some 137)]) (h' := h) f209_89 rfl ?_
  refine y_s (pc' := 91) (L' := [some (vR (some 137)), some (vI l1), some (vI l2), some (vI l3), none]) (st' := [vI l1, vR (some 137)]) (h' := h) f209_90 rfl ?_
  refine y_s (pc' := 92) (L' := [some (vR (some 137)), some (vI l1), some (vI l2), some (vI l3), none]) (st' := [vR (some 137), vI l1, vR (some 137)]) (h' := h) f209_91 rfl ?_
  refine y_gr (pc' := 95) f209_92 yf_8_9 rfl rfl (ys137 w) (yp137_1 w) rfl ?_
  refine y_s (pc' := 96) (L' := [some (vR (some 137)), some (vI l1), some (vI l2), some (vI l3), none]) (st' := [vI l1, vR (some 138), vI l1, vR (some 137)]) (h' := h) f209_95 rfl ?_
  refine y_ia (pc' := 97) (x := (zV h 138 (l1).toNat)) f209_96 (ys138 w) k.1 rfl rfl ?_
  replace k := k.2
  refine y_s (pc' := 98) (L' := [some (vR (some 137)), some (vI l1), some (vI l2), some (vI l3), none]) (st' := [vI l3, vI (zV h 138 (l1).toNat), vI l1, vR (some 137)]) (h' := h) f209_97 rfl ?_
  refine y_cI (pc' := 101) (as := [vR (some 137), vI l1, vI (zV h 138 (l1).toNat), vI l3]) (r := []) f209_98 (yzv ym_8_330 rfl (ys137 w) rfl rfl) (by omega) rfl ?_
  exact k
theorem W209_101 {d : Nat} {K : Int → Hp → Prop} (w : yWF zl nl h) {l1 : Int} {l2 : Int} {l3 : Int} {s0 : Int} (k : K (zw (s0 * 2)) h) : ZW d prog_10_method_65_code 8 101 [some (vR (some 137)), some (vI l1), some (vI l2), some (vI l3), none] [vI s0] h (yq 1 (yqI K)) := by
  refine y_s (pc' := 102) (L' := [some (vR (some 137)), some (vI l1), some (vI l2), some (vI l3), none]) (st' := [vI 2, vI s0]) (h' := h) f209_101 rfl ?_
  refine y_s (pc' := 103) (L' := [some (vR (some 137)), some (vI l1), some (vI l2), some (vI l3), none]) (st' := [vI (zw (s0 * 2))]) (h' := h) f209_102 rfl ?_
  exact y_ri f209_103 ⟨rfl, k⟩
theorem W209_110 {d : Nat} {K : Int → Hp → Prop} (w : yWF zl nl h) {l1 : Int} {l2 : Int} {l3 : Int} {s1 : Int} {s2 : Int} (hd : 1 ≤ d) (k : yI (d - 1) 209 [vR (some 137), vI s1, vI s2, vI l3] h (fun x h' => ZW d prog_10_method_65_code 8 114 [some (vR (some 137)), some (vI l1), some (vI l2), some (vI l3), none] [vI x] h' (yq 1 (yqI K)))) : ZW d prog_10_method_65_code 8 110 [some (vR (some 137)), some (vI l1), some (vI l2), some (vI l3), none] [vI s2, vI s1, vR (some 137)] h (yq 1 (yqI K)) := by
  refine y_s (pc' := 111) (L' := [some (vR (some 137)), some (vI l1), some (vI l2), some (vI l3), none]) (st' := [vI l3, vI s2, vI s1, vR (some 137)]) (h' := h) f209_110 rfl ?_
  refine y_cI (pc' := 114) (as := [vR (some 137), vI s1, vI s2, vI l3]) (r := []) f209_111 (yzv ym_8_333 rfl (ys137 w) rfl rfl) (by omega) rfl ?_
  exact k
theorem W209_114 {d : Nat} {K : Int → Hp → Prop} (w : yWF zl nl h) {l1 : Int} {l2 : Int} {l3 : Int} {s0 : Int} (k : K s0 h) : ZW d prog_10_method_65_code 8 114 [some (vR (some 137)), some (vI l1), some (vI l2), some (vI l3), none] [vI s0] h (yq 1 (yqI K)) := by
  exact y_ri f209_114 ⟨rfl, k⟩
/-- HatterTunesModel.isE()Z -/
theorem E161 {d : Nat} {K : Int → Hp → Prop} (w : yWF zl nl h) (hd : 1 ≤ d) (k : yI (d - 1) 162 [vR (some 137)] h (fun x h' => ZW d prog_10_method_21_code 8 4 [some (vR (some 137))] [vI x] h' (yq 2 (yqI K)))) : yI d 161 [vR (some 137)] h K := by
  refine y_en (L := [some (vR (some 137))]) rfl rfl ?_
  refine y_s (pc' := 1) (L' := [some (vR (some 137))]) (st' := [vR (some 137)]) (h' := h) f161_0 rfl ?_
  refine y_cI (pc' := 4) (as := [vR (some 137)]) (r := []) f161_1 (yzv ym_8_216 rfl (ys137 w) rfl rfl) (by omega) rfl ?_
  exact k
theorem W161_4 {d : Nat} {K : Int → Hp → Prop} (w : yWF zl nl h) {s0 : Int} (k : ((s0 ≠ 0 → ZW d prog_10_method_21_code 8 9 [some (vR (some 137))] [] h (yq 2 (yqI K))) ∧ (¬ (s0 ≠ 0) → K 0 h))) : ZW d prog_10_method_21_code 8 4 [some (vR (some 137))] [vI s0] h (yq 2 (yqI K)) := by
  refine y_if (pcT := 9) (pc' := 7) (P := s0 ≠ 0) f161_4 rfl rfl rfl (fun c => ?_) (fun c => ?_)
  · replace k := k.1 c
    exact k
  · replace k := k.2 c
    refine y_s (pc' := 8) (L' := [some (vR (some 137))]) (st' := [vI 0]) (h' := h) f161_7 rfl ?_
    exact y_ri f161_8 ⟨rfl, k⟩
theorem W161_9 {d : Nat} {K : Int → Hp → Prop} (w : yWF zl nl h)  (hd : 1 ≤ d) (k : yI (d - 1) 158 [vR (some 137), vI 124] h (fun x h' => ZW d prog_10_method_21_code 8 15 [some (vR (some 137))] [vI x] h' (yq 2 (yqI K)))) : ZW d prog_10_method_21_code 8 9 [some (vR (some 137))] [] h (yq 2 (yqI K)) := by
  refine y_s (pc' := 10) (L' := [some (vR (some 137))]) (st' := [vR (some 137)]) (h' := h) f161_9 rfl ?_
  refine y_s (pc' := 12) (L' := [some (vR (some 137))]) (st' := [vI 124, vR (some 137)]) (h' := h) f161_10 rfl ?_
  refine y_cI (pc' := 15) (as := [vR (some 137), vI 124]) (r := []) f161_12 (yzv ym_8_182 rfl (ys137 w) rfl rfl) (by omega) rfl ?_
  exact k
theorem W161_15 {d : Nat} {K : Int → Hp → Prop} (w : yWF zl nl h) {s0 : Int} (hd : 1 ≤ d) (k : ((s0 = 0 → K 1 h) ∧ (¬ (s0 = 0) → yI (d - 1) 162 [vR (some 137)] h (fun x h' => ZW d prog_10_method_21_code 8 22 [some (vR (some 137))] [vI x] h' (yq 2 (yqI K)))))) : ZW d prog_10_method_21_code 8 15 [some (vR (some 137))] [vI s0] h (yq 2 (yqI K)) := by
  refine y_if (pcT := 35) (pc' := 18) (P := s0 = 0) f161_15 rfl rfl rfl (fun c => ?_) (fun c => ?_)
  · replace k := k.1 c
    refine y_s (pc' := 36) (L' := [some (vR (some 137))]) (st' := [vI 1]) (h' := h) f161_35 rfl ?_
    exact y_ri f161_36 ⟨rfl, k⟩
  · replace k := k.2 c
    refine y_s (pc' := 19) (L' := [some (vR (some 137))]) (st' := [vR (some 137)]) (h' := h) f161_18 rfl ?_
    refine y_cI (pc' := 22) (as := [vR (some 137)]) (r := []) f161_19 (yzv ym_8_216 rfl (ys137 w) rfl rfl) (by omega) rfl ?_
    exact k
theorem W161_22 {d : Nat} {K : Int → Hp → Prop} (w : yWF zl nl h) {s0 : Int} (hd : 1 ≤ d) (k : ((s0 = 0 → K 0 h) ∧ (¬ (s0 = 0) → yI (d - 1) 165 [vR (some 137), vI 2] h (fun x h' => ZW d prog_10_method_21_code 8 30 [some (vR (some 137))] [vI x] h' (yq 2 (yqI K)))))) : ZW d prog_10_method_21_code 8 22 [some (vR (some 137))] [vI s0] h (yq 2 (yqI K)) := by
  refine y_if (pcT := 33) (pc' := 25) (P := s0 = 0) f161_22 rfl rfl rfl (fun c => ?_) (fun c => ?_)
  · replace k := k.1 c
    refine y_s (pc' := 34) (L' := [some (vR (some 137))]) (st' := [vI 0]) (h' := h) f161_33 rfl ?_
    exact y_ri f161_34 ⟨rfl, k⟩
  · replace k := k.2 c
    refine y_s (pc' := 26) (L' := [some (vR (some 137))]) (st' := [vR (some 137)]) (h' := h) f161_25 rfl ?_
    refine y_s (pc' := 27) (L' := [some (vR (some 137))]) (st' := [vI 2, vR (some 137)]) (h' := h) f161_26 rfl ?_
    refine y_cI (pc' := 30) (as := [vR (some 137), vI 2]) (r := []) f161_27 (yzv ym_8_198 rfl (ys137 w) rfl rfl) (by omega) rfl ?_
    exact k
theorem W161_30 {d : Nat} {K : Int → Hp → Prop} (w : yWF zl nl h) {s0 : Int} (k : ((s0 ≠ 0 → ZW d prog_10_method_21_code 8 9 [some (vR (some 137))] [] h (yq 2 (yqI K))) ∧ (¬ (s0 ≠ 0) → K 0 h))) : ZW d prog_10_method_21_code 8 30 [some (vR (some 137))] [vI s0] h (yq 2 (yqI K)) := by
  refine y_if (pcT := 9) (pc' := 33) (P := s0 ≠ 0) f161_30 rfl rfl rfl (fun c => ?_) (fun c => ?_)
  · replace k := k.1 c
    exact k
  · replace k := k.2 c
    refine y_s (pc' := 34) (L' := [some (vR (some 137))]) (st' := [vI 0]) (h' := h) f161_33 rfl ?_
    exact y_ri f161_34 ⟨rfl, k⟩
/-- HatterTunesModel.isT()Z -/
theorem E162 {d : Nat} {K : Int → Hp → Prop} (w : yWF zl nl h) (hd : 1 ≤ d) (k : yI (d - 1) 163 [vR (some 137)] h (fun x h' => ZW d prog_10_method_20_code 8 4 [some (vR (some 137))] [vI x] h' (yq 2 (yqI K)))) : yI d 162 [vR (some 137)] h K := by
  refine y_en (L := [some (vR (some 137))]) rfl rfl ?_
  refine y_s (pc' := 1) (L' := [some (vR (some 137))]) (st' := [vR (some 137)]) (h' := h) f162_0 rfl ?_
  refine y_cI (pc' := 4) (as := [vR (some 137)]) (r := []) f162_1 (yzv ym_8_207 rfl (ys137 w) rfl rfl) (by omega) rfl ?_
  exact k
theorem W162_4 {d : Nat} {K : Int → Hp → Prop} (w : yWF zl nl h) {s0 : Int} (k : ((s0 ≠ 0 → ZW d prog_10_method_20_code 8 9 [some (vR (some 137))] [] h (yq 2 (yqI K))) ∧ (¬ (s0 ≠ 0) → K 0 h))) : ZW d prog_10_method_20_code 8 4 [some (vR (some 137))] [vI s0] h (yq 2 (yqI K)) := by
  refine y_if (pcT := 9) (pc' := 7) (P := s0 ≠ 0) f162_4 rfl rfl rfl (fun c => ?_) (fun c => ?_)
  · replace k := k.1 c
    exact k
  · replace k := k.2 c
    refine y_s (pc' := 8) (L' := [some (vR (some 137))]) (st' := [vI 0]) (h' := h) f162_7 rfl ?_
    exact y_ri f162_8 ⟨rfl, k⟩
theorem W162_9 {d : Nat} {K : Int → Hp → Prop} (w : yWF zl nl h)  (hd : 1 ≤ d) (k : yI (d - 1) 158 [vR (some 137), vI 38] h (fun x h' => ZW d prog_10_method_20_code 8 15 [some (vR (some 137))] [vI x] h' (yq 2 (yqI K)))) : ZW d prog_10_method_20_code 8 9 [some (vR (some 137))] [] h (yq 2 (yqI K)) := by
  refine y_s (pc' := 10) (L' := [some (vR (some 137))]) (st' := [vR (some 137)]) (h' := h) f162_9 rfl ?_
  refine y_s (pc' := 12) (L' := [some (vR (some 137))]) (st' := [vI 38, vR (some 137)]) (h' := h) f162_10 rfl ?_
  refine y_cI (pc' := 15) (as := [vR (some 137), vI 38]) (r := []) f162_12 (yzv ym_8_182 rfl (ys137 w) rfl rfl) (by omega) rfl ?_
  exact k
theorem W162_15 {d : Nat} {K : Int → Hp → Prop} (w : yWF zl nl h) {s0 : Int} (hd : 1 ≤ d) (k : ((s0 = 0 → K 1 h) ∧ (¬ (s0 = 0) → yI (d - 1) 163 [vR (some 137)] h (fun x h' => ZW d prog_10_method_20_code 8 22 [some (vR (some 137))] [vI x] h' (yq 2 (yqI K)))))) : ZW d prog_10_method_20_code 8 15 [some (vR (some 137))] [vI s0] h (yq 2 (yqI K)) := by
  refine y_if (pcT := 35) (pc' := 18) (P := s0 = 0) f162_15 rfl rfl rfl (fun c => ?_) (fun c => ?_)
  · replace k := k.1 c
    refine y_s (pc' := 36) (L' := [some (vR (some 137))]) (st' := [vI 1]) (h' := h) f162_35 rfl ?_
    exact y_ri f162_36 ⟨rfl, k⟩
  · replace k := k.2 c
    refine y_s (pc' := 19) (L' := [some (vR (some 137))]) (st' := [vR (some 137)]) (h' := h) f162_18 rfl ?_
    refine y_cI (pc' := 22) (as := [vR (some 137)]) (r := []) f162_19 (yzv ym_8_207 rfl (ys137 w) rfl rfl) (by omega) rfl ?_
    exact k
theorem W162_22 {d : Nat} {K : Int → Hp → Prop} (w : yWF zl nl h) {s0 : Int} (hd : 1 ≤ d) (k : ((s0 = 0 → K 0 h) ∧ (¬ (s0 = 0) → yI (d - 1) 165 [vR (some 137), vI 1] h (fun x h' => ZW d prog_10_method_20_code 8 30 [some (vR (some 137))] [vI x] h' (yq 2 (yqI K)))))) : ZW d prog_10_method_20_code 8 22 [some (vR (some 137))] [vI s0] h (yq 2 (yqI K)) := by
  refine y_if (pcT := 33) (pc' := 25) (P := s0 = 0) f162_22 rfl rfl rfl (fun c => ?_) (fun c => ?_)
  · replace k := k.1 c
    refine y_s (pc' := 34) (L' := [some (vR (some 137))]) (st' := [vI 0]) (h' := h) f162_33 rfl ?_
    exact y_ri f162_34 ⟨rfl, k⟩
  · replace k := k.2 c
    refine y_s (pc' := 26) (L' := [some (vR (some 137))]) (st' := [vR (some 137)]) (h' := h) f162_25 rfl ?_
    refine y_s (pc' := 27) (L' := [some (vR (some 137))]) (st' := [vI 1, vR (some 137)]) (h' := h) f162_26 rfl ?_
    refine y_cI (pc' := 30) (as := [vR (some 137), vI 1]) (r := []) f162_27 (yzv ym_8_198 rfl (ys137 w) rfl rfl) (by omega) rfl ?_
    exact k
theorem W162_30 {d : Nat} {K : Int → Hp → Prop} (w : yWF zl nl h) {s0 : Int} (k : ((s0 ≠ 0 → ZW d prog_10_method_20_code 8 9 [some (vR (some 137))] [] h (yq 2 (yqI K))) ∧ (¬ (s0 ≠ 0) → K 0 h))) : ZW d prog_10_method_20_code 8 30 [some (vR (some 137))] [vI s0] h (yq 2 (yqI K)) := by
  refine y_if (pcT := 9) (pc' := 33) (P := s0 ≠ 0) f162_30 rfl rfl rfl (fun c => ?_) (fun c => ?_)
  · replace k := k.1 c
    exact k
  · replace k := k.2 c
    refine y_s (pc' := 34) (L' := [some (vR (some 137))]) (st' := [vI 0]) (h' := h) f162_33 rfl ?_
    exact y_ri f162_34 ⟨rfl, k⟩
/-- HatterTunesModel.isF()Z -/
theorem E163 {d : Nat} {K : Int → Hp → Prop} (w : yWF zl nl h) (hd : 1 ≤ d) (k : yI (d - 1) 164 [vR (some 137), vI 33] h (fun x h' => ZW d prog_10_method_19_code 8 6 [some (vR (some 137)), none] [vI x] h' (yq 2 (yqI K)))) : yI d 163 [vR (some 137)] h K := by
  refine y_en (L := [some (vR (some 137)), none]) rfl rfl ?_
  refine y_s (pc' := 1) (L' := [some (vR (some 137)), none]) (st' := [vR (some 137)]) (h' := h) f163_0 rfl ?_
  refine y_s (pc' := 3) (L' := [some (vR (some 137)), none]) (st' := [vI 33, vR (some 137)]) (h' := h) f163_1 rfl ?_
  refine y_cI (pc' := 6) (as := [vR (some 137), vI 33]) (r := []) f163_3 (yzv ym_8_204 rfl (ys137 w) rfl rfl) (by omega) rfl ?_
  exact k
theorem W163_6 {d : Nat} {K : Int → Hp → Prop} (w : yWF zl nl h) {s0 : Int} (hd : 1 ≤ d) (k : ((s0 = 0 → yI (d - 1) 164 [vR (some 137), vI 40] h (fun x h' => ZW d prog_10_method_19_code 8 39 [some (vR (some 137)), none] [vI x] h' (yq 2 (yqI K)))) ∧ (¬ (s0 = 0) → yI (d - 1) 163 [vR (some 137)] h (fun x h' => ZW d prog_10_method_19_code 8 13 [some (vR (some 137)), none] [vI x] h' (yq 2 (yqI K)))))) : ZW d prog_10_method_19_code 8 6 [some (vR (some 137)), none] [vI s0] h (yq 2 (yqI K)) := by
  refine y_if (pcT := 33) (pc' := 9) (P := s0 = 0) f163_6 rfl rfl rfl (fun c => ?_) (fun c => ?_)
  · replace k := k.1 c
    refine y_s (pc' := 34) (L' := [some (vR (some 137)), none]) (st' := [vR (some 137)]) (h' := h) f163_33 rfl ?_
    refine y_s (pc' := 36) (L' := [some (vR (some 137)), none]) (st' := [vI 40, vR (some 137)]) (h' := h) f163_34 rfl ?_
    refine y_cI (pc' := 39) (as := [vR (some 137), vI 40]) (r := []) f163_36 (yzv ym_8_204 rfl (ys137 w) rfl rfl) (by omega) rfl ?_
    exact k
  · replace k := k.2 c
    refine y_s (pc' := 10) (L' := [some (vR (some 137)), none]) (st' := [vR (some 137)]) (h' := h) f163_9 rfl ?_
    refine y_cI (pc' := 13) (as := [vR (some 137)]) (r := []) f163_10 (yzv ym_8_207 rfl (ys137 w) rfl rfl) (by omega) rfl ?_
    exact k
theorem W163_13 {d : Nat} {K : Int → Hp → Prop} (w : yWF zl nl h) {s0 : Int} (hd : 1 ≤ d) (k : ((s0 = 0 → K 0 (zsetV h 137 14 (zw ((zV h 137 14) - 1)))) ∧ (¬ (s0 = 0) → yI (d - 1) 165 [vR (some 137), vI 0] h (fun x h' => ZW d prog_10_method_19_code 8 21 [some (vR (some 137)), none] [vI x] h' (yq 2 (yqI K)))))) : ZW d prog_10_method_19_code 8 13 [some (vR (some 137)), none] [vI s0] h (yq 2 (yqI K)) := by
  refine y_if (pcT := 28) (pc' := 16) (P := s0 = 0) f163_13 rfl rfl rfl (fun c => ?_) (fun c => ?_)
  · replace k := k.1 c
    refine y_s (pc' := 29) (L' := [some (vR (some 137)), none]) (st' := [vI 0]) (h' := h) f163_28 rfl ?_
    refine y_sto (pc' := 30) (k := 1) (L' := [some (vR (some 137)), some (vI 0)]) f163_29 rfl rfl rfl rfl rfl rfl ?_
    refine y_go (pc' := 72) f163_30 rfl ?_
    refine y_s (pc' := 73) (L' := [some (vR (some 137)), some (vI 0)]) (st' := [vR (some 137)]) (h' := h) f163_72 rfl ?_
    refine y_s (pc' := 74) (L' := [some (vR (some 137)), some (vI 0)]) (st' := [vR (some 137), vR (some 137)]) (h' := h) f163_73 rfl ?_
    refine y_gi (pc' := 77) f163_74 yf_8_201 rfl rfl (ys137 w) rfl ?_
    refine y_s (pc' := 78) (L' := [some (vR (some 137)), some (vI 0)]) (st' := [vI 1, vI (zV h 137 14), vR (some 137)]) (h' := h) f163_77 rfl ?_
    refine y_s (pc' := 79) (L' := [some (vR (some 137)), some (vI 0)]) (st' := [vI (zw ((zV h 137 14) - 1)), vR (some 137)]) (h' := h) f163_78 rfl ?_
    refine y_pi (pc' := 82) f163_79 yf_8_201 rfl rfl (ys137 w) (by decide) (Or.inl rfl) rfl ?_
    refine y_s (pc' := 83) (L' := [some (vR (some 137)), some (vI 0)]) (st' := [vI 0]) (h' := (zsetV h 137 14 (zw ((zV h 137 14) - 1)))) f163_82 rfl ?_
    exact y_ri f163_83 ⟨rfl, k⟩
  · replace k := k.2 c
    refine y_s (pc' := 17) (L' := [some (vR (some 137)), none]) (st' := [vR (some 137)]) (h' := h) f163_16 rfl ?_
    refine y_s (pc' := 18) (L' := [some (vR (some 137)), none]) (st' := [vI 0, vR (some 137)]) (h' := h) f163_17 rfl ?_
    refine y_cI (pc' := 21) (as := [vR (some 137), vI 0]) (r := []) f163_18 (yzv ym_8_198 rfl (ys137 w) rfl rfl) (by omega) rfl ?_
    exact k
theorem W163_21 {d : Nat} {K : Int → Hp → Prop} (w : yWF zl nl h) {s0 : Int} (k : ((s0 = 0 → K 0 (zsetV h 137 14 (zw ((zV h 137 14) - 1)))) ∧ (¬ (s0 = 0) → K 1 (zsetV h 137 14 (zw ((zV h 137 14) - 1)))))) : ZW d prog_10_method_19_code 8 21 [some (vR (some 137)), none] [vI s0] h (yq 2 (yqI K)) := by
  refine y_if (pcT := 28) (pc' := 24) (P := s0 = 0) f163_21 rfl rfl rfl (fun c => ?_) (fun c => ?_)
  · replace k := k.1 c
    refine y_s (pc' := 29) (L' := [some (vR (some 137)), none]) (st' := [vI 0]) (h' := h) f163_28 rfl ?_
    refine y_sto (pc' := 30) (k := 1) (L' := [some (vR (some 137)), some (vI 0)]) f163_29 rfl rfl rfl rfl rfl rfl ?_
    refine y_go (pc' := 72) f163_30 rfl ?_
    refine y_s (pc' := 73) (L' := [some (vR (some 137)), some (vI 0)]) (st' := [vR (some 137)]) (h' := h) f163_72 rfl ?_
    refine y_s (pc' := 74) (L' := [some (vR (some 137)), some (vI 0)]) (st' := [vR (some 137), vR (some 137)]) (h' := h) f163_73 rfl ?_
    refine y_gi (pc' := 77) f163_74 yf_8_201 rfl rfl (ys137 w) rfl ?_
    refine y_s (pc' := 78) (L' := [some (vR (some 137)), some (vI 0)]) (st' := [vI 1, vI (zV h 137 14), vR (some 137)]) (h' := h) f163_77 rfl ?_
    refine y_s (pc' := 79) (L' := [some (vR (some 137)), some (vI 0)]) (st' := [vI (zw ((zV h 137 14) - 1)), vR (some 137)]) (h' := h) f163_78 rfl ?_
    refine y_pi (pc' := 82) f163_79 yf_8_201 rfl rfl (ys137 w) (by decide) (Or.inl rfl) rfl ?_
    refine y_s (pc' := 83) (L' := [some (vR (some 137)), some (vI 0)]) (st' := [vI 0]) (h' := (zsetV h 137 14 (zw ((zV h 137 14) - 1)))) f163_82 rfl ?_
    exact y_ri f163_83 ⟨rfl, k⟩
  · replace k := k.2 c
    refine y_s (pc' := 25) (L' := [some (vR (some 137)), none]) (st' := [vI 1]) (h' := h) f163_24 rfl ?_
    refine y_go (pc' := 29) f163_25 rfl ?_
    refine y_sto (pc' := 30) (k := 1) (L' := [some (vR (some 137)), some (vI 1)]) f163_29 rfl rfl rfl rfl rfl rfl ?_
    refine y_go (pc' := 72) f163_30 rfl ?_
    refine y_s (pc' := 73) (L' := [some (vR (some 137)), some (vI 1)]) (st' := [vR (some 137)]) (h' := h) f163_72 rfl ?_
    refine y_s (pc' := 74) (L' := [some (vR (some 137)), some (vI 1)]) (st' := [vR (some 137), vR (some 137)]) (h' := h) f163_73 rfl ?_
    refine y_gi (pc' := 77) f163_74 yf_8_201 rfl rfl (ys137 w) rfl ?_
    refine y_s (pc' := 78) (L' := [some (vR (some 137)), some (vI 1)]) (st' := [vI 1, vI (zV h 137 14), vR (some 137)]) (h' := h) f163_77 rfl ?_
    refine y_s (pc' := 79) (L' := [some (vR (some 137)), some (vI 1)]) (st' := [vI (zw ((zV h 137 14) - 1)), vR (some 137)]) (h' := h) f163_78 rfl ?_
    refine y_pi (pc' := 82) f163_79 yf_8_201 rfl rfl (ys137 w) (by decide) (Or.inl rfl) rfl ?_
    refine y_s (pc' := 83) (L' := [some (vR (some 137)), some (vI 1)]) (st' := [vI 1]) (h' := (zsetV h 137 14 (zw ((zV h 137 14) - 1)))) f163_82 rfl ?_
    exact y_ri f163_83 ⟨rfl, k⟩
theorem W163_39 {d : Nat} {K : Int → Hp → Prop} (w : yWF zl nl h) {s0 : Int} (hd : 1 ≤ d) (k : ((s0 = 0 → yI (d - 1) 166 [vR (some 137)] h (fun x h' => ZW d prog_10_method_19_code 8 71 [some (vR (some 137)), none] [vI x] h' (yq 2 (yqI K)))) ∧ (¬ (s0 = 0) → yI (d - 1) 161 [vR (some 137)] h (fun x h' => ZW d prog_10_method_19_code 8 46 [some (vR (some 137)), none] [vI x] h' (yq 2 (yqI K)))))) : ZW d prog_10_method_19_code 8 39 [some (vR (some 137)), none] [vI s0] h (yq 2 (yqI K)) := by
  refine y_if (pcT := 67) (pc' := 42) (P := s0 = 0) f163_39 rfl rfl rfl (fun c => ?_) (fun c => ?_)
  · replace k := k.1 c
    refine y_s (pc' := 68) (L' := [some (vR (some 137)), none]) (st' := [vR (some 137)]) (h' := h) f163_67 rfl ?_
    refine y_cI (pc' := 71) (as := [vR (some 137)]) (r := []) f163_68 (yzv ym_8_213 rfl (ys137 w) rfl rfl) (by omega) rfl ?_
    exact k
  · replace k := k.2 c
    refine y_s (pc' := 43) (L' := [some (vR (some 137)), none]) (st' := [vR (some 137)]) (h' := h) f163_42 rfl ?_
    refine y_cI (pc' := 46) (as := [vR (some 137)]) (r := []) f163_43 (yzv ym_8_210 rfl (ys137 w) rfl rfl) (by omega) rfl ?_
    exact k
theorem W163_46 {d : Nat} {K : Int → Hp → Prop} (w : yWF zl nl h) {s0 : Int} (hd : 1 ≤ d) (k : ((s0 = 0 → K 0 (zsetV h 137 14 (zw ((zV h 137 14) - 1)))) ∧ (¬ (s0 = 0) → yI (d - 1) 158 [vR (some 137), vI 41] h (fun x h' => ZW d prog_10_method_19_code 8 55 [some (vR (some 137)), none] [vI x] h' (yq 2 (yqI K)))))) : ZW d prog_10_method_19_code 8 46 [some (vR (some 137)), none] [vI s0] h (yq 2 (yqI K)) := by
  refine y_if (pcT := 62) (pc' := 49) (P := s0 = 0) f163_46 rfl rfl rfl (fun c => ?_) (fun c => ?_)
  · replace k := k.1 c
    refine y_s (pc' := 63) (L' := [some (vR (some 137)), none]) (st' := [vI 0]) (h' := h) f163_62 rfl ?_
    refine y_sto (pc' := 64) (k := 1) (L' := [some (vR (some 137)), some (vI 0)]) f163_63 rfl rfl rfl rfl rfl rfl ?_
    refine y_go (pc' := 72) f163_64 rfl ?_
    refine y_s (pc' := 73) (L' := [some (vR (some 137)), some (vI 0)]) (st' := [vR (some 137)]) (h' := h) f163_72 rfl ?_
    refine y_s (pc' := 74) (L' := [some (vR (some 137)), some (vI 0)]) (st' := [vR (some 137), vR (some 137)]) (h' := h) f163_73 rfl ?_
    refine y_gi (pc' := 77) f163_74 yf_8_201 rfl rfl (ys137 w) rfl ?_
    refine y_s (pc' := 78) (L' := [some (vR (some 137)), some (vI 0)]) (st' := [vI 1, vI (zV h 137 14), vR (some 137)]) (h' := h) f163_77 rfl ?_
    refine y_s (pc' := 79) (L' := [some (vR (some 137)), some (vI 0)]) (st' := [vI (zw ((zV h 137 14) - 1)), vR (some 137)]) (h' := h) f163_78 rfl ?_
    refine y_pi (pc' := 82) f163_79 yf_8_201 rfl rfl (ys137 w) (by decide) (Or.inl rfl) rfl ?_
    refine y_s (pc' := 83) (L' := [some (vR (some 137)), some (vI 0)]) (st' := [vI 0]) (h' := (zsetV h 137 14 (zw ((zV h 137 14) - 1)))) f163_82 rfl ?_
    exact y_ri f163_83 ⟨rfl, k⟩
  · replace k := k.2 c
    refine y_s (pc' := 50) (L' := [some (vR (some 137)), none]) (st' := [vR (some 137)]) (h' := h) f163_49 rfl ?_
    refine y_s (pc' := 52) (L' := [some (vR (some 137)), none]) (st' := [vI 41, vR (some 137)]) (h' := h) f163_50 rfl ?_
    refine y_cI (pc' := 55) (as := [vR (some 137), vI 41]) (r := []) f163_52 (yzv ym_8_182 rfl (ys137 w) rfl rfl) (by omega) rfl ?_
    exact k
theorem W163_55 {d : Nat} {K : Int → Hp → Prop} (w : yWF zl nl h) {s0 : Int} (k : ((s0 = 0 → K 0 (zsetV h 137 14 (zw ((zV h 137 14) - 1)))) ∧ (¬ (s0 = 0) → K 1 (zsetV h 137 14 (zw ((zV h 137 14) - 1)))))) : ZW d prog_10_method_19_code 8 55 [some (vR (some 137)), none] [vI s0] h (yq 2 (yqI K)) := by
  refine y_if (pcT := 62) (pc' := 58) (P := s0 = 0) f163_55 rfl rfl rfl (fun c => ?_) (fun c => ?_)
  · replace k := k.1 c
    refine y_s (pc' := 63) (L' := [some (vR (some 137)), none]) (st' := [vI 0]) (h' := h) f163_62 rfl ?_
    refine y_sto (pc' := 64) (k := 1) (L' := [some (vR (some 137)), some (vI 0)]) f163_63 rfl rfl rfl rfl rfl rfl ?_
    refine y_go (pc' := 72) f163_64 rfl ?_
    refine y_s (pc' := 73) (L' := [some (vR (some 137)), some (vI 0)]) (st' := [vR (some 137)]) (h' := h) f163_72 rfl ?_
    refine y_s (pc' := 74) (L' := [some (vR (some 137)), some (vI 0)]) (st' := [vR (some 137), vR (some 137)]) (h' := h) f163_73 rfl ?_
    refine y_gi (pc' := 77) f163_74 yf_8_201 rfl rfl (ys137 w) rfl ?_
    refine y_s (pc' := 78) (L' := [some (vR (some 137)), some (vI 0)]) (st' := [vI 1, vI (zV h 137 14), vR (some 137)]) (h' := h) f163_77 rfl ?_
    refine y_s (pc' := 79) (L' := [some (vR (some 137)), some (vI 0)]) (st' := [vI (zw ((zV h 137 14) - 1)), vR (some 137)]) (h' := h) f163_78 rfl ?_
    refine y_pi (pc' := 82) f163_79 yf_8_201 rfl rfl (ys137 w) (by decide) (Or.inl rfl) rfl ?_
    refine y_s (pc' := 83) (L' := [some (vR (some 137)), some (vI 0)]) (st' := [vI 0]) (h' := (zsetV h 137 14 (zw ((zV h 137 14) - 1)))) f163_82 rfl ?_
    exact y_ri f163_83 ⟨rfl, k⟩
  · replace k := k.2 c
    refine y_s (pc' := 59) (L' := [some (vR (some 137)), none]) (st' := [vI 1]) (h' := h) f163_58 rfl ?_
    refine y_go (pc' := 63) f163_59 rfl ?_
    refine y_sto (pc' := 64) (k := 1) (L' := [some (vR (some 137)), some (vI 1)]) f163_63 rfl rfl rfl rfl rfl rfl ?_
    refine y_go (pc' := 72) f163_64 rfl ?_
    refine y_s (pc' := 73) (L' := [some (vR (some 137)), some (vI 1)]) (st' := [vR (some 137)]) (h' := h) f163_72 rfl ?_
    refine y_s (pc' := 74) (L' := [some (vR (some 137)), some (vI 1)]) (st' := [vR (some 137), vR (some 137)]) (h' := h) f163_73 rfl ?_
    refine y_gi (pc' := 77) f163_74 yf_8_201 rfl rfl (ys137 w) rfl ?_
    refine y_s (pc' := 78) (L' := [some (vR (some 137)), some (vI 1)]) (st' := [vI 1, vI (zV h 137 14), vR (some 137)]) (h' := h) f163_77 rfl ?_
    refine y_s (pc' := 79) (L' := [some (vR (some 137)), some (vI 1)]) (st' := [vI (zw ((zV h 137 14) - 1)), vR (some 137)]) (h' := h) f163_78 rfl ?_
    refine y_pi (pc' := 82) f163_79 yf_8_201 rfl rfl (ys137 w) (by decide) (Or.inl rfl) rfl ?_
    refine y_s (pc' := 83) (L' := [some (vR (some 137)), some (vI 1)]) (st' := [vI 1]) (h' := (zsetV h 137 14 (zw ((zV h 137 14) - 1)))) f163_82 rfl ?_
    exact y_ri f163_83 ⟨rfl, k⟩
theorem W163_71 {d : Nat} {K : Int → Hp → Prop} (w : yWF zl nl h) {s0 : Int} (k : ((s0 = 0 ∨ s0 = 1) ∧ K s0 h)) : ZW d prog_10_method_19_code 8 71 [some (vR (some 137)), none] [vI s0] h (yq 2 (yqI K)) := by
  exact y_ri f163_71 ⟨decide_eq_true k.1, k.2⟩
/-- HatterTunesModel.isOpened(I)Z -/
theorem E164 {d : Nat} {K : Int → Hp → Prop} (w : yWF zl nl h) {x0 : Int} (hd : 1 ≤ d) (k : (((zV h 137 14) = 4 → K 0 h) ∧ (¬ ((zV h 137 14) = 4) → yI (d - 1) 158 [vR (some 137), vI x0] h (fun x h' => ZW d prog_10_method_18_code 8 13 [some (vR (some 137)), some (vI x0)] [vI x] h' (yq 2 (yqI K)))))) : yI d 164 [vR (some 137), vI x0] h K := by
  refine y_en (L := [some (vR (some 137)), some (vI x0)]) rfl rfl ?_
  refine y_s (pc' := 1) (L' := [some (vR (some 137)), some (vI x0)]) (st' := [vR (some 137)]) (h' := h) f164_0 rfl ?_
  refine y_gi (pc' := 4) f164_1 yf_8_201 rfl rfl (ys137 w) rfl ?_
  refine y_s (pc' := 5) (L' := [some (vR (some 137)), some (vI x0)]) (st' := [vI 4, vI (zV h 137 14)]) (h' := h) f164_4 rfl ?_
  refine y_ic (pcT := 16) (pc' := 8) (P := (zV h 137 14) = 4) f164_5 rfl rfl rfl (fun c => ?_) (fun c => ?_)
  · replace k := k.1 c
    refine y_s (pc' := 17) (L' := [some (vR (some 137)), some (vI x0)]) (st' := [vI 0]) (h' := h) f164_16 rfl ?_
    exact y_ri f164_17 ⟨rfl, k⟩
  · replace k := k.2 c
    refine y_s (pc' := 9) (L' := [some (vR (some 137)), some (vI x0)]) (st' := [vR (some 137)]) (h' := h) f164_8 rfl ?_
    refine y_s (pc' := 10) (L' := [some (vR (some 137)), some (vI x0)]) (st' := [vI x0, vR (some 137)]) (h' := h) f164_9 rfl ?_
    refine y_cI (pc' := 13) (as := [vR (some 137), vI x0]) (r := []) f164_10 (yzv ym_8_182 rfl (ys137 w) rfl rfl) (by omega) rfl ?_
    exact k
theorem W164_13 {d : Nat} {K : Int → Hp → Prop} (w : yWF zl nl h) {l1 : Int} {s0 : Int} (k : ((s0 ≠ 0 → K 1 (zsetV h 137 14 (zw ((zV h 137 14) + 1)))) ∧ (¬ (s0 ≠ 0) → K 0 h))) : ZW d prog_10_method_18_code 8 13 [some (vR (some 137)), some (vI l1)] [vI s0] h (yq 2 (yqI K)) := by
  refine y_if (pcT := 18) (pc' := 16) (P := s0 ≠ 0) f164_13 rfl rfl rfl (fun c => ?_) (fun c => ?_)
  · replace k := k.1 c
    refine y_s (pc' := 19) (L' := [some (vR (some 137)), some (vI l1)]) (st' := [vR (some 137)]) (h' := h) f164_18 rfl ?_
    refine y_s (pc' := 20) (L' := [some (vR (some 137)), some (vI l1)]) (st' := [vR (some 137), vR (some 137)]) (h' := h) f164_19 rfl ?_
    refine y_gi (pc' := 23) f164_20 yf_8_201 rfl rfl (ys137 w) rfl ?_
    refine y_s (pc' := 24) (L' := [some (vR (some 137)), some (vI l1)]) (st' := [vI 1, vI (zV h 137 14), vR (some 137)]) (h' := h) f164_23 rfl ?_
    refine y_s (pc' := 25) (L' := [some (vR (some 137)), some (vI l1)]) (st' := [vI (zw ((zV h 137 14) + 1)), vR (some 137)]) (h' := h) f164_24 rfl ?_
    refine y_pi (pc' := 28) f164_25 yf_8_201 rfl rfl (ys137 w) (by decide) (Or.inl rfl) rfl ?_
    refine y_s (pc' := 29) (L' := [some (vR (some 137)), some (vI l1)]) (st' := [vI 1]) (h' := (zsetV h 137 14 (zw ((zV h 137 14) + 1)))) f164_28 rfl ?_
    exact y_ri f164_29 ⟨rfl, k⟩
  · replace k := k.2 c
    refine y_s (pc' := 17) (L' := [some (vR (some 137)), some (vI l1)]) (st' := [vI 0]) (h' := h) f164_16 rfl ?_
    exact y_ri f164_17 ⟨rfl, k⟩
end YD
