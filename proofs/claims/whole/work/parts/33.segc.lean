/-! SEGMENTS C: the class (printed by wip/whole/gen_dec.py) -/
theorem yf_0_25 : zfld 0 25 = some (0, 2) := rfl
theorem yf_0_28 : zfld 0 28 = some (0, 3) := rfl
theorem yf_0_31 : zfld 0 31 = some (0, 4) := rfl
theorem yf_1_9 : zfld 1 9 = some (1, 0) := rfl
theorem yf_1_15 : zfld 1 15 = some (1, 1) := rfl
theorem yf_1_18 : zfld 1 18 = some (1, 2) := rfl
theorem yf_1_21 : zfld 1 21 = some (1, 3) := rfl
theorem yf_1_37 : zfld 1 37 = some (2, 10) := rfl
theorem yf_2_39 : zfld 2 39 = some (2, 7) := rfl
theorem yf_2_42 : zfld 2 42 = some (2, 8) := rfl
theorem yf_2_45 : zfld 2 45 = some (2, 9) := rfl
theorem yf_2_65 : zfld 2 65 = some (2, 10) := rfl
theorem yf_2_90 : zfld 2 90 = some (4, 4) := rfl
theorem yf_6_24 : zfld 6 24 = some (6, 4) := rfl
theorem yf_6_72 : zfld 6 72 = some (4, 4) := rfl
theorem yf_7_21 : zfld 7 21 = some (7, 2) := rfl
theorem yf_7_27 : zfld 7 27 = some (7, 4) := rfl
theorem yf_7_33 : zfld 7 33 = some (7, 5) := rfl
theorem yf_7_39 : zfld 7 39 = some (7, 7) := rfl
theorem yf_7_46 : zfld 7 46 = some (7, 8) := rfl
theorem yf_7_75 : zfld 7 75 = some (2, 0) := rfl
theorem yf_7_79 : zfld 7 79 = some (2, 1) := rfl
theorem yf_7_82 : zfld 7 82 = some (2, 2) := rfl
theorem yf_7_131 : zfld 7 131 = some (2, 6) := rfl
theorem yf_7_149 : zfld 7 149 = some (2, 4) := rfl
theorem yf_7_155 : zfld 7 155 = some (7, 6) := rfl
theorem yf_7_162 : zfld 7 162 = some (2, 12) := rfl
theorem yf_7_178 : zfld 7 178 = some (3, 1) := rfl
theorem yf_7_203 : zfld 7 203 = some (2, 7) := rfl
theorem yf_7_218 : zfld 7 218 = some (2, 8) := rfl
theorem yf_7_224 : zfld 7 224 = some (2, 9) := rfl
theorem yf_7_230 : zfld 7 230 = some (5, 1) := rfl
theorem yf_7_236 : zfld 7 236 = some (5, 2) := rfl
theorem yf_7_243 : zfld 7 243 = some (5, 0) := rfl
theorem yf_7_247 : zfld 7 247 = some (7, 3) := rfl
theorem yf_7_261 : zfld 7 261 = some (0, 0) := rfl
theorem yf_7_267 : zfld 7 267 = some (6, 1) := rfl
theorem yf_7_268 : zfld 7 268 = some (0, 1) := rfl
theorem ym_0_34 : zmth 0 34 = some (0, 110) := rfl
theorem ym_0_38 : zmth 0 38 = some (2, 111) := rfl
theorem ym_0_41 : zmth 0 41 = some (0, 112) := rfl
theorem ym_1_24 : zmth 1 24 = some (2, 85) := rfl
theorem ym_1_40 : zmth 1 40 = some (0, 16) := rfl
theorem ym_1_43 : zmth 1 43 = some (5, 82) := rfl
theorem ym_1_47 : zmth 1 47 = some (0, 86) := rfl
theorem ym_1_51 : zmth 1 51 = some (0, 87) := rfl
theorem ym_1_55 : zmth 1 55 = some (10, 0) := rfl
theorem ym_2_55 : zmth 2 55 = some (10, 0) := rfl
theorem ym_2_61 : zmth 2 61 = some (0, 29) := rfl
theorem ym_2_72 : zmth 2 72 = some (0, 12) := rfl
theorem ym_2_84 : zmth 2 84 = some (0, 31) := rfl
theorem ym_2_87 : zmth 2 87 = some (0, 30) := rfl
theorem ym_2_115 : zmth 2 115 = some (0, 25) := rfl
theorem ym_2_119 : zmth 2 119 = some (0, 16) := rfl
theorem ym_2_132 : zmth 2 132 = some (0, 99) := rfl
theorem ym_3_17 : zmth 3 17 = some (11, 22) := rfl
theorem ym_3_23 : zmth 3 23 = some (10, 0) := rfl
theorem ym_6_35 : zmth 6 35 = some (0, 63) := rfl
theorem ym_6_59 : zmth 6 59 = some (0, 65) := rfl
theorem ym_6_65 : zmth 6 65 = some (0, 67) := rfl
theorem ym_6_68 : zmth 6 68 = some (0, 70) := rfl
theorem ym_6_75 : zmth 6 75 = some (0, 68) := rfl
theorem ym_6_78 : zmth 6 78 = some (0, 69) := rfl
theorem ym_6_81 : zmth 6 81 = some (0, 71) := rfl
theorem ym_6_84 : zmth 6 84 = some (2, 72) := rfl
theorem ym_6_88 : zmth 6 88 = some (2, 73) := rfl
theorem ym_7_67 : zmth 7 67 = some (0, 11) := rfl
theorem ym_7_71 : zmth 7 71 = some (0, 15) := rfl
theorem ym_7_85 : zmth 7 85 = some (0, 16) := rfl
theorem ym_7_102 : zmth 7 102 = some (0, 20) := rfl
theorem ym_7_114 : zmth 7 114 = some (0, 28) := rfl
theorem ym_7_124 : zmth 7 124 = some (0, 13) := rfl
theorem ym_7_135 : zmth 7 135 = some (0, 39) := rfl
theorem ym_7_141 : zmth 7 141 = some (0, 40) := rfl
theorem ym_7_145 : zmth 7 145 = some (0, 41) := rfl
theorem ym_7_152 : zmth 7 152 = some (0, 44) := rfl
theorem ym_7_153 : zmth 7 153 = some (0, 45) := rfl
theorem ym_7_158 : zmth 7 158 = some (0, 47) := rfl
theorem ym_7_179 : zmth 7 179 = some (0, 26) := rfl
theorem ym_7_186 : zmth 7 186 = some (2, 82) := rfl
theorem ym_7_227 : zmth 7 227 = some (0, 103) := rfl
theorem ym_7_233 : zmth 7 233 = some (0, 104) := rfl
theorem ym_7_238 : zmth 7 238 = some (11, 22) := rfl
theorem ym_7_251 : zmth 7 251 = some (0, 108) := rfl
theorem ym_7_254 : zmth 7 254 = some (0, 109) := rfl
theorem ym_7_258 : zmth 7 258 = some (0, 114) := rfl
theorem ym_7_264 : zmth 7 264 = some (2, 116) := rfl
theorem ym_7_271 : zmth 7 271 = some (0, 119) := rfl
theorem ym_7_274 : zmth 7 274 = some (0, 120) := rfl
theorem ym_7_277 : zmth 7 277 = some (0, 122) := rfl
theorem ym_7_281 : zmth 7 281 = some (0, 126) := rfl
theorem ym_7_284 : zmth 7 284 = some (10, 0) := rfl
theorem f9_0 : decode prog_1_method_2_code 0 = .ok (.iload_n 1, 1) := by decide +kernel
theorem f9_1 : decode prog_1_method_2_code 1 = .ok (.bipush 7, 2) := by decide +kernel
theorem f9_3 : decode prog_1_method_2_code 3 = .ok (.invokestatic 59, 3) := by decide +kernel
theorem f9_6 : decode prog_1_method_2_code 6 = .ok (.ifCond .ne 5, 3) := by decide +kernel
theorem f9_9 : decode prog_1_method_2_code 9 = .ok (.iconst (-1), 1) := by decide +kernel
theorem f9_10 : decode prog_1_method_2_code 10 = .ok (.ireturn, 1) := by decide +kernel
theorem f9_11 : decode prog_1_method_2_code 11 = .ok (.iload_n 2, 1) := by decide +kernel
theorem f9_12 : decode prog_1_method_2_code 12 = .ok (.bipush 10, 2) := by decide +kernel
theorem f9_14 : decode prog_1_method_2_code 14 = .ok (.invokestatic 59, 3) := by decide +kernel
theorem f9_17 : decode prog_1_method_2_code 17 = .ok (.ifCond .ne 6, 3) := by decide +kernel
theorem f9_20 : decode prog_1_method_2_code 20 = .ok (.bipush (-2), 2) := by decide +kernel
theorem f9_22 : decode prog_1_method_2_code 22 = .ok (.ireturn, 1) := by decide +kernel
theorem f9_23 : decode prog_1_method_2_code 23 = .ok (.aload_n 0, 1) := by decide +kernel
theorem f9_24 : decode prog_1_method_2_code 24 = .ok (.getfield 14, 3) := by decide +kernel
theorem f9_27 : decode prog_1_method_2_code 27 = .ok (.getfield 63, 3) := by decide +kernel
theorem f9_30 : decode prog_1_method_2_code 30 = .ok (.bipush 6, 2) := by decide +kernel
theorem f9_32 : decode prog_1_method_2_code 32 = .ok (.if_icmp .lt 8, 3) := by decide +kernel
theorem f9_35 : decode prog_1_method_2_code 35 = .ok (.bipush (-4), 2) := by decide +kernel
theorem f9_37 : decode prog_1_method_2_code 37 = .ok (.goto 12, 3) := by decide +kernel
theorem f9_40 : decode prog_1_method_2_code 40 = .ok (.aload_n 0, 1) := by decide +kernel
theorem f9_41 : decode prog_1_method_2_code 41 = .ok (.getfield 14, 3) := by decide +kernel
theorem f9_44 : decode prog_1_method_2_code 44 = .ok (.iload_n 1, 1) := by decide +kernel
theorem f9_45 : decode prog_1_method_2_code 45 = .ok (.iload_n 2, 1) := by decide +kernel
theorem f9_46 : decode prog_1_method_2_code 46 = .ok (.invokevirtual 67, 3) := by decide +kernel
theorem f9_49 : decode prog_1_method_2_code 49 = .ok (.ireturn, 1) := by decide +kernel
theorem f11_0 : decode prog_4_method_3_code 0 = .ok (.aload_n 0, 1) := by decide +kernel
theorem f11_1 : decode prog_4_method_3_code 1 = .ok (.getfield 65, 3) := by decide +kernel
theorem f11_4 : decode prog_4_method_3_code 4 = .ok (.istore_n 3, 1) := by decide +kernel
theorem f11_5 : decode prog_4_method_3_code 5 = .ok (.aload_n 0, 1) := by decide +kernel
theorem f11_6 : decode prog_4_method_3_code 6 = .ok (.getfield 9, 3) := by decide +kernel
theorem f11_9 : decode prog_4_method_3_code 9 = .ok (.iload_n 3, 1) := by decide +kernel
theorem f11_10 : decode prog_4_method_3_code 10 = .ok (.iload_n 1, 1) := by decide +kernel
theorem f11_11 : decode prog_4_method_3_code 11 = .ok (.iastore, 1) := by decide +kernel
theorem f11_12 : decode prog_4_method_3_code 12 = .ok (.aload_n 0, 1) := by decide +kernel
theorem f11_13 : decode prog_4_method_3_code 13 = .ok (.getfield 15, 3) := by decide +kernel
theorem f11_16 : decode prog_4_method_3_code 16 = .ok (.iload_n 3, 1) := by decide +kernel
theorem f11_17 : decode prog_4_method_3_code 17 = .ok (.iload_n 2, 1) := by decide +kernel
theorem f11_18 : decode prog_4_method_3_code 18 = .ok (.iastore, 1) := by decide +kernel
theorem f11_19 : decode prog_4_method_3_code 19 = .ok (.aload_n 0, 1) := by decide +kernel
theorem f11_20 : decode prog_4_method_3_code 20 = .ok (.getfield 18, 3) := by decide +kernel
theorem f11_23 : decode prog_4_method_3_code 23 = .ok (.iload_n 3, 1) := by decide +kernel
theorem f11_24 : decode prog_4_method_3_code 24 = .ok (.iconst 0, 1) := by decide +kernel
theorem f11_25 : decode prog_4_method_3_code 25 = .ok (.iastore, 1) := by decide +kernel
theorem f11_26 : decode prog_4_method_3_code 26 = .ok (.aload_n 0, 1) := by decide +kernel
theorem f11_27 : decode prog_4_method_3_code 27 = .ok (.iload_n 3, 1) := by decide +kernel
theorem f11_28 : decode prog_4_method_3_code 28 = .ok (.iconst 0, 1) := by decide +kernel
theorem f11_29 : decode prog_4_method_3_code 29 = .ok (.invokevirtual 72, 3) := by decide +kernel
theorem f11_32 : decode prog_4_method_3_code 32 = .ok (.iconst 0, 1) := by decide +kernel
theorem f11_33 : decode prog_4_method_3_code 33 = .ok (.istore 4, 2) := by decide +kernel
theorem f11_35 : decode prog_4_method_3_code 35 = .ok (.iload 4, 2) := by decide +kernel
theorem f11_37 : decode prog_4_method_3_code 37 = .ok (.iconst 4, 1) := by decide +kernel
theorem f11_38 : decode prog_4_method_3_code 38 = .ok (.if_icmp .ge 21, 3) := by decide +kernel
theorem f11_41 : decode prog_4_method_3_code 41 = .ok (.aload_n 0, 1) := by decide +kernel
theorem f11_42 : decode prog_4_method_3_code 42 = .ok (.getfield 24, 3) := by decide +kernel
theorem f11_45 : decode prog_4_method_3_code 45 = .ok (.iload_n 3, 1) := by decide +kernel
theorem f11_46 : decode prog_4_method_3_code 46 = .ok (.iconst 4, 1) := by decide +kernel
theorem f11_47 : decode prog_4_method_3_code 47 = .ok (.imul, 1) := by decide +kernel
theorem f11_48 : decode prog_4_method_3_code 48 = .ok (.iload 4, 2) := by decide +kernel
theorem f11_50 : decode prog_4_method_3_code 50 = .ok (.iadd, 1) := by decide +kernel
theorem f11_51 : decode prog_4_method_3_code 51 = .ok (.iconst 0, 1) := by decide +kernel
theorem f11_52 : decode prog_4_method_3_code 52 = .ok (.iastore, 1) := by decide +kernel
theorem f11_53 : decode prog_4_method_3_code 53 = .ok (.iinc 4 1, 3) := by decide +kernel
theorem f11_56 : decode prog_4_method_3_code 56 = .ok (.goto (-21), 3) := by decide +kernel
theorem f11_59 : decode prog_4_method_3_code 59 = .ok (.aload_n 0, 1) := by decide +kernel
theorem f11_60 : decode prog_4_method_3_code 60 = .ok (.dup, 1) := by decide +kernel
theorem f11_61 : decode prog_4_method_3_code 61 = .ok (.getfield 65, 3) := by decide +kernel
theorem f11_64 : decode prog_4_method_3_code 64 = .ok (.iconst 1, 1) := by decide +kernel
theorem f11_65 : decode prog_4_method_3_code 65 = .ok (.iadd, 1) := by decide +kernel
theorem f11_66 : decode prog_4_method_3_code 66 = .ok (.putfield 65, 3) := by decide +kernel
theorem f11_69 : decode prog_4_method_3_code 69 = .ok (.iload_n 3, 1) := by decide +kernel
theorem f11_70 : decode prog_4_method_3_code 70 = .ok (.ireturn, 1) := by decide +kernel
theorem f24_0 : decode prog_4_method_15_code 0 = .ok (.aload_n 0, 1) := by decide +kernel
theorem f24_1 : decode prog_4_method_15_code 1 = .ok (.getfield 35, 3) := by decide +kernel
theorem f24_4 : decode prog_4_method_15_code 4 = .ok (.getfield 114, 3) := by decide +kernel
theorem f24_7 : decode prog_4_method_15_code 7 = .ok (.istore_n 2, 1) := by decide +kernel
theorem f24_8 : decode prog_4_method_15_code 8 = .ok (.iload_n 2, 1) := by decide +kernel
theorem f24_9 : decode prog_4_method_15_code 9 = .ok (.ifCond .ne 5, 3) := by decide +kernel
theorem f24_12 : decode prog_4_method_15_code 12 = .ok (.iconst 0, 1) := by decide +kernel
theorem f24_13 : decode prog_4_method_15_code 13 = .ok (.ireturn, 1) := by decide +kernel
theorem f24_14 : decode prog_4_method_15_code 14 = .ok (.iload_n 2, 1) := by decide +kernel
theorem f24_15 : decode prog_4_method_15_code 15 = .ok (.bipush 6, 2) := by decide +kernel
theorem f24_17 : decode prog_4_method_15_code 17 = .ok (.if_icmp .le 6, 3) := by decide +kernel
theorem f24_20 : decode prog_4_method_15_code 20 = .ok (.bipush (-5), 2) := by decide +kernel
theorem f24_22 : decode prog_4_method_15_code 22 = .ok (.ireturn, 1) := by decide +kernel
theorem f24_23 : decode prog_4_method_15_code 23 = .ok (.aload_n 0, 1) := by decide +kernel
theorem f24_24 : decode prog_4_method_15_code 24 = .ok (.invokevirtual 115, 3) := by decide +kernel
theorem f24_27 : decode prog_4_method_15_code 27 = .ok (.istore_n 3, 1) := by decide +kernel
theorem f24_28 : decode prog_4_method_15_code 28 = .ok (.aload_n 0, 1) := by decide +kernel
theorem f24_29 : decode prog_4_method_15_code 29 = .ok (.iload_n 1, 1) := by decide +kernel
theorem f24_30 : decode prog_4_method_15_code 30 = .ok (.invokevirtual 119, 3) := by decide +kernel
theorem f24_33 : decode prog_4_method_15_code 33 = .ok (.istore 4, 2) := by decide +kernel
theorem f24_35 : decode prog_4_method_15_code 35 = .ok (.iconst 0, 1) := by decide +kernel
theorem f24_36 : decode prog_4_method_15_code 36 = .ok (.istore 5, 2) := by decide +kernel
theorem f24_38 : decode prog_4_method_15_code 38 = .ok (.iload 5, 2) := by decide +kernel
theorem f24_40 : decode prog_4_method_15_code 40 = .ok (.iload_n 2, 1) := by decide +kernel
theorem f24_41 : decode prog_4_method_15_code 41 = .ok (.iadd, 1) := by decide +kernel
theorem f24_42 : decode prog_4_method_15_code 42 = .ok (.bipush 6, 2) := by decide +kernel
theorem f24_44 : decode prog_4_method_15_code 44 = .ok (.if_icmp .gt 40, 3) := by decide +kernel
theorem f24_47 : decode prog_4_method_15_code 47 = .ok (.bipush 6, 2) := by decide +kernel
theorem f24_49 : decode prog_4_method_15_code 49 = .ok (.iload_n 2, 1) := by decide +kernel
theorem f24_50 : decode prog_4_method_15_code 50 = .ok (.isub, 1) := by decide +kernel
theorem f24_51 : decode prog_4_method_15_code 51 = .ok (.iload 5, 2) := by decide +kernel
theorem f24_53 : decode prog_4_method_15_code 53 = .ok (.isub, 1) := by decide +kernel
theorem f24_54 : decode prog_4_method_15_code 54 = .ok (.istore 6, 2) := by decide +kernel
theorem f24_56 : decode prog_4_method_15_code 56 = .ok (.iload 4, 2) := by decide +kernel
theorem f24_58 : decode prog_4_method_15_code 58 = .ok (.getstatic 123, 3) := by decide +kernel
theorem f24_61 : decode prog_4_method_15_code 61 = .ok (.iload 6, 2) := by decide +kernel
theorem f24_63 : decode prog_4_method_15_code 63 = .ok (.iaload, 1) := by decide +kernel
theorem f24_64 : decode prog_4_method_15_code 64 = .ok (.idiv, 1) := by decide +kernel
theorem f24_65 : decode prog_4_method_15_code 65 = .ok (.getstatic 123, 3) := by decide +kernel
theorem f24_68 : decode prog_4_method_15_code 68 = .ok (.iload_n 2, 1) := by decide +kernel
theorem f24_69 : decode prog_4_method_15_code 69 = .ok (.iaload, 1) := by decide +kernel
theorem f24_70 : decode prog_4_method_15_code 70 = .ok (.irem, 1) := by decide +kernel
theorem f24_71 : decode prog_4_method_15_code 71 = .ok (.iload_n 3, 1) := by decide +kernel
theorem f24_72 : decode prog_4_method_15_code 72 = .ok (.if_icmp .ne 6, 3) := by decide +kernel
theorem f24_75 : decode prog_4_method_15_code 75 = .ok (.iload 5, 2) := by decide +kernel
theorem f24_77 : decode prog_4_method_15_code 77 = .ok (.ireturn, 1) := by decide +kernel
theorem f24_78 : decode prog_4_method_15_code 78 = .ok (.iinc 5 1, 3) := by decide +kernel
theorem f24_81 : decode prog_4_method_15_code 81 = .ok (.goto (-43), 3) := by decide +kernel
theorem f24_84 : decode prog_4_method_15_code 84 = .ok (.bipush (-5), 2) := by decide +kernel
theorem f24_86 : decode prog_4_method_15_code 86 = .ok (.ireturn, 1) := by decide +kernel
theorem f28_0 : decode prog_4_method_2_code 0 = .ok (.aload_n 1, 1) := by decide +kernel
theorem f28_1 : decode prog_4_method_2_code 1 = .ok (.getfield 9, 3) := by decide +kernel
theorem f28_4 : decode prog_4_method_2_code 4 = .ok (.iconst 0, 1) := by decide +kernel
theorem f28_5 : decode prog_4_method_2_code 5 = .ok (.aload_n 0, 1) := by decide +kernel
theorem f28_6 : decode prog_4_method_2_code 6 = .ok (.getfield 9, 3) := by decide +kernel
theorem f28_9 : decode prog_4_method_2_code 9 = .ok (.iconst 0, 1) := by decide +kernel
theorem f28_10 : decode prog_4_method_2_code 10 = .ok (.bipush 6, 2) := by decide +kernel
theorem f28_12 : decode prog_4_method_2_code 12 = .ok (.invokestatic 55, 3) := by decide +kernel
theorem f28_15 : decode prog_4_method_2_code 15 = .ok (.aload_n 1, 1) := by decide +kernel
theorem f28_16 : decode prog_4_method_2_code 16 = .ok (.getfield 15, 3) := by decide +kernel
theorem f28_19 : decode prog_4_method_2_code 19 = .ok (.iconst 0, 1) := by decide +kernel
theorem f28_20 : decode prog_4_method_2_code 20 = .ok (.aload_n 0, 1) := by decide +kernel
theorem f28_21 : decode prog_4_method_2_code 21 = .ok (.getfield 15, 3) := by decide +kernel
theorem f28_24 : decode prog_4_method_2_code 24 = .ok (.iconst 0, 1) := by decide +kernel
theorem f28_25 : decode prog_4_method_2_code 25 = .ok (.bipush 6, 2) := by decide +kernel
theorem f28_27 : decode prog_4_method_2_code 27 = .ok (.invokestatic 55, 3) := by decide +kernel
theorem f28_30 : decode prog_4_method_2_code 30 = .ok (.aload_n 1, 1) := by decide +kernel
theorem f28_31 : decode prog_4_method_2_code 31 = .ok (.getfield 18, 3) := by decide +kernel
theorem f28_34 : decode prog_4_method_2_code 34 = .ok (.iconst 0, 1) := by decide +kernel
theorem f28_35 : decode prog_4_method_2_code 35 = .ok (.aload_n 0, 1) := by decide +kernel
theorem f28_36 : decode prog_4_method_2_code 36 = .ok (.getfield 18, 3) := by decide +kernel
theorem f28_39 : decode prog_4_method_2_code 39 = .ok (.iconst 0, 1) := by decide +kernel
theorem f28_40 : decode prog_4_method_2_code 40 = .ok (.bipush 6, 2) := by decide +kernel
theorem f28_42 : decode prog_4_method_2_code 42 = .ok (.invokestatic 55, 3) := by decide +kernel
theorem f28_45 : decode prog_4_method_2_code 45 = .ok (.aload_n 1, 1) := by decide +kernel
theorem f28_46 : decode prog_4_method_2_code 46 = .ok (.getfield 21, 3) := by decide +kernel
theorem f28_49 : decode prog_4_method_2_code 49 = .ok (.iconst 0, 1) := by decide +kernel
theorem f28_50 : decode prog_4_method_2_code 50 = .ok (.aload_n 0, 1) := by decide +kernel
theorem f28_51 : decode prog_4_method_2_code 51 = .ok (.getfield 21, 3) := by decide +kernel
theorem f28_54 : decode prog_4_method_2_code 54 = .ok (.iconst 0, 1) := by decide +kernel
theorem f28_55 : decode prog_4_method_2_code 55 = .ok (.bipush 36, 2) := by decide +kernel
theorem f28_57 : decode prog_4_method_2_code 57 = .ok (.invokestatic 55, 3) := by decide +kernel
theorem f28_60 : decode prog_4_method_2_code 60 = .ok (.aload_n 1, 1) := by decide +kernel
theorem f28_61 : decode prog_4_method_2_code 61 = .ok (.getfield 24, 3) := by decide +kernel
theorem f28_64 : decode prog_4_method_2_code 64 = .ok (.iconst 0, 1) := by decide +kernel
theorem f28_65 : decode prog_4_method_2_code 65 = .ok (.aload_n 0, 1) := by decide +kernel
theorem f28_66 : decode prog_4_method_2_code 66 = .ok (.getfield 24, 3) := by decide +kernel
theorem f28_69 : decode prog_4_method_2_code 69 = .ok (.iconst 0, 1) := by decide +kernel
theorem f28_70 : decode prog_4_method_2_code 70 = .ok (.bipush 24, 2) := by decide +kernel
theorem f28_72 : decode prog_4_method_2_code 72 = .ok (.invokestatic 55, 3) := by decide +kernel
theorem f28_75 : decode prog_4_method_2_code 75 = .ok (.aload_n 0, 1) := by decide +kernel
theorem f28_76 : decode prog_4_method_2_code 76 = .ok (.getfield 35, 3) := by decide +kernel
theorem f28_79 : decode prog_4_method_2_code 79 = .ok (.aload_n 1, 1) := by decide +kernel
theorem f28_80 : decode prog_4_method_2_code 80 = .ok (.getfield 35, 3) := by decide +kernel
theorem f28_83 : decode prog_4_method_2_code 83 = .ok (.invokevirtual 61, 3) := by decide +kernel
theorem f28_86 : decode prog_4_method_2_code 86 = .ok (.aload_n 0, 1) := by decide +kernel
theorem f28_87 : decode prog_4_method_2_code 87 = .ok (.getfield 39, 3) := by decide +kernel
theorem f28_90 : decode prog_4_method_2_code 90 = .ok (.aload_n 1, 1) := by decide +kernel
theorem f28_91 : decode prog_4_method_2_code 91 = .ok (.getfield 39, 3) := by decide +kernel
theorem f28_94 : decode prog_4_method_2_code 94 = .ok (.invokevirtual 61, 3) := by decide +kernel
theorem f28_97 : decode prog_4_method_2_code 97 = .ok (.aload_n 0, 1) := by decide +kernel
theorem f28_98 : decode prog_4_method_2_code 98 = .ok (.getfield 42, 3) := by decide +kernel
theorem f28_101 : decode prog_4_method_2_code 101 = .ok (.aload_n 1, 1) := by decide +kernel
theorem f28_102 : decode prog_4_method_2_code 102 = .ok (.getfield 42, 3) := by decide +kernel
theorem f28_105 : decode prog_4_method_2_code 105 = .ok (.invokevirtual 61, 3) := by decide +kernel
theorem f28_108 : decode prog_4_method_2_code 108 = .ok (.aload_n 0, 1) := by decide +kernel
theorem f28_109 : decode prog_4_method_2_code 109 = .ok (.getfield 45, 3) := by decide +kernel
theorem f28_112 : decode prog_4_method_2_code 112 = .ok (.aload_n 1, 1) := by decide +kernel
theorem f28_113 : decode prog_4_method_2_code 113 = .ok (.getfield 45, 3) := by decide +kernel
theorem f28_116 : decode prog_4_method_2_code 116 = .ok (.invokevirtual 61, 3) := by decide +kernel
theorem f28_119 : decode prog_4_method_2_code 119 = .ok (.aload_n 0, 1) := by decide +kernel
theorem f28_120 : decode prog_4_method_2_code 120 = .ok (.aload_n 1, 1) := by decide +kernel
theorem f28_121 : decode prog_4_method_2_code 121 = .ok (.getfield 65, 3) := by decide +kernel
theorem f28_124 : decode prog_4_method_2_code 124 = .ok (.putfield 65, 3) := by decide +kernel
theorem f28_127 : decode prog_4_method_2_code 127 = .ok (.aload_n 0, 1) := by decide +kernel
theorem f28_128 : decode prog_4_method_2_code 128 = .ok (.aload_n 1, 1) := by decide +kernel
theorem f28_129 : decode prog_4_method_2_code 129 = .ok (.getfield 69, 3) := by decide +kernel
theorem f28_132 : decode prog_4_method_2_code 132 = .ok (.putfield 69, 3) := by decide +kernel
theorem f28_135 : decode prog_4_method_2_code 135 = .ok (.aload_n 0, 1) := by decide +kernel
theorem f28_136 : decode prog_4_method_2_code 136 = .ok (.aload_n 1, 1) := by decide +kernel
theorem f28_137 : decode prog_4_method_2_code 137 = .ok (.getfield 51, 3) := by decide +kernel
theorem f28_140 : decode prog_4_method_2_code 140 = .ok (.putfield 51, 3) := by decide +kernel
theorem f28_143 : decode prog_4_method_2_code 143 = .ok (.return_, 1) := by decide +kernel
theorem f29_0 : decode prog_5_method_6_code 0 = .ok (.aload_n 1, 1) := by decide +kernel
theorem f29_1 : decode prog_5_method_6_code 1 = .ok (.getfield 9, 3) := by decide +kernel
theorem f29_4 : decode prog_5_method_6_code 4 = .ok (.iconst 0, 1) := by decide +kernel
theorem f29_5 : decode prog_5_method_6_code 5 = .ok (.aload_n 0, 1) := by decide +kernel
theorem f29_6 : decode prog_5_method_6_code 6 = .ok (.getfield 9, 3) := by decide +kernel
theorem f29_9 : decode prog_5_method_6_code 9 = .ok (.iconst 0, 1) := by decide +kernel
theorem f29_10 : decode prog_5_method_6_code 10 = .ok (.aload_n 0, 1) := by decide +kernel
theorem f29_11 : decode prog_5_method_6_code 11 = .ok (.getfield 9, 3) := by decide +kernel
theorem f29_14 : decode prog_5_method_6_code 14 = .ok (.arraylength, 1) := by decide +kernel
theorem f29_15 : decode prog_5_method_6_code 15 = .ok (.aload_n 1, 1) := by decide +kernel
theorem f29_16 : decode prog_5_method_6_code 16 = .ok (.getfield 9, 3) := by decide +kernel
theorem f29_19 : decode prog_5_method_6_code 19 = .ok (.arraylength, 1) := by decide +kernel
theorem f29_20 : decode prog_5_method_6_code 20 = .ok (.invokestatic 17, 3) := by decide +kernel
theorem f29_23 : decode prog_5_method_6_code 23 = .ok (.invokestatic 23, 3) := by decide +kernel
theorem f29_26 : decode prog_5_method_6_code 26 = .ok (.aload_n 0, 1) := by decide +kernel
theorem f29_27 : decode prog_5_method_6_code 27 = .ok (.aload_n 1, 1) := by decide +kernel
theorem f29_28 : decode prog_5_method_6_code 28 = .ok (.getfield 13, 3) := by decide +kernel
theorem f29_31 : decode prog_5_method_6_code 31 = .ok (.putfield 13, 3) := by decide +kernel
theorem f29_34 : decode prog_5_method_6_code 34 = .ok (.return_, 1) := by decide +kernel
theorem f30_0 : decode prog_4_method_10_code 0 = .ok (.aload_n 0, 1) := by decide +kernel
theorem f30_1 : decode prog_4_method_10_code 1 = .ok (.getfield 51, 3) := by decide +kernel
theorem f30_4 : decode prog_4_method_10_code 4 = .ok (.getfield 90, 3) := by decide +kernel
theorem f30_7 : decode prog_4_method_10_code 7 = .ok (.ifCond .le 22, 3) := by decide +kernel
theorem f30_10 : decode prog_4_method_10_code 10 = .ok (.aload_n 0, 1) := by decide +kernel
theorem f30_11 : decode prog_4_method_10_code 11 = .ok (.getfield 69, 3) := by decide +kernel
theorem f30_14 : decode prog_4_method_10_code 14 = .ok (.aload_n 0, 1) := by decide +kernel
theorem f30_15 : decode prog_4_method_10_code 15 = .ok (.getfield 51, 3) := by decide +kernel
theorem f30_18 : decode prog_4_method_10_code 18 = .ok (.getfield 90, 3) := by decide +kernel
theorem f30_21 : decode prog_4_method_10_code 21 = .ok (.irem, 1) := by decide +kernel
theorem f30_22 : decode prog_4_method_10_code 22 = .ok (.ifCond .ne 7, 3) := by decide +kernel
theorem f30_25 : decode prog_4_method_10_code 25 = .ok (.iconst 1, 1) := by decide +kernel
theorem f30_26 : decode prog_4_method_10_code 26 = .ok (.goto 4, 3) := by decide +kernel
theorem f30_29 : decode prog_4_method_10_code 29 = .ok (.iconst 0, 1) := by decide +kernel
theorem f30_30 : decode prog_4_method_10_code 30 = .ok (.istore_n 1, 1) := by decide +kernel
theorem f30_31 : decode prog_4_method_10_code 31 = .ok (.iconst 0, 1) := by decide +kernel
theorem f30_32 : decode prog_4_method_10_code 32 = .ok (.istore_n 2, 1) := by decide +kernel
theorem f30_33 : decode prog_4_method_10_code 33 = .ok (.iload_n 2, 1) := by decide +kernel
theorem f30_34 : decode prog_4_method_10_code 34 = .ok (.aload_n 0, 1) := by decide +kernel
theorem f30_35 : decode prog_4_method_10_code 35 = .ok (.getfield 65, 3) := by decide +kernel
theorem f30_38 : decode prog_4_method_10_code 38 = .ok (.if_icmp .ge 47, 3) := by decide +kernel
theorem f30_41 : decode prog_4_method_10_code 41 = .ok (.iload_n 1, 1) := by decide +kernel
theorem f30_42 : decode prog_4_method_10_code 42 = .ok (.ifCond .eq 17, 3) := by decide +kernel
theorem f30_45 : decode prog_4_method_10_code 45 = .ok (.aload_n 0, 1) := by decide +kernel
theorem f30_46 : decode prog_4_method_10_code 46 = .ok (.iload_n 2, 1) := by decide +kernel
theorem f30_47 : decode prog_4_method_10_code 47 = .ok (.aload_n 0, 1) := by decide +kernel
theorem f30_48 : decode prog_4_method_10_code 48 = .ok (.getfield 69, 3) := by decide +kernel
theorem f30_51 : decode prog_4_method_10_code 51 = .ok (.iload_n 2, 1) := by decide +kernel
theorem f30_52 : decode prog_4_method_10_code 52 = .ok (.iadd, 1) := by decide +kernel
theorem f30_53 : decode prog_4_method_10_code 53 = .ok (.bipush 6, 2) := by decide +kernel
theorem f30_55 : decode prog_4_method_10_code 55 = .ok (.irem, 1) := by decide +kernel
theorem f30_56 : decode prog_4_method_10_code 56 = .ok (.invokevirtual 84, 3) := by decide +kernel
theorem f30_59 : decode prog_4_method_10_code 59 = .ok (.aload_n 0, 1) := by decide +kernel
theorem f30_60 : decode prog_4_method_10_code 60 = .ok (.getfield 18, 3) := by decide +kernel
theorem f30_63 : decode prog_4_method_10_code 63 = .ok (.iload_n 2, 1) := by decide +kernel
theorem f30_64 : decode prog_4_method_10_code 64 = .ok (.aload_n 0, 1) := by decide +kernel
theorem f30_65 : decode prog_4_method_10_code 65 = .ok (.getfield 18, 3) := by decide +kernel
theorem f30_68 : decode prog_4_method_10_code 68 = .ok (.iload_n 2, 1) := by decide +kernel
theorem f30_69 : decode prog_4_method_10_code 69 = .ok (.iaload, 1) := by decide +kernel
theorem f30_70 : decode prog_4_method_10_code 70 = .ok (.iconst 1, 1) := by decide +kernel
theorem f30_71 : decode prog_4_method_10_code 71 = .ok (.iadd, 1) := by decide +kernel
theorem f30_72 : decode prog_4_method_10_code 72 = .ok (.sipush 9999, 3) := by decide +kernel
theorem f30_75 : decode prog_4_method_10_code 75 = .ok (.invokestatic 93, 3) := by decide +kernel
theorem f30_78 : decode prog_4_method_10_code 78 = .ok (.iastore, 1) := by decide +kernel
theorem f30_79 : decode prog_4_method_10_code 79 = .ok (.iinc 2 1, 3) := by decide +kernel
theorem f30_82 : decode prog_4_method_10_code 82 = .ok (.goto (-49), 3) := by decide +kernel
theorem f30_85 : decode prog_4_method_10_code 85 = .ok (.aload_n 0, 1) := by decide +kernel
theorem f30_86 : decode prog_4_method_10_code 86 = .ok (.dup, 1) := by decide +kernel
theorem f30_87 : decode prog_4_method_10_code 87 = .ok (.getfield 69, 3) := by decide +kernel
theorem f30_90 : decode prog_4_method_10_code 90 = .ok (.iconst 1, 1) := by decide +kernel
theorem f30_91 : decode prog_4_method_10_code 91 = .ok (.iadd, 1) := by decide +kernel
theorem f30_92 : decode prog_4_method_10_code 92 = .ok (.putfield 69, 3) := by decide +kernel
theorem f30_95 : decode prog_4_method_10_code 95 = .ok (.return_, 1) := by decide +kernel
theorem f37_0 : decode prog_1_method_9_code 0 = .ok (.aload_n 0, 1) := by decide +kernel
theorem f37_1 : decode prog_1_method_9_code 1 = .ok (.iload_n 1, 1) := by decide +kernel
theorem f37_2 : decode prog_1_method_9_code 2 = .ok (.invokevirtual 71, 3) := by decide +kernel
theorem f37_5 : decode prog_1_method_9_code 5 = .ok (.ifCond .eq 12, 3) := by decide +kernel
theorem f37_8 : decode prog_1_method_9_code 8 = .ok (.iload_n 2, 1) := by decide +kernel
theorem f37_9 : decode prog_1_method_9_code 9 = .ok (.bipush 6, 2) := by decide +kernel
theorem f37_11 : decode prog_1_method_9_code 11 = .ok (.invokestatic 59, 3) := by decide +kernel
theorem f37_14 : decode prog_1_method_9_code 14 = .ok (.ifCond .ne 5, 3) := by decide +kernel
theorem f37_17 : decode prog_1_method_9_code 17 = .ok (.iconst (-1), 1) := by decide +kernel
theorem f37_18 : decode prog_1_method_9_code 18 = .ok (.ireturn, 1) := by decide +kernel
theorem f37_19 : decode prog_1_method_9_code 19 = .ok (.iload_n 3, 1) := by decide +kernel
theorem f37_20 : decode prog_1_method_9_code 20 = .ok (.bipush 10, 2) := by decide +kernel
theorem f37_22 : decode prog_1_method_9_code 22 = .ok (.invokestatic 59, 3) := by decide +kernel
theorem f37_25 : decode prog_1_method_9_code 25 = .ok (.ifCond .ne 6, 3) := by decide +kernel
theorem f37_28 : decode prog_1_method_9_code 28 = .ok (.bipush (-2), 2) := by decide +kernel
theorem f37_30 : decode prog_1_method_9_code 30 = .ok (.ireturn, 1) := by decide +kernel
theorem f37_31 : decode prog_1_method_9_code 31 = .ok (.aload_n 0, 1) := by decide +kernel
theorem f37_32 : decode prog_1_method_9_code 32 = .ok (.getfield 14, 3) := by decide +kernel
theorem f37_35 : decode prog_1_method_9_code 35 = .ok (.iload_n 1, 1) := by decide +kernel
theorem f37_36 : decode prog_1_method_9_code 36 = .ok (.iload_n 2, 1) := by decide +kernel
theorem f37_37 : decode prog_1_method_9_code 37 = .ok (.invokevirtual 102, 3) := by decide +kernel
theorem f37_40 : decode prog_1_method_9_code 40 = .ok (.istore 4, 2) := by decide +kernel
theorem f37_42 : decode prog_1_method_9_code 42 = .ok (.aload_n 0, 1) := by decide +kernel
theorem f37_43 : decode prog_1_method_9_code 43 = .ok (.getfield 14, 3) := by decide +kernel
theorem f37_46 : decode prog_1_method_9_code 46 = .ok (.iload_n 1, 1) := by decide +kernel
theorem f37_47 : decode prog_1_method_9_code 47 = .ok (.iload_n 2, 1) := by decide +kernel
theorem f37_48 : decode prog_1_method_9_code 48 = .ok (.iload_n 3, 1) := by decide +kernel
theorem f37_49 : decode prog_1_method_9_code 49 = .ok (.invokevirtual 124, 3) := by decide +kernel
theorem f37_52 : decode prog_1_method_9_code 52 = .ok (.iload 4, 2) := by decide +kernel
theorem f37_54 : decode prog_1_method_9_code 54 = .ok (.ireturn, 1) := by decide +kernel
theorem f38_0 : decode prog_1_method_10_code 0 = .ok (.iload_n 1, 1) := by decide +kernel
theorem f38_1 : decode prog_1_method_10_code 1 = .ok (.iconst (-1), 1) := by decide +kernel
theorem f38_2 : decode prog_1_method_10_code 2 = .ok (.if_icmp .ne 14, 3) := by decide +kernel
theorem f38_5 : decode prog_1_method_10_code 5 = .ok (.aload_n 0, 1) := by decide +kernel
theorem f38_6 : decode prog_1_method_10_code 6 = .ok (.getfield 14, 3) := by decide +kernel
theorem f38_9 : decode prog_1_method_10_code 9 = .ok (.getfield 131, 3) := by decide +kernel
theorem f38_12 : decode prog_1_method_10_code 12 = .ok (.invokevirtual 135, 3) := by decide +kernel
theorem f38_15 : decode prog_1_method_10_code 15 = .ok (.ireturn, 1) := by decide +kernel
theorem f38_16 : decode prog_1_method_10_code 16 = .ok (.iload_n 1, 1) := by decide +kernel
theorem f38_17 : decode prog_1_method_10_code 17 = .ok (.bipush 10, 2) := by decide +kernel
theorem f38_19 : decode prog_1_method_10_code 19 = .ok (.invokestatic 59, 3) := by decide +kernel
theorem f38_22 : decode prog_1_method_10_code 22 = .ok (.ifCond .ne 6, 3) := by decide +kernel
theorem f38_25 : decode prog_1_method_10_code 25 = .ok (.bipush (-2), 2) := by decide +kernel
theorem f38_27 : decode prog_1_method_10_code 27 = .ok (.ireturn, 1) := by decide +kernel
theorem f38_28 : decode prog_1_method_10_code 28 = .ok (.aload_n 0, 1) := by decide +kernel
theorem f38_29 : decode prog_1_method_10_code 29 = .ok (.getfield 14, 3) := by decide +kernel
theorem f38_32 : decode prog_1_method_10_code 32 = .ok (.getfield 131, 3) := by decide +kernel
theorem f38_35 : decode prog_1_method_10_code 35 = .ok (.invokevirtual 141, 3) := by decide +kernel
theorem f38_38 : decode prog_1_method_10_code 38 = .ok (.ifCond .eq 8, 3) := by decide +kernel
theorem f38_41 : decode prog_1_method_10_code 41 = .ok (.bipush (-4), 2) := by decide +kernel
theorem f38_43 : decode prog_1_method_10_code 43 = .ok (.goto 17, 3) := by decide +kernel
theorem f38_46 : decode prog_1_method_10_code 46 = .ok (.aload_n 0, 1) := by decide +kernel
theorem f38_47 : decode prog_1_method_10_code 47 = .ok (.getfield 14, 3) := by decide +kernel
theorem f38_50 : decode prog_1_method_10_code 50 = .ok (.getfield 131, 3) := by decide +kernel
theorem f38_53 : decode prog_1_method_10_code 53 = .ok (.iload_n 1, 1) := by decide +kernel
theorem f38_54 : decode prog_1_method_10_code 54 = .ok (.iconst 0, 1) := by decide +kernel
theorem f38_55 : decode prog_1_method_10_code 55 = .ok (.iconst 0, 1) := by decide +kernel
theorem f38_56 : decode prog_1_method_10_code 56 = .ok (.iconst 0, 1) := by decide +kernel
theorem f38_57 : decode prog_1_method_10_code 57 = .ok (.invokevirtual 145, 3) := by decide +kernel
theorem f38_60 : decode prog_1_method_10_code 60 = .ok (.ireturn, 1) := by decide +kernel
theorem f42_0 : decode prog_1_method_11_code 0 = .ok (.aload_n 0, 1) := by decide +kernel
theorem f42_1 : decode prog_1_method_11_code 1 = .ok (.iload_n 1, 1) := by decide +kernel
theorem f42_2 : decode prog_1_method_11_code 2 = .ok (.invokevirtual 71, 3) := by decide +kernel
theorem f42_5 : decode prog_1_method_11_code 5 = .ok (.ifCond .eq 11, 3) := by decide +kernel
theorem f42_8 : decode prog_1_method_11_code 8 = .ok (.iload_n 2, 1) := by decide +kernel
theorem f42_9 : decode prog_1_method_11_code 9 = .ok (.iconst 4, 1) := by decide +kernel
theorem f42_10 : decode prog_1_method_11_code 10 = .ok (.invokestatic 59, 3) := by decide +kernel
theorem f42_13 : decode prog_1_method_11_code 13 = .ok (.ifCond .ne 5, 3) := by decide +kernel
theorem f42_16 : decode prog_1_method_11_code 16 = .ok (.iconst (-1), 1) := by decide +kernel
theorem f42_17 : decode prog_1_method_11_code 17 = .ok (.ireturn, 1) := by decide +kernel
theorem f42_18 : decode prog_1_method_11_code 18 = .ok (.iload_n 3, 1) := by decide +kernel
theorem f42_19 : decode prog_1_method_11_code 19 = .ok (.bipush 10, 2) := by decide +kernel
theorem f42_21 : decode prog_1_method_11_code 21 = .ok (.invokestatic 59, 3) := by decide +kernel
theorem f42_24 : decode prog_1_method_11_code 24 = .ok (.ifCond .ne 6, 3) := by decide +kernel
theorem f42_27 : decode prog_1_method_11_code 27 = .ok (.bipush (-2), 2) := by decide +kernel
theorem f42_29 : decode prog_1_method_11_code 29 = .ok (.ireturn, 1) := by decide +kernel
theorem f42_30 : decode prog_1_method_11_code 30 = .ok (.aload_n 0, 1) := by decide +kernel
theorem f42_31 : decode prog_1_method_11_code 31 = .ok (.getfield 14, 3) := by decide +kernel
theorem f42_34 : decode prog_1_method_11_code 34 = .ok (.getfield 75, 3) := by decide +kernel
theorem f42_37 : decode prog_1_method_11_code 37 = .ok (.iload_n 1, 1) := by decide +kernel
theorem f42_38 : decode prog_1_method_11_code 38 = .ok (.iaload, 1) := by decide +kernel
theorem f42_39 : decode prog_1_method_11_code 39 = .ok (.bipush 6, 2) := by decide +kernel
theorem f42_41 : decode prog_1_method_11_code 41 = .ok (.if_icmp .eq 6, 3) := by decide +kernel
theorem f42_44 : decode prog_1_method_11_code 44 = .ok (.bipush (-3), 2) := by decide +kernel
theorem f42_46 : decode prog_1_method_11_code 46 = .ok (.ireturn, 1) := by decide +kernel
theorem f42_47 : decode prog_1_method_11_code 47 = .ok (.iload_n 1, 1) := by decide +kernel
theorem f42_48 : decode prog_1_method_11_code 48 = .ok (.iconst 4, 1) := by decide +kernel
theorem f42_49 : decode prog_1_method_11_code 49 = .ok (.imul, 1) := by decide +kernel
theorem f42_50 : decode prog_1_method_11_code 50 = .ok (.iload_n 2, 1) := by decide +kernel
theorem f42_51 : decode prog_1_method_11_code 51 = .ok (.iadd, 1) := by decide +kernel
theorem f42_52 : decode prog_1_method_11_code 52 = .ok (.istore 4, 2) := by decide +kernel
theorem f42_54 : decode prog_1_method_11_code 54 = .ok (.aload_n 0, 1) := by decide +kernel
theorem f42_55 : decode prog_1_method_11_code 55 = .ok (.getfield 14, 3) := by decide +kernel
theorem f42_58 : decode prog_1_method_11_code 58 = .ok (.getfield 149, 3) := by decide +kernel
theorem f42_61 : decode prog_1_method_11_code 61 = .ok (.iload 4, 2) := by decide +kernel
theorem f42_63 : decode prog_1_method_11_code 63 = .ok (.iaload, 1) := by decide +kernel
theorem f42_64 : decode prog_1_method_11_code 64 = .ok (.istore 5, 2) := by decide +kernel
theorem f42_66 : decode prog_1_method_11_code 66 = .ok (.aload_n 0, 1) := by decide +kernel
theorem f42_67 : decode prog_1_method_11_code 67 = .ok (.getfield 14, 3) := by decide +kernel
theorem f42_70 : decode prog_1_method_11_code 70 = .ok (.getfield 149, 3) := by decide +kernel
theorem f42_73 : decode prog_1_method_11_code 73 = .ok (.iload 4, 2) := by decide +kernel
theorem f42_75 : decode prog_1_method_11_code 75 = .ok (.iload_n 3, 1) := by decide +kernel
theorem f42_76 : decode prog_1_method_11_code 76 = .ok (.iastore, 1) := by decide +kernel
theorem f42_77 : decode prog_1_method_11_code 77 = .ok (.iload 5, 2) := by decide +kernel
theorem f42_79 : decode prog_1_method_11_code 79 = .ok (.ireturn, 1) := by decide +kernel
theorem f43_0 : decode prog_1_method_12_code 0 = .ok (.iload_n 1, 1) := by decide +kernel
theorem f43_1 : decode prog_1_method_12_code 1 = .ok (.sipush 128, 3) := by decide +kernel
theorem f43_4 : decode prog_1_method_12_code 4 = .ok (.invokestatic 59, 3) := by decide +kernel
theorem f43_7 : decode prog_1_method_12_code 7 = .ok (.ifCond .ne 6, 3) := by decide +kernel
theorem f43_10 : decode prog_1_method_12_code 10 = .ok (.bipush (-2), 2) := by decide +kernel
theorem f43_12 : decode prog_1_method_12_code 12 = .ok (.ireturn, 1) := by decide +kernel
theorem f43_13 : decode prog_1_method_12_code 13 = .ok (.aload_n 0, 1) := by decide +kernel
theorem f43_14 : decode prog_1_method_12_code 14 = .ok (.getfield 27, 3) := by decide +kernel
theorem f43_17 : decode prog_1_method_12_code 17 = .ok (.invokevirtual 152, 3) := by decide +kernel
theorem f43_20 : decode prog_1_method_12_code 20 = .ok (.ifCond .eq 8, 3) := by decide +kernel
theorem f43_23 : decode prog_1_method_12_code 23 = .ok (.bipush (-4), 2) := by decide +kernel
theorem f43_25 : decode prog_1_method_12_code 25 = .ok (.goto 11, 3) := by decide +kernel
theorem f43_28 : decode prog_1_method_12_code 28 = .ok (.aload_n 0, 1) := by decide +kernel
theorem f43_29 : decode prog_1_method_12_code 29 = .ok (.getfield 27, 3) := by decide +kernel
theorem f43_32 : decode prog_1_method_12_code 32 = .ok (.iload_n 1, 1) := by decide +kernel
theorem f43_33 : decode prog_1_method_12_code 33 = .ok (.invokevirtual 153, 3) := by decide +kernel
theorem f43_36 : decode prog_1_method_12_code 36 = .ok (.ireturn, 1) := by decide +kernel
theorem f46_0 : decode prog_1_method_13_code 0 = .ok (.aload_n 0, 1) := by decide +kernel
theorem f46_1 : decode prog_1_method_13_code 1 = .ok (.getfield 155, 3) := by decide +kernel
theorem f46_4 : decode prog_1_method_13_code 4 = .ok (.bipush 6, 2) := by decide +kernel
theorem f46_6 : decode prog_1_method_13_code 6 = .ok (.if_icmp .lt 6, 3) := by decide +kernel
theorem f46_9 : decode prog_1_method_13_code 9 = .ok (.bipush (-4), 2) := by decide +kernel
theorem f46_11 : decode prog_1_method_13_code 11 = .ok (.ireturn, 1) := by decide +kernel
theorem f46_12 : decode prog_1_method_13_code 12 = .ok (.aload_n 0, 1) := by decide +kernel
theorem f46_13 : decode prog_1_method_13_code 13 = .ok (.getfield 33, 3) := by decide +kernel
theorem f46_16 : decode prog_1_method_13_code 16 = .ok (.aload_n 0, 1) := by decide +kernel
theorem f46_17 : decode prog_1_method_13_code 17 = .ok (.getfield 155, 3) := by decide +kernel
theorem f46_20 : decode prog_1_method_13_code 20 = .ok (.aaload, 1) := by decide +kernel
theorem f46_21 : decode prog_1_method_13_code 21 = .ok (.astore_n 1, 1) := by decide +kernel
theorem f46_22 : decode prog_1_method_13_code 22 = .ok (.aload_n 0, 1) := by decide +kernel
theorem f46_23 : decode prog_1_method_13_code 23 = .ok (.getfield 27, 3) := by decide +kernel
theorem f46_26 : decode prog_1_method_13_code 26 = .ok (.aload_n 1, 1) := by decide +kernel
theorem f46_27 : decode prog_1_method_13_code 27 = .ok (.invokevirtual 158, 3) := by decide +kernel
theorem f46_30 : decode prog_1_method_13_code 30 = .ok (.istore_n 2, 1) := by decide +kernel
theorem f46_31 : decode prog_1_method_13_code 31 = .ok (.iload_n 2, 1) := by decide +kernel
theorem f46_32 : decode prog_1_method_13_code 32 = .ok (.ifCond .lt 8, 3) := by decide +kernel
theorem f46_35 : decode prog_1_method_13_code 35 = .ok (.bipush (-10), 2) := by decide +kernel
theorem f46_37 : decode prog_1_method_13_code 37 = .ok (.iload_n 2, 1) := by decide +kernel
theorem f46_38 : decode prog_1_method_13_code 38 = .ok (.isub, 1) := by decide +kernel
theorem f46_39 : decode prog_1_method_13_code 39 = .ok (.ireturn, 1) := by decide +kernel
theorem f46_40 : decode prog_1_method_13_code 40 = .ok (.aload_n 0, 1) := by decide +kernel
theorem f46_41 : decode prog_1_method_13_code 41 = .ok (.getfield 14, 3) := by decide +kernel
theorem f46_44 : decode prog_1_method_13_code 44 = .ok (.aload_n 1, 1) := by decide +kernel
theorem f46_45 : decode prog_1_method_13_code 45 = .ok (.putfield 162, 3) := by decide +kernel
theorem f46_48 : decode prog_1_method_13_code 48 = .ok (.aload_n 0, 1) := by decide +kernel
theorem f46_49 : decode prog_1_method_13_code 49 = .ok (.dup, 1) := by decide +kernel
theorem f46_50 : decode prog_1_method_13_code 50 = .ok (.getfield 155, 3) := by decide +kernel
theorem f46_53 : decode prog_1_method_13_code 53 = .ok (.dup_x1, 1) := by decide +kernel
theorem f46_54 : decode prog_1_method_13_code 54 = .ok (.iconst 1, 1) := by decide +kernel
theorem f46_55 : decode prog_1_method_13_code 55 = .ok (.iadd, 1) := by decide +kernel
theorem f46_56 : decode prog_1_method_13_code 56 = .ok (.putfield 155, 3) := by decide +kernel
theorem f46_59 : decode prog_1_method_13_code 59 = .ok (.ireturn, 1) := by decide +kernel
theorem f64_0 : decode prog_8_method_6_code 0 = .ok (.aload_n 0, 1) := by decide +kernel
theorem f64_1 : decode prog_8_method_6_code 1 = .ok (.invokevirtual 59, 3) := by decide +kernel
theorem f64_4 : decode prog_8_method_6_code 4 = .ok (.ifCond .ne 5, 3) := by decide +kernel
theorem f64_7 : decode prog_8_method_6_code 7 = .ok (.iconst 0, 1) := by decide +kernel
theorem f64_8 : decode prog_8_method_6_code 8 = .ok (.ireturn, 1) := by decide +kernel
theorem f64_9 : decode prog_8_method_6_code 9 = .ok (.iload_n 1, 1) := by decide +kernel
theorem f64_10 : decode prog_8_method_6_code 10 = .ok (.aload_n 0, 1) := by decide +kernel
theorem f64_11 : decode prog_8_method_6_code 11 = .ok (.getfield 62, 3) := by decide +kernel
theorem f64_14 : decode prog_8_method_6_code 14 = .ok (.imul, 1) := by decide +kernel
theorem f64_15 : decode prog_8_method_6_code 15 = .ok (.istore_n 2, 1) := by decide +kernel
theorem f64_16 : decode prog_8_method_6_code 16 = .ok (.aload_n 0, 1) := by decide +kernel
theorem f64_17 : decode prog_8_method_6_code 17 = .ok (.bipush 32, 2) := by decide +kernel
theorem f64_19 : decode prog_8_method_6_code 19 = .ok (.invokevirtual 35, 3) := by decide +kernel
theorem f64_22 : decode prog_8_method_6_code 22 = .ok (.ifCond .eq 11, 3) := by decide +kernel
theorem f64_25 : decode prog_8_method_6_code 25 = .ok (.aload_n 0, 1) := by decide +kernel
theorem f64_26 : decode prog_8_method_6_code 26 = .ok (.iconst 0, 1) := by decide +kernel
theorem f64_27 : decode prog_8_method_6_code 27 = .ok (.invokevirtual 65, 3) := by decide +kernel
theorem f64_30 : decode prog_8_method_6_code 30 = .ok (.ifCond .ne 5, 3) := by decide +kernel
theorem f64_33 : decode prog_8_method_6_code 33 = .ok (.iconst 0, 1) := by decide +kernel
theorem f64_34 : decode prog_8_method_6_code 34 = .ok (.ireturn, 1) := by decide +kernel
theorem f64_35 : decode prog_8_method_6_code 35 = .ok (.aload_n 0, 1) := by decide +kernel
theorem f64_36 : decode prog_8_method_6_code 36 = .ok (.getfield 24, 3) := by decide +kernel
theorem f64_39 : decode prog_8_method_6_code 39 = .ok (.bipush 7, 2) := by decide +kernel
theorem f64_41 : decode prog_8_method_6_code 41 = .ok (.iconst 0, 1) := by decide +kernel
theorem f64_42 : decode prog_8_method_6_code 42 = .ok (.iload_n 2, 1) := by decide +kernel
theorem f64_43 : decode prog_8_method_6_code 43 = .ok (.invokevirtual 68, 3) := by decide +kernel
theorem f64_46 : decode prog_8_method_6_code 46 = .ok (.iconst 1, 1) := by decide +kernel
theorem f64_47 : decode prog_8_method_6_code 47 = .ok (.ireturn, 1) := by decide +kernel
theorem f67_0 : decode prog_8_method_8_code 0 = .ok (.aload_n 0, 1) := by decide +kernel
theorem f67_1 : decode prog_8_method_8_code 1 = .ok (.iload_n 1, 1) := by decide +kernel
theorem f67_2 : decode prog_8_method_8_code 2 = .ok (.invokevirtual 75, 3) := by decide +kernel
theorem f67_5 : decode prog_8_method_8_code 5 = .ok (.ifCond .ne 5, 3) := by decide +kernel
theorem f67_8 : decode prog_8_method_8_code 8 = .ok (.iconst 0, 1) := by decide +kernel
theorem f67_9 : decode prog_8_method_8_code 9 = .ok (.ireturn, 1) := by decide +kernel
theorem f67_10 : decode prog_8_method_8_code 10 = .ok (.iconst 0, 1) := by decide +kernel
theorem f67_11 : decode prog_8_method_8_code 11 = .ok (.istore_n 2, 1) := by decide +kernel
theorem f67_12 : decode prog_8_method_8_code 12 = .ok (.iload_n 2, 1) := by decide +kernel
theorem f67_13 : decode prog_8_method_8_code 13 = .ok (.bipush 100, 2) := by decide +kernel
theorem f67_15 : decode prog_8_method_8_code 15 = .ok (.if_icmp .ge 39, 3) := by decide +kernel
theorem f67_18 : decode prog_8_method_8_code 18 = .ok (.aload_n 0, 1) := by decide +kernel
theorem f67_19 : decode prog_8_method_8_code 19 = .ok (.bipush 124, 2) := by decide +kernel
theorem f67_21 : decode prog_8_method_8_code 21 = .ok (.invokevirtual 35, 3) := by decide +kernel
theorem f67_24 : decode prog_8_method_8_code 24 = .ok (.ifCond .eq 30, 3) := by decide +kernel
theorem f67_27 : decode prog_8_method_8_code 27 = .ok (.aload_n 0, 1) := by decide +kernel
theorem f67_28 : decode prog_8_method_8_code 28 = .ok (.iload_n 1, 1) := by decide +kernel
theorem f67_29 : decode prog_8_method_8_code 29 = .ok (.invokevirtual 75, 3) := by decide +kernel
theorem f67_32 : decode prog_8_method_8_code 32 = .ok (.ifCond .ne 5, 3) := by decide +kernel
theorem f67_35 : decode prog_8_method_8_code 35 = .ok (.iconst 0, 1) := by decide +kernel
theorem f67_36 : decode prog_8_method_8_code 36 = .ok (.ireturn, 1) := by decide +kernel
theorem f67_37 : decode prog_8_method_8_code 37 = .ok (.aload_n 0, 1) := by decide +kernel
theorem f67_38 : decode prog_8_method_8_code 38 = .ok (.getfield 24, 3) := by decide +kernel
theorem f67_41 : decode prog_8_method_8_code 41 = .ok (.bipush 6, 2) := by decide +kernel
theorem f67_43 : decode prog_8_method_8_code 43 = .ok (.iconst 0, 1) := by decide +kernel
theorem f67_44 : decode prog_8_method_8_code 44 = .ok (.iconst 0, 1) := by decide +kernel
theorem f67_45 : decode prog_8_method_8_code 45 = .ok (.invokevirtual 68, 3) := by decide +kernel
theorem f67_48 : decode prog_8_method_8_code 48 = .ok (.iinc 2 1, 3) := by decide +kernel
theorem f67_51 : decode prog_8_method_8_code 51 = .ok (.goto (-39), 3) := by decide +kernel
theorem f67_54 : decode prog_8_method_8_code 54 = .ok (.iconst 1, 1) := by decide +kernel
theorem f67_55 : decode prog_8_method_8_code 55 = .ok (.ireturn, 1) := by decide +kernel
theorem f68_0 : decode prog_8_method_9_code 0 = .ok (.aload_n 0, 1) := by decide +kernel
theorem f68_1 : decode prog_8_method_9_code 1 = .ok (.iload_n 1, 1) := by decide +kernel
theorem f68_2 : decode prog_8_method_9_code 2 = .ok (.invokevirtual 78, 3) := by decide +kernel
theorem f68_5 : decode prog_8_method_9_code 5 = .ok (.ifCond .ne 5, 3) := by decide +kernel
theorem f68_8 : decode prog_8_method_9_code 8 = .ok (.iconst 0, 1) := by decide +kernel
theorem f68_9 : decode prog_8_method_9_code 9 = .ok (.ireturn, 1) := by decide +kernel
theorem f68_10 : decode prog_8_method_9_code 10 = .ok (.iconst 0, 1) := by decide +kernel
theorem f68_11 : decode prog_8_method_9_code 11 = .ok (.istore_n 2, 1) := by decide +kernel
theorem f68_12 : decode prog_8_method_9_code 12 = .ok (.iload_n 2, 1) := by decide +kernel
theorem f68_13 : decode prog_8_method_9_code 13 = .ok (.bipush 100, 2) := by decide +kernel
theorem f68_15 : decode prog_8_method_9_code 15 = .ok (.if_icmp .ge 38, 3) := by decide +kernel
theorem f68_18 : decode prog_8_method_9_code 18 = .ok (.aload_n 0, 1) := by decide +kernel
theorem f68_19 : decode prog_8_method_9_code 19 = .ok (.bipush 38, 2) := by decide +kernel
theorem f68_21 : decode prog_8_method_9_code 21 = .ok (.invokevirtual 35, 3) := by decide +kernel
theorem f68_24 : decode prog_8_method_9_code 24 = .ok (.ifCond .eq 29, 3) := by decide +kernel
theorem f68_27 : decode prog_8_method_9_code 27 = .ok (.aload_n 0, 1) := by decide +kernel
theorem f68_28 : decode prog_8_method_9_code 28 = .ok (.iload_n 1, 1) := by decide +kernel
theorem f68_29 : decode prog_8_method_9_code 29 = .ok (.invokevirtual 78, 3) := by decide +kernel
theorem f68_32 : decode prog_8_method_9_code 32 = .ok (.ifCond .ne 5, 3) := by decide +kernel
theorem f68_35 : decode prog_8_method_9_code 35 = .ok (.iconst 0, 1) := by decide +kernel
theorem f68_36 : decode prog_8_method_9_code 36 = .ok (.ireturn, 1) := by decide +kernel
theorem f68_37 : decode prog_8_method_9_code 37 = .ok (.aload_n 0, 1) := by decide +kernel
theorem f68_38 : decode prog_8_method_9_code 38 = .ok (.getfield 24, 3) := by decide +kernel
theorem f68_41 : decode prog_8_method_9_code 41 = .ok (.iconst 5, 1) := by decide +kernel
theorem f68_42 : decode prog_8_method_9_code 42 = .ok (.iconst 0, 1) := by decide +kernel
theorem f68_43 : decode prog_8_method_9_code 43 = .ok (.iconst 0, 1) := by decide +kernel
theorem f68_44 : decode prog_8_method_9_code 44 = .ok (.invokevirtual 68, 3) := by decide +kernel
theorem f68_47 : decode prog_8_method_9_code 47 = .ok (.iinc 2 1, 3) := by decide +kernel
theorem f68_50 : decode prog_8_method_9_code 50 = .ok (.goto (-38), 3) := by decide +kernel
theorem f68_53 : decode prog_8_method_9_code 53 = .ok (.iconst 1, 1) := by decide +kernel
theorem f68_54 : decode prog_8_method_9_code 54 = .ok (.ireturn, 1) := by decide +kernel
theorem f69_0 : decode prog_8_method_10_code 0 = .ok (.iload_n 1, 1) := by decide +kernel
theorem f69_1 : decode prog_8_method_10_code 1 = .ok (.iconst 4, 1) := by decide +kernel
theorem f69_2 : decode prog_8_method_10_code 2 = .ok (.if_icmp .ge 32, 3) := by decide +kernel
theorem f69_5 : decode prog_8_method_10_code 5 = .ok (.aload_n 0, 1) := by decide +kernel
theorem f69_6 : decode prog_8_method_10_code 6 = .ok (.bipush 33, 2) := by decide +kernel
theorem f69_8 : decode prog_8_method_10_code 8 = .ok (.invokevirtual 35, 3) := by decide +kernel
theorem f69_11 : decode prog_8_method_10_code 11 = .ok (.ifCond .eq 23, 3) := by decide +kernel
theorem f69_14 : decode prog_8_method_10_code 14 = .ok (.aload_n 0, 1) := by decide +kernel
theorem f69_15 : decode prog_8_method_10_code 15 = .ok (.iload_n 1, 1) := by decide +kernel
theorem f69_16 : decode prog_8_method_10_code 16 = .ok (.iconst 1, 1) := by decide +kernel
theorem f69_17 : decode prog_8_method_10_code 17 = .ok (.iadd, 1) := by decide +kernel
theorem f69_18 : decode prog_8_method_10_code 18 = .ok (.invokevirtual 78, 3) := by decide +kernel
theorem f69_21 : decode prog_8_method_10_code 21 = .ok (.istore_n 2, 1) := by decide +kernel
theorem f69_22 : decode prog_8_method_10_code 22 = .ok (.aload_n 0, 1) := by decide +kernel
theorem f69_23 : decode prog_8_method_10_code 23 = .ok (.getfield 24, 3) := by decide +kernel
theorem f69_26 : decode prog_8_method_10_code 26 = .ok (.iconst 4, 1) := by decide +kernel
theorem f69_27 : decode prog_8_method_10_code 27 = .ok (.iconst 0, 1) := by decide +kernel
theorem f69_28 : decode prog_8_method_10_code 28 = .ok (.iconst 0, 1) := by decide +kernel
theorem f69_29 : decode prog_8_method_10_code 29 = .ok (.invokevirtual 68, 3) := by decide +kernel
theorem f69_32 : decode prog_8_method_10_code 32 = .ok (.iload_n 2, 1) := by decide +kernel
theorem f69_33 : decode prog_8_method_10_code 33 = .ok (.ireturn, 1) := by decide +kernel
theorem f69_34 : decode prog_8_method_10_code 34 = .ok (.iload_n 1, 1) := by decide +kernel
theorem f69_35 : decode prog_8_method_10_code 35 = .ok (.iconst 4, 1) := by decide +kernel
theorem f69_36 : decode prog_8_method_10_code 36 = .ok (.if_icmp .ge 37, 3) := by decide +kernel
theorem f69_39 : decode prog_8_method_10_code 39 = .ok (.aload_n 0, 1) := by decide +kernel
theorem f69_40 : decode prog_8_method_10_code 40 = .ok (.bipush 40, 2) := by decide +kernel
theorem f69_42 : decode prog_8_method_10_code 42 = .ok (.invokevirtual 35, 3) := by decide +kernel
theorem f69_45 : decode prog_8_method_10_code 45 = .ok (.ifCond .eq 28, 3) := by decide +kernel
theorem f69_48 : decode prog_8_method_10_code 48 = .ok (.aload_n 0, 1) := by decide +kernel
theorem f69_49 : decode prog_8_method_10_code 49 = .ok (.iload_n 1, 1) := by decide +kernel
theorem f69_50 : decode prog_8_method_10_code 50 = .ok (.iconst 1, 1) := by decide +kernel
theorem f69_51 : decode prog_8_method_10_code 51 = .ok (.iadd, 1) := by decide +kernel
theorem f69_52 : decode prog_8_method_10_code 52 = .ok (.invokevirtual 65, 3) := by decide +kernel
theorem f69_55 : decode prog_8_method_10_code 55 = .ok (.ifCond .eq 16, 3) := by decide +kernel
theorem f69_58 : decode prog_8_method_10_code 58 = .ok (.aload_n 0, 1) := by decide +kernel
theorem f69_59 : decode prog_8_method_10_code 59 = .ok (.bipush 41, 2) := by decide +kernel
theorem f69_61 : decode prog_8_method_10_code 61 = .ok (.invokevirtual 35, 3) := by decide +kernel
theorem f69_64 : decode prog_8_method_10_code 64 = .ok (.ifCond .eq 7, 3) := by decide +kernel
theorem f69_67 : decode prog_8_method_10_code 67 = .ok (.iconst 1, 1) := by decide +kernel
theorem f69_68 : decode prog_8_method_10_code 68 = .ok (.goto 4, 3) := by decide +kernel
theorem f69_71 : decode prog_8_method_10_code 71 = .ok (.iconst 0, 1) := by decide +kernel
theorem f69_72 : decode prog_8_method_10_code 72 = .ok (.ireturn, 1) := by decide +kernel
theorem f69_73 : decode prog_8_method_10_code 73 = .ok (.aload_n 0, 1) := by decide +kernel
theorem f69_74 : decode prog_8_method_10_code 74 = .ok (.invokevirtual 81, 3) := by decide +kernel
theorem f69_77 : decode prog_8_method_10_code 77 = .ok (.ireturn, 1) := by decide +kernel
theorem f71_0 : decode prog_8_method_11_code 0 = .ok (.aload_n 0, 1) := by decide +kernel
theorem f71_1 : decode prog_8_method_11_code 1 = .ok (.invokevirtual 39, 3) := by decide +kernel
theorem f71_4 : decode prog_8_method_11_code 4 = .ok (.invokestatic 84, 3) := by decide +kernel
theorem f71_7 : decode prog_8_method_11_code 7 = .ok (.istore_n 1, 1) := by decide +kernel
theorem f71_8 : decode prog_8_method_11_code 8 = .ok (.iload_n 1, 1) := by decide +kernel
theorem f71_9 : decode prog_8_method_11_code 9 = .ok (.ifCond .ge 5, 3) := by decide +kernel
theorem f71_12 : decode prog_8_method_11_code 12 = .ok (.iconst 0, 1) := by decide +kernel
theorem f71_13 : decode prog_8_method_11_code 13 = .ok (.ireturn, 1) := by decide +kernel
theorem f71_14 : decode prog_8_method_11_code 14 = .ok (.aload_n 0, 1) := by decide +kernel
theorem f71_15 : decode prog_8_method_11_code 15 = .ok (.dup, 1) := by decide +kernel
theorem f71_16 : decode prog_8_method_11_code 16 = .ok (.getfield 28, 3) := by decide +kernel
theorem f71_19 : decode prog_8_method_11_code 19 = .ok (.iconst 1, 1) := by decide +kernel
theorem f71_20 : decode prog_8_method_11_code 20 = .ok (.iadd, 1) := by decide +kernel
theorem f71_21 : decode prog_8_method_11_code 21 = .ok (.putfield 28, 3) := by decide +kernel
theorem f71_24 : decode prog_8_method_11_code 24 = .ok (.aload_n 0, 1) := by decide +kernel
theorem f71_25 : decode prog_8_method_11_code 25 = .ok (.invokevirtual 39, 3) := by decide +kernel
theorem f71_28 : decode prog_8_method_11_code 28 = .ok (.invokestatic 88, 3) := by decide +kernel
theorem f71_31 : decode prog_8_method_11_code 31 = .ok (.istore_n 2, 1) := by decide +kernel
theorem f71_32 : decode prog_8_method_11_code 32 = .ok (.iload_n 2, 1) := by decide +kernel
theorem f71_33 : decode prog_8_method_11_code 33 = .ok (.ifCond .ge 5, 3) := by decide +kernel
theorem f71_36 : decode prog_8_method_11_code 36 = .ok (.iconst 0, 1) := by decide +kernel
theorem f71_37 : decode prog_8_method_11_code 37 = .ok (.ireturn, 1) := by decide +kernel
theorem f71_38 : decode prog_8_method_11_code 38 = .ok (.aload_n 0, 1) := by decide +kernel
theorem f71_39 : decode prog_8_method_11_code 39 = .ok (.dup, 1) := by decide +kernel
theorem f71_40 : decode prog_8_method_11_code 40 = .ok (.getfield 28, 3) := by decide +kernel
theorem f71_43 : decode prog_8_method_11_code 43 = .ok (.iconst 1, 1) := by decide +kernel
theorem f71_44 : decode prog_8_method_11_code 44 = .ok (.iadd, 1) := by decide +kernel
theorem f71_45 : decode prog_8_method_11_code 45 = .ok (.putfield 28, 3) := by decide +kernel
theorem f71_48 : decode prog_8_method_11_code 48 = .ok (.aload_n 0, 1) := by decide +kernel
theorem f71_49 : decode prog_8_method_11_code 49 = .ok (.invokevirtual 59, 3) := by decide +kernel
theorem f71_52 : decode prog_8_method_11_code 52 = .ok (.ifCond .ne 5, 3) := by decide +kernel
theorem f71_55 : decode prog_8_method_11_code 55 = .ok (.iconst 0, 1) := by decide +kernel
theorem f71_56 : decode prog_8_method_11_code 56 = .ok (.ireturn, 1) := by decide +kernel
theorem f71_57 : decode prog_8_method_11_code 57 = .ok (.aload_n 0, 1) := by decide +kernel
theorem f71_58 : decode prog_8_method_11_code 58 = .ok (.getfield 24, 3) := by decide +kernel
theorem f71_61 : decode prog_8_method_11_code 61 = .ok (.iload_n 2, 1) := by decide +kernel
theorem f71_62 : decode prog_8_method_11_code 62 = .ok (.iload_n 1, 1) := by decide +kernel
theorem f71_63 : decode prog_8_method_11_code 63 = .ok (.aload_n 0, 1) := by decide +kernel
theorem f71_64 : decode prog_8_method_11_code 64 = .ok (.getfield 62, 3) := by decide +kernel
theorem f71_67 : decode prog_8_method_11_code 67 = .ok (.invokevirtual 68, 3) := by decide +kernel
theorem f71_70 : decode prog_8_method_11_code 70 = .ok (.iconst 1, 1) := by decide +kernel
theorem f71_71 : decode prog_8_method_11_code 71 = .ok (.ireturn, 1) := by decide +kernel
theorem f74_0 : decode prog_8_method_7_code 0 = .ok (.aload_n 0, 1) := by decide +kernel
theorem f74_1 : decode prog_8_method_7_code 1 = .ok (.invokevirtual 59, 3) := by decide +kernel
theorem f74_4 : decode prog_8_method_7_code 4 = .ok (.ifCond .ne 5, 3) := by decide +kernel
theorem f74_7 : decode prog_8_method_7_code 7 = .ok (.iconst 0, 1) := by decide +kernel
theorem f74_8 : decode prog_8_method_7_code 8 = .ok (.ireturn, 1) := by decide +kernel
theorem f74_9 : decode prog_8_method_7_code 9 = .ok (.aload_n 0, 1) := by decide +kernel
theorem f74_10 : decode prog_8_method_7_code 10 = .ok (.getfield 24, 3) := by decide +kernel
theorem f74_13 : decode prog_8_method_7_code 13 = .ok (.aload_n 0, 1) := by decide +kernel
theorem f74_14 : decode prog_8_method_7_code 14 = .ok (.getfield 62, 3) := by decide +kernel
theorem f74_17 : decode prog_8_method_7_code 17 = .ok (.putfield 72, 3) := by decide +kernel
theorem f74_20 : decode prog_8_method_7_code 20 = .ok (.iconst 1, 1) := by decide +kernel
theorem f74_21 : decode prog_8_method_7_code 21 = .ok (.ireturn, 1) := by decide +kernel
theorem f77_0 : decode prog_4_method_18_code 0 = .ok (.iconst 0, 1) := by decide +kernel
theorem f77_1 : decode prog_4_method_18_code 1 = .ok (.istore_n 1, 1) := by decide +kernel
theorem f77_2 : decode prog_4_method_18_code 2 = .ok (.iconst 0, 1) := by decide +kernel
theorem f77_3 : decode prog_4_method_18_code 3 = .ok (.istore_n 2, 1) := by decide +kernel
theorem f77_4 : decode prog_4_method_18_code 4 = .ok (.iload_n 2, 1) := by decide +kernel
theorem f77_5 : decode prog_4_method_18_code 5 = .ok (.aload_n 0, 1) := by decide +kernel
theorem f77_6 : decode prog_4_method_18_code 6 = .ok (.getfield 65, 3) := by decide +kernel
theorem f77_9 : decode prog_4_method_18_code 9 = .ok (.if_icmp .ge 32, 3) := by decide +kernel
theorem f77_12 : decode prog_4_method_18_code 12 = .ok (.iconst 0, 1) := by decide +kernel
theorem f77_13 : decode prog_4_method_18_code 13 = .ok (.istore_n 3, 1) := by decide +kernel
theorem f77_14 : decode prog_4_method_18_code 14 = .ok (.iload_n 3, 1) := by decide +kernel
theorem f77_15 : decode prog_4_method_18_code 15 = .ok (.bipush 6, 2) := by decide +kernel
theorem f77_17 : decode prog_4_method_18_code 17 = .ok (.if_icmp .ge 18, 3) := by decide +kernel
theorem f77_20 : decode prog_4_method_18_code 20 = .ok (.iload_n 1, 1) := by decide +kernel
theorem f77_21 : decode prog_4_method_18_code 21 = .ok (.aload_n 0, 1) := by decide +kernel
theorem f77_22 : decode prog_4_method_18_code 22 = .ok (.iload_n 2, 1) := by decide +kernel
theorem f77_23 : decode prog_4_method_18_code 23 = .ok (.iload_n 3, 1) := by decide +kernel
theorem f77_24 : decode prog_4_method_18_code 24 = .ok (.invokevirtual 111, 3) := by decide +kernel
theorem f77_27 : decode prog_4_method_18_code 27 = .ok (.iadd, 1) := by decide +kernel
theorem f77_28 : decode prog_4_method_18_code 28 = .ok (.istore_n 1, 1) := by decide +kernel
theorem f77_29 : decode prog_4_method_18_code 29 = .ok (.iinc 3 1, 3) := by decide +kernel
theorem f77_32 : decode prog_4_method_18_code 32 = .ok (.goto (-18), 3) := by decide +kernel
theorem f77_35 : decode prog_4_method_18_code 35 = .ok (.iinc 2 1, 3) := by decide +kernel
theorem f77_38 : decode prog_4_method_18_code 38 = .ok (.goto (-34), 3) := by decide +kernel
theorem f77_41 : decode prog_4_method_18_code 41 = .ok (.iload_n 1, 1) := by decide +kernel
theorem f77_42 : decode prog_4_method_18_code 42 = .ok (.ireturn, 1) := by decide +kernel
theorem f79_0 : decode prog_4_method_9_code 0 = .ok (.iconst 0, 1) := by decide +kernel
theorem f79_1 : decode prog_4_method_9_code 1 = .ok (.istore_n 2, 1) := by decide +kernel
theorem f79_2 : decode prog_4_method_9_code 2 = .ok (.iload_n 2, 1) := by decide +kernel
theorem f79_3 : decode prog_4_method_9_code 3 = .ok (.iload_n 1, 1) := by decide +kernel
theorem f79_4 : decode prog_4_method_9_code 4 = .ok (.if_icmp .ge 13, 3) := by decide +kernel
theorem f79_7 : decode prog_4_method_9_code 7 = .ok (.aload_n 0, 1) := by decide +kernel
theorem f79_8 : decode prog_4_method_9_code 8 = .ok (.invokevirtual 87, 3) := by decide +kernel
theorem f79_11 : decode prog_4_method_9_code 11 = .ok (.iinc 2 1, 3) := by decide +kernel
theorem f79_14 : decode prog_4_method_9_code 14 = .ok (.goto (-12), 3) := by decide +kernel
theorem f79_17 : decode prog_4_method_9_code 17 = .ok (.return_, 1) := by decide +kernel
theorem f81_0 : decode prog_1_method_17_code 0 = .ok (.aload_n 0, 1) := by decide +kernel
theorem f81_1 : decode prog_1_method_17_code 1 = .ok (.iload_n 1, 1) := by decide +kernel
theorem f81_2 : decode prog_1_method_17_code 2 = .ok (.invokevirtual 71, 3) := by decide +kernel
theorem f81_5 : decode prog_1_method_17_code 5 = .ok (.ifCond .eq 11, 3) := by decide +kernel
theorem f81_8 : decode prog_1_method_17_code 8 = .ok (.aload_n 0, 1) := by decide +kernel
theorem f81_9 : decode prog_1_method_17_code 9 = .ok (.iload_n 2, 1) := by decide +kernel
theorem f81_10 : decode prog_1_method_17_code 10 = .ok (.invokevirtual 71, 3) := by decide +kernel
theorem f81_13 : decode prog_1_method_17_code 13 = .ok (.ifCond .ne 5, 3) := by decide +kernel
theorem f81_16 : decode prog_1_method_17_code 16 = .ok (.iconst (-1), 1) := by decide +kernel
theorem f81_17 : decode prog_1_method_17_code 17 = .ok (.ireturn, 1) := by decide +kernel
theorem f81_18 : decode prog_1_method_17_code 18 = .ok (.aload_n 0, 1) := by decide +kernel
theorem f81_19 : decode prog_1_method_17_code 19 = .ok (.getfield 14, 3) := by decide +kernel
theorem f81_22 : decode prog_1_method_17_code 22 = .ok (.iload_n 1, 1) := by decide +kernel
theorem f81_23 : decode prog_1_method_17_code 23 = .ok (.invokevirtual 85, 3) := by decide +kernel
theorem f81_26 : decode prog_1_method_17_code 26 = .ok (.aload_n 0, 1) := by decide +kernel
theorem f81_27 : decode prog_1_method_17_code 27 = .ok (.getfield 14, 3) := by decide +kernel
theorem f81_30 : decode prog_1_method_17_code 30 = .ok (.iload_n 2, 1) := by decide +kernel
theorem f81_31 : decode prog_1_method_17_code 31 = .ok (.invokevirtual 85, 3) := by decide +kernel
theorem f81_34 : decode prog_1_method_17_code 34 = .ok (.invokestatic 186, 3) := by decide +kernel
theorem f81_37 : decode prog_1_method_17_code 37 = .ok (.ireturn, 1) := by decide +kernel
theorem f84_0 : decode prog_3_method_2_code 0 = .ok (.aload_n 0, 1) := by decide +kernel
theorem f84_1 : decode prog_3_method_2_code 1 = .ok (.iload_n 2, 1) := by decide +kernel
theorem f84_2 : decode prog_3_method_2_code 2 = .ok (.invokestatic 24, 3) := by decide +kernel
theorem f84_5 : decode prog_3_method_2_code 5 = .ok (.putfield 30, 3) := by decide +kernel
theorem f84_8 : decode prog_3_method_2_code 8 = .ok (.aload_n 0, 1) := by decide +kernel
theorem f84_9 : decode prog_3_method_2_code 9 = .ok (.iconst (-1), 1) := by decide +kernel
theorem f84_10 : decode prog_3_method_2_code 10 = .ok (.putfield 34, 3) := by decide +kernel
theorem f84_13 : decode prog_3_method_2_code 13 = .ok (.iconst 0, 1) := by decide +kernel
theorem f84_14 : decode prog_3_method_2_code 14 = .ok (.istore_n 3, 1) := by decide +kernel
theorem f84_15 : decode prog_3_method_2_code 15 = .ok (.iload_n 3, 1) := by decide +kernel
theorem f84_16 : decode prog_3_method_2_code 16 = .ok (.aload_n 1, 1) := by decide +kernel
theorem f84_17 : decode prog_3_method_2_code 17 = .ok (.getfield 37, 3) := by decide +kernel
theorem f84_20 : decode prog_3_method_2_code 20 = .ok (.if_icmp .ge 20, 3) := by decide +kernel
theorem f84_23 : decode prog_3_method_2_code 23 = .ok (.aload_n 0, 1) := by decide +kernel
theorem f84_24 : decode prog_3_method_2_code 24 = .ok (.getfield 15, 3) := by decide +kernel
theorem f84_27 : decode prog_3_method_2_code 27 = .ok (.iload_n 3, 1) := by decide +kernel
theorem f84_28 : decode prog_3_method_2_code 28 = .ok (.aload_n 1, 1) := by decide +kernel
theorem f84_29 : decode prog_3_method_2_code 29 = .ok (.iload_n 3, 1) := by decide +kernel
theorem f84_30 : decode prog_3_method_2_code 30 = .ok (.invokevirtual 40, 3) := by decide +kernel
theorem f84_33 : decode prog_3_method_2_code 33 = .ok (.iastore, 1) := by decide +kernel
theorem f84_34 : decode prog_3_method_2_code 34 = .ok (.iinc 3 1, 3) := by decide +kernel
theorem f84_37 : decode prog_3_method_2_code 37 = .ok (.goto (-22), 3) := by decide +kernel
theorem f84_40 : decode prog_3_method_2_code 40 = .ok (.iconst 0, 1) := by decide +kernel
theorem f84_41 : decode prog_3_method_2_code 41 = .ok (.istore_n 3, 1) := by decide +kernel
theorem f84_42 : decode prog_3_method_2_code 42 = .ok (.iload_n 3, 1) := by decide +kernel
theorem f84_43 : decode prog_3_method_2_code 43 = .ok (.aload_n 1, 1) := by decide +kernel
theorem f84_44 : decode prog_3_method_2_code 44 = .ok (.getfield 37, 3) := by decide +kernel
theorem f84_47 : decode prog_3_method_2_code 47 = .ok (.if_icmp .ge 55, 3) := by decide +kernel
theorem f84_50 : decode prog_3_method_2_code 50 = .ok (.iconst 0, 1) := by decide +kernel
theorem f84_51 : decode prog_3_method_2_code 51 = .ok (.istore 4, 2) := by decide +kernel
theorem f84_53 : decode prog_3_method_2_code 53 = .ok (.iload 4, 2) := by decide +kernel
theorem f84_55 : decode prog_3_method_2_code 55 = .ok (.aload_n 1, 1) := by decide +kernel
theorem f84_56 : decode prog_3_method_2_code 56 = .ok (.getfield 37, 3) := by decide +kernel
theorem f84_59 : decode prog_3_method_2_code 59 = .ok (.if_icmp .ge 37, 3) := by decide +kernel
theorem f84_62 : decode prog_3_method_2_code 62 = .ok (.aload_n 0, 1) := by decide +kernel
theorem f84_63 : decode prog_3_method_2_code 63 = .ok (.getfield 9, 3) := by decide +kernel
theorem f84_66 : decode prog_3_method_2_code 66 = .ok (.iload_n 3, 1) := by decide +kernel
theorem f84_67 : decode prog_3_method_2_code 67 = .ok (.bipush 6, 2) := by decide +kernel
theorem f84_69 : decode prog_3_method_2_code 69 = .ok (.imul, 1) := by decide +kernel
theorem f84_70 : decode prog_3_method_2_code 70 = .ok (.iload 4, 2) := by decide +kernel
theorem f84_72 : decode prog_3_method_2_code 72 = .ok (.iadd, 1) := by decide +kernel
theorem f84_73 : decode prog_3_method_2_code 73 = .ok (.aload_n 0, 1) := by decide +kernel
theorem f84_74 : decode prog_3_method_2_code 74 = .ok (.getfield 15, 3) := by decide +kernel
theorem f84_77 : decode prog_3_method_2_code 77 = .ok (.iload_n 3, 1) := by decide +kernel
theorem f84_78 : decode prog_3_method_2_code 78 = .ok (.iaload, 1) := by decide +kernel
theorem f84_79 : decode prog_3_method_2_code 79 = .ok (.aload_n 0, 1) := by decide +kernel
theorem f84_80 : decode prog_3_method_2_code 80 = .ok (.getfield 15, 3) := by decide +kernel
theorem f84_83 : decode prog_3_method_2_code 83 = .ok (.iload 4, 2) := by decide +kernel
theorem f84_85 : decode prog_3_method_2_code 85 = .ok (.iaload, 1) := by decide +kernel
theorem f84_86 : decode prog_3_method_2_code 86 = .ok (.invokestatic 43, 3) := by decide +kernel
theorem f84_89 : decode prog_3_method_2_code 89 = .ok (.iastore, 1) := by decide +kernel
theorem f84_90 : decode prog_3_method_2_code 90 = .ok (.iinc 4 1, 3) := by decide +kernel
theorem f84_93 : decode prog_3_method_2_code 93 = .ok (.goto (-40), 3) := by decide +kernel
theorem f84_96 : decode prog_3_method_2_code 96 = .ok (.iinc 3 1, 3) := by decide +kernel
theorem f84_99 : decode prog_3_method_2_code 99 = .ok (.goto (-57), 3) := by decide +kernel
theorem f84_102 : decode prog_3_method_2_code 102 = .ok (.aload_n 0, 1) := by decide +kernel
theorem f84_103 : decode prog_3_method_2_code 103 = .ok (.iload_n 2, 1) := by decide +kernel
theorem f84_104 : decode prog_3_method_2_code 104 = .ok (.iconst 0, 1) := by decide +kernel
theorem f84_105 : decode prog_3_method_2_code 105 = .ok (.iconst 0, 1) := by decide +kernel
theorem f84_106 : decode prog_3_method_2_code 106 = .ok (.invokevirtual 47, 3) := by decide +kernel
theorem f84_109 : decode prog_3_method_2_code 109 = .ok (.return_, 1) := by decide +kernel
theorem f86_0 : decode prog_3_method_4_code 0 = .ok (.iload_n 1, 1) := by decide +kernel
theorem f86_1 : decode prog_3_method_4_code 1 = .ok (.ifCond .eq 9, 3) := by decide +kernel
theorem f86_4 : decode prog_3_method_4_code 4 = .ok (.iload_n 2, 1) := by decide +kernel
theorem f86_5 : decode prog_3_method_4_code 5 = .ok (.bipush 6, 2) := by decide +kernel
theorem f86_7 : decode prog_3_method_4_code 7 = .ok (.if_icmp .lt 9, 3) := by decide +kernel
theorem f86_10 : decode prog_3_method_4_code 10 = .ok (.aload_n 0, 1) := by decide +kernel
theorem f86_11 : decode prog_3_method_4_code 11 = .ok (.iload_n 3, 1) := by decide +kernel
theorem f86_12 : decode prog_3_method_4_code 12 = .ok (.invokevirtual 51, 3) := by decide +kernel
theorem f86_15 : decode prog_3_method_4_code 15 = .ok (.return_, 1) := by decide +kernel
theorem f86_16 : decode prog_3_method_4_code 16 = .ok (.iconst 0, 1) := by decide +kernel
theorem f86_17 : decode prog_3_method_4_code 17 = .ok (.istore 4, 2) := by decide +kernel
theorem f86_19 : decode prog_3_method_4_code 19 = .ok (.iload 4, 2) := by decide +kernel
theorem f86_21 : decode prog_3_method_4_code 21 = .ok (.bipush 6, 2) := by decide +kernel
theorem f86_23 : decode prog_3_method_4_code 23 = .ok (.if_icmp .ge 75, 3) := by decide +kernel
theorem f86_26 : decode prog_3_method_4_code 26 = .ok (.iload_n 1, 1) := by decide +kernel
theorem f86_27 : decode prog_3_method_4_code 27 = .ok (.iload 4, 2) := by decide +kernel
theorem f86_29 : decode prog_3_method_4_code 29 = .ok (.ishr, 1) := by decide +kernel
theorem f86_30 : decode prog_3_method_4_code 30 = .ok (.iconst 1, 1) := by decide +kernel
theorem f86_31 : decode prog_3_method_4_code 31 = .ok (.iand, 1) := by decide +kernel
theorem f86_32 : decode prog_3_method_4_code 32 = .ok (.iconst 1, 1) := by decide +kernel
theorem f86_33 : decode prog_3_method_4_code 33 = .ok (.if_icmp .ne 59, 3) := by decide +kernel
theorem f86_36 : decode prog_3_method_4_code 36 = .ok (.aload_n 0, 1) := by decide +kernel
theorem f86_37 : decode prog_3_method_4_code 37 = .ok (.getfield 18, 3) := by decide +kernel
theorem f86_40 : decode prog_3_method_4_code 40 = .ok (.iload_n 2, 1) := by decide +kernel
theorem f86_41 : decode prog_3_method_4_code 41 = .ok (.iload 4, 2) := by decide +kernel
theorem f86_43 : decode prog_3_method_4_code 43 = .ok (.iastore, 1) := by decide +kernel
theorem f86_44 : decode prog_3_method_4_code 44 = .ok (.iload_n 2, 1) := by decide +kernel
theorem f86_45 : decode prog_3_method_4_code 45 = .ok (.ifCond .ne 7, 3) := by decide +kernel
theorem f86_48 : decode prog_3_method_4_code 48 = .ok (.iconst 0, 1) := by decide +kernel
theorem f86_49 : decode prog_3_method_4_code 49 = .ok (.goto 22, 3) := by decide +kernel
theorem f86_52 : decode prog_3_method_4_code 52 = .ok (.aload_n 0, 1) := by decide +kernel
theorem f86_53 : decode prog_3_method_4_code 53 = .ok (.getfield 9, 3) := by decide +kernel
theorem f86_56 : decode prog_3_method_4_code 56 = .ok (.aload_n 0, 1) := by decide +kernel
theorem f86_57 : decode prog_3_method_4_code 57 = .ok (.getfield 18, 3) := by decide +kernel
theorem f86_60 : decode prog_3_method_4_code 60 = .ok (.iload_n 2, 1) := by decide +kernel
theorem f86_61 : decode prog_3_method_4_code 61 = .ok (.iconst 1, 1) := by decide +kernel
theorem f86_62 : decode prog_3_method_4_code 62 = .ok (.isub, 1) := by decide +kernel
theorem f86_63 : decode prog_3_method_4_code 63 = .ok (.iaload, 1) := by decide +kernel
theorem f86_64 : decode prog_3_method_4_code 64 = .ok (.bipush 6, 2) := by decide +kernel
theorem f86_66 : decode prog_3_method_4_code 66 = .ok (.imul, 1) := by decide +kernel
theorem f86_67 : decode prog_3_method_4_code 67 = .ok (.iload 4, 2) := by decide +kernel
theorem f86_69 : decode prog_3_method_4_code 69 = .ok (.iadd, 1) := by decide +kernel
theorem f86_70 : decode prog_3_method_4_code 70 = .ok (.iaload, 1) := by decide +kernel
theorem f86_71 : decode prog_3_method_4_code 71 = .ok (.istore 5, 2) := by decide +kernel
theorem f86_73 : decode prog_3_method_4_code 73 = .ok (.aload_n 0, 1) := by decide +kernel
theorem f86_74 : decode prog_3_method_4_code 74 = .ok (.iload_n 1, 1) := by decide +kernel
theorem f86_75 : decode prog_3_method_4_code 75 = .ok (.iconst 1, 1) := by decide +kernel
theorem f86_76 : decode prog_3_method_4_code 76 = .ok (.iload 4, 2) := by decide +kernel
theorem f86_78 : decode prog_3_method_4_code 78 = .ok (.ishl, 1) := by decide +kernel
theorem f86_79 : decode prog_3_method_4_code 79 = .ok (.iconst (-1), 1) := by decide +kernel
theorem f86_80 : decode prog_3_method_4_code 80 = .ok (.ixor, 1) := by decide +kernel
theorem f86_81 : decode prog_3_method_4_code 81 = .ok (.iand, 1) := by decide +kernel
theorem f86_82 : decode prog_3_method_4_code 82 = .ok (.iload_n 2, 1) := by decide +kernel
theorem f86_83 : decode prog_3_method_4_code 83 = .ok (.iconst 1, 1) := by decide +kernel
theorem f86_84 : decode prog_3_method_4_code 84 = .ok (.iadd, 1) := by decide +kernel
theorem f86_85 : decode prog_3_method_4_code 85 = .ok (.iload_n 3, 1) := by decide +kernel
theorem f86_86 : decode prog_3_method_4_code 86 = .ok (.iload 5, 2) := by decide +kernel
theorem f86_88 : decode prog_3_method_4_code 88 = .ok (.iadd, 1) := by decide +kernel
theorem f86_89 : decode prog_3_method_4_code 89 = .ok (.invokevirtual 47, 3) := by decide +kernel
theorem f86_92 : decode prog_3_method_4_code 92 = .ok (.iinc 4 1, 3) := by decide +kernel
theorem f86_95 : decode prog_3_method_4_code 95 = .ok (.goto (-76), 3) := by decide +kernel
theorem f86_98 : decode prog_3_method_4_code 98 = .ok (.return_, 1) := by decide +kernel
theorem f87_0 : decode prog_3_method_5_code 0 = .ok (.iload_n 1, 1) := by decide +kernel
theorem f87_1 : decode prog_3_method_5_code 1 = .ok (.aload_n 0, 1) := by decide +kernel
theorem f87_2 : decode prog_3_method_5_code 2 = .ok (.getfield 34, 3) := by decide +kernel
theorem f87_5 : decode prog_3_method_5_code 5 = .ok (.if_icmp .le 23, 3) := by decide +kernel
theorem f87_8 : decode prog_3_method_5_code 8 = .ok (.aload_n 0, 1) := by decide +kernel
theorem f87_9 : decode prog_3_method_5_code 9 = .ok (.iload_n 1, 1) := by decide +kernel
theorem f87_10 : decode prog_3_method_5_code 10 = .ok (.putfield 34, 3) := by decide +kernel
theorem f87_13 : decode prog_3_method_5_code 13 = .ok (.aload_n 0, 1) := by decide +kernel
theorem f87_14 : decode prog_3_method_5_code 14 = .ok (.getfield 18, 3) := by decide +kernel
theorem f87_17 : decode prog_3_method_5_code 17 = .ok (.iconst 0, 1) := by decide +kernel
theorem f87_18 : decode prog_3_method_5_code 18 = .ok (.aload_n 0, 1) := by decide +kernel
theorem f87_19 : decode prog_3_method_5_code 19 = .ok (.getfield 21, 3) := by decide +kernel
theorem f87_22 : decode prog_3_method_5_code 22 = .ok (.iconst 0, 1) := by decide +kernel
theorem f87_23 : decode prog_3_method_5_code 23 = .ok (.bipush 6, 2) := by decide +kernel
theorem f87_25 : decode prog_3_method_5_code 25 = .ok (.invokestatic 55, 3) := by decide +kernel
theorem f87_28 : decode prog_3_method_5_code 28 = .ok (.return_, 1) := by decide +kernel
theorem f89_0 : decode prog_1_method_20_code 0 = .ok (.iload_n 1, 1) := by decide +kernel
theorem f89_1 : decode prog_1_method_20_code 1 = .ok (.iconst (-1), 1) := by decide +kernel
theorem f89_2 : decode prog_1_method_20_code 2 = .ok (.if_icmp .ne 14, 3) := by decide +kernel
theorem f89_5 : decode prog_1_method_20_code 5 = .ok (.aload_n 0, 1) := by decide +kernel
theorem f89_6 : decode prog_1_method_20_code 6 = .ok (.getfield 14, 3) := by decide +kernel
theorem f89_9 : decode prog_1_method_20_code 9 = .ok (.getfield 203, 3) := by decide +kernel
theorem f89_12 : decode prog_1_method_20_code 12 = .ok (.invokevirtual 135, 3) := by decide +kernel
theorem f89_15 : decode prog_1_method_20_code 15 = .ok (.ireturn, 1) := by decide +kernel
theorem f89_16 : decode prog_1_method_20_code 16 = .ok (.aload_n 0, 1) := by decide +kernel
theorem f89_17 : decode prog_1_method_20_code 17 = .ok (.iload_n 1, 1) := by decide +kernel
theorem f89_18 : decode prog_1_method_20_code 18 = .ok (.invokevirtual 71, 3) := by decide +kernel
theorem f89_21 : decode prog_1_method_20_code 21 = .ok (.ifCond .eq 12, 3) := by decide +kernel
theorem f89_24 : decode prog_1_method_20_code 24 = .ok (.iload_n 2, 1) := by decide +kernel
theorem f89_25 : decode prog_1_method_20_code 25 = .ok (.bipush 6, 2) := by decide +kernel
theorem f89_27 : decode prog_1_method_20_code 27 = .ok (.invokestatic 59, 3) := by decide +kernel
theorem f89_30 : decode prog_1_method_20_code 30 = .ok (.ifCond .ne 5, 3) := by decide +kernel
theorem f89_33 : decode prog_1_method_20_code 33 = .ok (.iconst (-1), 1) := by decide +kernel
theorem f89_34 : decode prog_1_method_20_code 34 = .ok (.ireturn, 1) := by decide +kernel
theorem f89_35 : decode prog_1_method_20_code 35 = .ok (.iload_n 3, 1) := by decide +kernel
theorem f89_36 : decode prog_1_method_20_code 36 = .ok (.bipush 13, 2) := by decide +kernel
theorem f89_38 : decode prog_1_method_20_code 38 = .ok (.invokestatic 59, 3) := by decide +kernel
theorem f89_41 : decode prog_1_method_20_code 41 = .ok (.ifCond .eq 13, 3) := by decide +kernel
theorem f89_44 : decode prog_1_method_20_code 44 = .ok (.iload 4, 2) := by decide +kernel
theorem f89_46 : decode prog_1_method_20_code 46 = .ok (.bipush 10, 2) := by decide +kernel
theorem f89_48 : decode prog_1_method_20_code 48 = .ok (.invokestatic 59, 3) := by decide +kernel
theorem f89_51 : decode prog_1_method_20_code 51 = .ok (.ifCond .ne 6, 3) := by decide +kernel
theorem f89_54 : decode prog_1_method_20_code 54 = .ok (.bipush (-2), 2) := by decide +kernel
theorem f89_56 : decode prog_1_method_20_code 56 = .ok (.ireturn, 1) := by decide +kernel
theorem f89_57 : decode prog_1_method_20_code 57 = .ok (.aload_n 0, 1) := by decide +kernel
theorem f89_58 : decode prog_1_method_20_code 58 = .ok (.getfield 14, 3) := by decide +kernel
theorem f89_61 : decode prog_1_method_20_code 61 = .ok (.getfield 203, 3) := by decide +kernel
theorem f89_64 : decode prog_1_method_20_code 64 = .ok (.invokevirtual 141, 3) := by decide +kernel
theorem f89_67 : decode prog_1_method_20_code 67 = .ok (.ifCond .eq 8, 3) := by decide +kernel
theorem f89_70 : decode prog_1_method_20_code 70 = .ok (.bipush (-4), 2) := by decide +kernel
theorem f89_72 : decode prog_1_method_20_code 72 = .ok (.goto 18, 3) := by decide +kernel
theorem f89_75 : decode prog_1_method_20_code 75 = .ok (.aload_n 0, 1) := by decide +kernel
theorem f89_76 : decode prog_1_method_20_code 76 = .ok (.getfield 14, 3) := by decide +kernel
theorem f89_79 : decode prog_1_method_20_code 79 = .ok (.getfield 203, 3) := by decide +kernel
theorem f89_82 : decode prog_1_method_20_code 82 = .ok (.iload_n 1, 1) := by decide +kernel
theorem f89_83 : decode prog_1_method_20_code 83 = .ok (.iload_n 2, 1) := by decide +kernel
theorem f89_84 : decode prog_1_method_20_code 84 = .ok (.iload_n 3, 1) := by decide +kernel
theorem f89_85 : decode prog_1_method_20_code 85 = .ok (.iload 4, 2) := by decide +kernel
theorem f89_87 : decode prog_1_method_20_code 87 = .ok (.invokevirtual 145, 3) := by decide +kernel
theorem f89_90 : decode prog_1_method_20_code 90 = .ok (.ireturn, 1) := by decide +kernel
theorem f96_0 : decode prog_1_method_27_code 0 = .ok (.iload_n 1, 1) := by decide +kernel
theorem f96_1 : decode prog_1_method_27_code 1 = .ok (.iconst (-1), 1) := by decide +kernel
theorem f96_2 : decode prog_1_method_27_code 2 = .ok (.if_icmp .ne 14, 3) := by decide +kernel
theorem f96_5 : decode prog_1_method_27_code 5 = .ok (.aload_n 0, 1) := by decide +kernel
theorem f96_6 : decode prog_1_method_27_code 6 = .ok (.getfield 14, 3) := by decide +kernel
theorem f96_9 : decode prog_1_method_27_code 9 = .ok (.getfield 218, 3) := by decide +kernel
theorem f96_12 : decode prog_1_method_27_code 12 = .ok (.invokevirtual 135, 3) := by decide +kernel
theorem f96_15 : decode prog_1_method_27_code 15 = .ok (.ireturn, 1) := by decide +kernel
theorem f96_16 : decode prog_1_method_27_code 16 = .ok (.iload_n 1, 1) := by decide +kernel
theorem f96_17 : decode prog_1_method_27_code 17 = .ok (.iconst 4, 1) := by decide +kernel
theorem f96_18 : decode prog_1_method_27_code 18 = .ok (.invokestatic 59, 3) := by decide +kernel
theorem f96_21 : decode prog_1_method_27_code 21 = .ok (.ifCond .eq 15, 3) := by decide +kernel
theorem f96_24 : decode prog_1_method_27_code 24 = .ok (.iload_n 1, 1) := by decide +kernel
theorem f96_25 : decode prog_1_method_27_code 25 = .ok (.ifCond .eq 13, 3) := by decide +kernel
theorem f96_28 : decode prog_1_method_27_code 28 = .ok (.aload_n 0, 1) := by decide +kernel
theorem f96_29 : decode prog_1_method_27_code 29 = .ok (.iload_n 2, 1) := by decide +kernel
theorem f96_30 : decode prog_1_method_27_code 30 = .ok (.invokevirtual 71, 3) := by decide +kernel
theorem f96_33 : decode prog_1_method_27_code 33 = .ok (.ifCond .ne 5, 3) := by decide +kernel
theorem f96_36 : decode prog_1_method_27_code 36 = .ok (.iconst (-1), 1) := by decide +kernel
theorem f96_37 : decode prog_1_method_27_code 37 = .ok (.ireturn, 1) := by decide +kernel
theorem f96_38 : decode prog_1_method_27_code 38 = .ok (.aload_n 0, 1) := by decide +kernel
theorem f96_39 : decode prog_1_method_27_code 39 = .ok (.getfield 14, 3) := by decide +kernel
theorem f96_42 : decode prog_1_method_27_code 42 = .ok (.getfield 218, 3) := by decide +kernel
theorem f96_45 : decode prog_1_method_27_code 45 = .ok (.invokevirtual 141, 3) := by decide +kernel
theorem f96_48 : decode prog_1_method_27_code 48 = .ok (.ifCond .eq 8, 3) := by decide +kernel
theorem f96_51 : decode prog_1_method_27_code 51 = .ok (.bipush (-4), 2) := by decide +kernel
theorem f96_53 : decode prog_1_method_27_code 53 = .ok (.goto 17, 3) := by decide +kernel
theorem f96_56 : decode prog_1_method_27_code 56 = .ok (.aload_n 0, 1) := by decide +kernel
theorem f96_57 : decode prog_1_method_27_code 57 = .ok (.getfield 14, 3) := by decide +kernel
theorem f96_60 : decode prog_1_method_27_code 60 = .ok (.getfield 218, 3) := by decide +kernel
theorem f96_63 : decode prog_1_method_27_code 63 = .ok (.iload_n 1, 1) := by decide +kernel
theorem f96_64 : decode prog_1_method_27_code 64 = .ok (.iload_n 2, 1) := by decide +kernel
theorem f96_65 : decode prog_1_method_27_code 65 = .ok (.iconst 0, 1) := by decide +kernel
theorem f96_66 : decode prog_1_method_27_code 66 = .ok (.iconst 0, 1) := by decide +kernel
theorem f96_67 : decode prog_1_method_27_code 67 = .ok (.invokevirtual 145, 3) := by decide +kernel
theorem f96_70 : decode prog_1_method_27_code 70 = .ok (.ireturn, 1) := by decide +kernel
theorem f98_0 : decode prog_4_method_20_code 0 = .ok (.iconst 0, 1) := by decide +kernel
theorem f98_1 : decode prog_4_method_20_code 1 = .ok (.istore_n 1, 1) := by decide +kernel
theorem f98_2 : decode prog_4_method_20_code 2 = .ok (.iload_n 1, 1) := by decide +kernel
theorem f98_3 : decode prog_4_method_20_code 3 = .ok (.aload_n 0, 1) := by decide +kernel
theorem f98_4 : decode prog_4_method_20_code 4 = .ok (.getfield 42, 3) := by decide +kernel
theorem f98_7 : decode prog_4_method_20_code 7 = .ok (.getfield 114, 3) := by decide +kernel
theorem f98_10 : decode prog_4_method_20_code 10 = .ok (.if_icmp .ge 87, 3) := by decide +kernel
theorem f98_13 : decode prog_4_method_20_code 13 = .ok (.aload_n 0, 1) := by decide +kernel
theorem f98_14 : decode prog_4_method_20_code 14 = .ok (.getfield 42, 3) := by decide +kernel
theorem f98_17 : decode prog_4_method_20_code 17 = .ok (.iload_n 1, 1) := by decide +kernel
theorem f98_18 : decode prog_4_method_20_code 18 = .ok (.iconst 1, 1) := by decide +kernel
theorem f98_19 : decode prog_4_method_20_code 19 = .ok (.invokevirtual 126, 3) := by decide +kernel
theorem f98_22 : decode prog_4_method_20_code 22 = .ok (.istore_n 2, 1) := by decide +kernel
theorem f98_23 : decode prog_4_method_20_code 23 = .ok (.aload_n 0, 1) := by decide +kernel
theorem f98_24 : decode prog_4_method_20_code 24 = .ok (.getfield 42, 3) := by decide +kernel
theorem f98_27 : decode prog_4_method_20_code 27 = .ok (.iload_n 1, 1) := by decide +kernel
theorem f98_28 : decode prog_4_method_20_code 28 = .ok (.iconst 0, 1) := by decide +kernel
theorem f98_29 : decode prog_4_method_20_code 29 = .ok (.invokevirtual 126, 3) := by decide +kernel
theorem f98_32 : decode prog_4_method_20_code 32 = .ok (.tableswitch 54 0 2 #[28, 35, 44], 28) := by decide +kernel
theorem f98_60 : decode prog_4_method_20_code 60 = .ok (.aload_n 0, 1) := by decide +kernel
theorem f98_61 : decode prog_4_method_20_code 61 = .ok (.invokevirtual 87, 3) := by decide +kernel
theorem f98_64 : decode prog_4_method_20_code 64 = .ok (.goto 27, 3) := by decide +kernel
theorem f98_67 : decode prog_4_method_20_code 67 = .ok (.aload_n 0, 1) := by decide +kernel
theorem f98_68 : decode prog_4_method_20_code 68 = .ok (.iload_n 2, 1) := by decide +kernel
theorem f98_69 : decode prog_4_method_20_code 69 = .ok (.iconst 0, 1) := by decide +kernel
theorem f98_70 : decode prog_4_method_20_code 70 = .ok (.invokevirtual 72, 3) := by decide +kernel
theorem f98_73 : decode prog_4_method_20_code 73 = .ok (.goto 18, 3) := by decide +kernel
theorem f98_76 : decode prog_4_method_20_code 76 = .ok (.aload_n 0, 1) := by decide +kernel
theorem f98_77 : decode prog_4_method_20_code 77 = .ok (.getfield 18, 3) := by decide +kernel
theorem f98_80 : decode prog_4_method_20_code 80 = .ok (.iload_n 2, 1) := by decide +kernel
theorem f98_81 : decode prog_4_method_20_code 81 = .ok (.iconst 0, 1) := by decide +kernel
theorem f98_82 : decode prog_4_method_20_code 82 = .ok (.iastore, 1) := by decide +kernel
theorem f98_83 : decode prog_4_method_20_code 83 = .ok (.goto 8, 3) := by decide +kernel
theorem f98_86 : decode prog_4_method_20_code 86 = .ok (.aload_n 0, 1) := by decide +kernel
theorem f98_87 : decode prog_4_method_20_code 87 = .ok (.iload_n 2, 1) := by decide +kernel
theorem f98_88 : decode prog_4_method_20_code 88 = .ok (.invokevirtual 132, 3) := by decide +kernel
theorem f98_91 : decode prog_4_method_20_code 91 = .ok (.iinc 1 1, 3) := by decide +kernel
theorem f98_94 : decode prog_4_method_20_code 94 = .ok (.goto (-92), 3) := by decide +kernel
theorem f98_97 : decode prog_4_method_20_code 97 = .ok (.return_, 1) := by decide +kernel
theorem f99_0 : decode prog_4_method_8_code 0 = .ok (.iconst 0, 1) := by decide +kernel
theorem f99_1 : decode prog_4_method_8_code 1 = .ok (.istore_n 2, 1) := by decide +kernel
theorem f99_2 : decode prog_4_method_8_code 2 = .ok (.iload_n 2, 1) := by decide +kernel
theorem f99_3 : decode prog_4_method_8_code 3 = .ok (.bipush 6, 2) := by decide +kernel
theorem f99_5 : decode prog_4_method_8_code 5 = .ok (.if_icmp .ge 15, 3) := by decide +kernel
theorem f99_8 : decode prog_4_method_8_code 8 = .ok (.aload_n 0, 1) := by decide +kernel
theorem f99_9 : decode prog_4_method_8_code 9 = .ok (.iload_n 1, 1) := by decide +kernel
theorem f99_10 : decode prog_4_method_8_code 10 = .ok (.iload_n 2, 1) := by decide +kernel
theorem f99_11 : decode prog_4_method_8_code 11 = .ok (.invokevirtual 84, 3) := by decide +kernel
theorem f99_14 : decode prog_4_method_8_code 14 = .ok (.iinc 2 1, 3) := by decide +kernel
theorem f99_17 : decode prog_4_method_8_code 17 = .ok (.goto (-15), 3) := by decide +kernel
theorem f99_20 : decode prog_4_method_8_code 20 = .ok (.return_, 1) := by decide +kernel
theorem f100_0 : decode prog_1_method_29_code 0 = .ok (.iload_n 1, 1) := by decide +kernel
theorem f100_1 : decode prog_1_method_29_code 1 = .ok (.iconst (-1), 1) := by decide +kernel
theorem f100_2 : decode prog_1_method_29_code 2 = .ok (.if_icmp .ne 14, 3) := by decide +kernel
theorem f100_5 : decode prog_1_method_29_code 5 = .ok (.aload_n 0, 1) := by decide +kernel
theorem f100_6 : decode prog_1_method_29_code 6 = .ok (.getfield 14, 3) := by decide +kernel
theorem f100_9 : decode prog_1_method_29_code 9 = .ok (.getfield 224, 3) := by decide +kernel
theorem f100_12 : decode prog_1_method_29_code 12 = .ok (.invokevirtual 135, 3) := by decide +kernel
theorem f100_15 : decode prog_1_method_29_code 15 = .ok (.ireturn, 1) := by decide +kernel
theorem f100_16 : decode prog_1_method_29_code 16 = .ok (.aload_n 0, 1) := by decide +kernel
theorem f100_17 : decode prog_1_method_29_code 17 = .ok (.iload_n 1, 1) := by decide +kernel
theorem f100_18 : decode prog_1_method_29_code 18 = .ok (.invokevirtual 71, 3) := by decide +kernel
theorem f100_21 : decode prog_1_method_29_code 21 = .ok (.ifCond .ne 5, 3) := by decide +kernel
theorem f100_24 : decode prog_1_method_29_code 24 = .ok (.iconst (-1), 1) := by decide +kernel
theorem f100_25 : decode prog_1_method_29_code 25 = .ok (.ireturn, 1) := by decide +kernel
theorem f100_26 : decode prog_1_method_29_code 26 = .ok (.iload_n 2, 1) := by decide +kernel
theorem f100_27 : decode prog_1_method_29_code 27 = .ok (.sipush 10000, 3) := by decide +kernel
theorem f100_30 : decode prog_1_method_29_code 30 = .ok (.invokestatic 59, 3) := by decide +kernel
theorem f100_33 : decode prog_1_method_29_code 33 = .ok (.ifCond .ne 6, 3) := by decide +kernel
theorem f100_36 : decode prog_1_method_29_code 36 = .ok (.bipush (-2), 2) := by decide +kernel
theorem f100_38 : decode prog_1_method_29_code 38 = .ok (.ireturn, 1) := by decide +kernel
theorem f100_39 : decode prog_1_method_29_code 39 = .ok (.aload_n 0, 1) := by decide +kernel
theorem f100_40 : decode prog_1_method_29_code 40 = .ok (.getfield 14, 3) := by decide +kernel
theorem f100_43 : decode prog_1_method_29_code 43 = .ok (.getfield 224, 3) := by decide +kernel
theorem f100_46 : decode prog_1_method_29_code 46 = .ok (.invokevirtual 141, 3) := by decide +kernel
theorem f100_49 : decode prog_1_method_29_code 49 = .ok (.ifCond .eq 8, 3) := by decide +kernel
theorem f100_52 : decode prog_1_method_29_code 52 = .ok (.bipush (-4), 2) := by decide +kernel
theorem f100_54 : decode prog_1_method_29_code 54 = .ok (.goto 17, 3) := by decide +kernel
theorem f100_57 : decode prog_1_method_29_code 57 = .ok (.aload_n 0, 1) := by decide +kernel
theorem f100_58 : decode prog_1_method_29_code 58 = .ok (.getfield 14, 3) := by decide +kernel
theorem f100_61 : decode prog_1_method_29_code 61 = .ok (.getfield 224, 3) := by decide +kernel
theorem f100_64 : decode prog_1_method_29_code 64 = .ok (.iload_n 1, 1) := by decide +kernel
theorem f100_65 : decode prog_1_method_29_code 65 = .ok (.iload_n 2, 1) := by decide +kernel
theorem f100_66 : decode prog_1_method_29_code 66 = .ok (.iconst 0, 1) := by decide +kernel
theorem f100_67 : decode prog_1_method_29_code 67 = .ok (.iconst 0, 1) := by decide +kernel
theorem f100_68 : decode prog_1_method_29_code 68 = .ok (.invokevirtual 145, 3) := by decide +kernel
theorem f100_71 : decode prog_1_method_29_code 71 = .ok (.ireturn, 1) := by decide +kernel
theorem f101_0 : decode prog_1_method_30_code 0 = .ok (.iconst 0, 1) := by decide +kernel
theorem f101_1 : decode prog_1_method_30_code 1 = .ok (.istore_n 1, 1) := by decide +kernel
theorem f101_2 : decode prog_1_method_30_code 2 = .ok (.iload_n 1, 1) := by decide +kernel
theorem f101_3 : decode prog_1_method_30_code 3 = .ok (.aload_n 0, 1) := by decide +kernel
theorem f101_4 : decode prog_1_method_30_code 4 = .ok (.getfield 14, 3) := by decide +kernel
theorem f101_7 : decode prog_1_method_30_code 7 = .ok (.getfield 224, 3) := by decide +kernel
theorem f101_10 : decode prog_1_method_30_code 10 = .ok (.getfield 178, 3) := by decide +kernel
theorem f101_13 : decode prog_1_method_30_code 13 = .ok (.if_icmp .ge 56, 3) := by decide +kernel
theorem f101_16 : decode prog_1_method_30_code 16 = .ok (.aload_n 0, 1) := by decide +kernel
theorem f101_17 : decode prog_1_method_30_code 17 = .ok (.getfield 14, 3) := by decide +kernel
theorem f101_20 : decode prog_1_method_30_code 20 = .ok (.getfield 224, 3) := by decide +kernel
theorem f101_23 : decode prog_1_method_30_code 23 = .ok (.iload_n 1, 1) := by decide +kernel
theorem f101_24 : decode prog_1_method_30_code 24 = .ok (.iconst 0, 1) := by decide +kernel
theorem f101_25 : decode prog_1_method_30_code 25 = .ok (.invokevirtual 179, 3) := by decide +kernel
theorem f101_28 : decode prog_1_method_30_code 28 = .ok (.istore_n 2, 1) := by decide +kernel
theorem f101_29 : decode prog_1_method_30_code 29 = .ok (.aload_n 0, 1) := by decide +kernel
theorem f101_30 : decode prog_1_method_30_code 30 = .ok (.iload_n 2, 1) := by decide +kernel
theorem f101_31 : decode prog_1_method_30_code 31 = .ok (.invokevirtual 71, 3) := by decide +kernel
theorem f101_34 : decode prog_1_method_30_code 34 = .ok (.ifCond .eq 27, 3) := by decide +kernel
theorem f101_37 : decode prog_1_method_30_code 37 = .ok (.aload_n 0, 1) := by decide +kernel
theorem f101_38 : decode prog_1_method_30_code 38 = .ok (.getfield 14, 3) := by decide +kernel
theorem f101_41 : decode prog_1_method_30_code 41 = .ok (.getfield 82, 3) := by decide +kernel
theorem f101_44 : decode prog_1_method_30_code 44 = .ok (.iload_n 2, 1) := by decide +kernel
theorem f101_45 : decode prog_1_method_30_code 45 = .ok (.iaload, 1) := by decide +kernel
theorem f101_46 : decode prog_1_method_30_code 46 = .ok (.aload_n 0, 1) := by decide +kernel
theorem f101_47 : decode prog_1_method_30_code 47 = .ok (.getfield 14, 3) := by decide +kernel
theorem f101_50 : decode prog_1_method_30_code 50 = .ok (.getfield 224, 3) := by decide +kernel
theorem f101_53 : decode prog_1_method_30_code 53 = .ok (.iload_n 1, 1) := by decide +kernel
theorem f101_54 : decode prog_1_method_30_code 54 = .ok (.iconst 1, 1) := by decide +kernel
theorem f101_55 : decode prog_1_method_30_code 55 = .ok (.invokevirtual 179, 3) := by decide +kernel
theorem f101_58 : decode prog_1_method_30_code 58 = .ok (.if_icmp .eq 5, 3) := by decide +kernel
theorem f101_61 : decode prog_1_method_30_code 61 = .ok (.iload_n 1, 1) := by decide +kernel
theorem f101_62 : decode prog_1_method_30_code 62 = .ok (.ireturn, 1) := by decide +kernel
theorem f101_63 : decode prog_1_method_30_code 63 = .ok (.iinc 1 1, 3) := by decide +kernel
theorem f101_66 : decode prog_1_method_30_code 66 = .ok (.goto (-64), 3) := by decide +kernel
theorem f101_69 : decode prog_1_method_30_code 69 = .ok (.bipush (-5), 2) := by decide +kernel
theorem f101_71 : decode prog_1_method_30_code 71 = .ok (.ireturn, 1) := by decide +kernel
theorem f102_0 : decode prog_1_method_31_code 0 = .ok (.iload_n 1, 1) := by decide +kernel
theorem f102_1 : decode prog_1_method_31_code 1 = .ok (.bipush 6, 2) := by decide +kernel
theorem f102_3 : decode prog_1_method_31_code 3 = .ok (.invokestatic 59, 3) := by decide +kernel
theorem f102_6 : decode prog_1_method_31_code 6 = .ok (.ifCond .ne 5, 3) := by decide +kernel
theorem f102_9 : decode prog_1_method_31_code 9 = .ok (.iconst (-1), 1) := by decide +kernel
theorem f102_10 : decode prog_1_method_31_code 10 = .ok (.ireturn, 1) := by decide +kernel
theorem f102_11 : decode prog_1_method_31_code 11 = .ok (.aload_n 0, 1) := by decide +kernel
theorem f102_12 : decode prog_1_method_31_code 12 = .ok (.getfield 39, 3) := by decide +kernel
theorem f102_15 : decode prog_1_method_31_code 15 = .ok (.iload_n 1, 1) := by decide +kernel
theorem f102_16 : decode prog_1_method_31_code 16 = .ok (.aaload, 1) := by decide +kernel
theorem f102_17 : decode prog_1_method_31_code 17 = .ok (.astore_n 3, 1) := by decide +kernel
theorem f102_18 : decode prog_1_method_31_code 18 = .ok (.aload_n 3, 1) := by decide +kernel
theorem f102_19 : decode prog_1_method_31_code 19 = .ok (.invokevirtual 227, 3) := by decide +kernel
theorem f102_22 : decode prog_1_method_31_code 22 = .ok (.ifCond .eq 13, 3) := by decide +kernel
theorem f102_25 : decode prog_1_method_31_code 25 = .ok (.aload_n 3, 1) := by decide +kernel
theorem f102_26 : decode prog_1_method_31_code 26 = .ok (.getfield 230, 3) := by decide +kernel
theorem f102_29 : decode prog_1_method_31_code 29 = .ok (.ifCond .eq 6, 3) := by decide +kernel
theorem f102_32 : decode prog_1_method_31_code 32 = .ok (.bipush (-12), 2) := by decide +kernel
theorem f102_34 : decode prog_1_method_31_code 34 = .ok (.ireturn, 1) := by decide +kernel
theorem f102_35 : decode prog_1_method_31_code 35 = .ok (.aload_n 0, 1) := by decide +kernel
theorem f102_36 : decode prog_1_method_31_code 36 = .ok (.getfield 14, 3) := by decide +kernel
theorem f102_39 : decode prog_1_method_31_code 39 = .ok (.getfield 131, 3) := by decide +kernel
theorem f102_42 : decode prog_1_method_31_code 42 = .ok (.getfield 178, 3) := by decide +kernel
theorem f102_45 : decode prog_1_method_31_code 45 = .ok (.istore 4, 2) := by decide +kernel
theorem f102_47 : decode prog_1_method_31_code 47 = .ok (.iload 4, 2) := by decide +kernel
theorem f102_49 : decode prog_1_method_31_code 49 = .ok (.ifCond .ne 6, 3) := by decide +kernel
theorem f102_52 : decode prog_1_method_31_code 52 = .ok (.bipush (-5), 2) := by decide +kernel
theorem f102_54 : decode prog_1_method_31_code 54 = .ok (.ireturn, 1) := by decide +kernel
theorem f102_55 : decode prog_1_method_31_code 55 = .ok (.aload_n 3, 1) := by decide +kernel
theorem f102_56 : decode prog_1_method_31_code 56 = .ok (.iload_n 2, 1) := by decide +kernel
theorem f102_57 : decode prog_1_method_31_code 57 = .ok (.invokevirtual 233, 3) := by decide +kernel
theorem f102_60 : decode prog_1_method_31_code 60 = .ok (.ifCond .ne 6, 3) := by decide +kernel
theorem f102_63 : decode prog_1_method_31_code 63 = .ok (.bipush 100, 2) := by decide +kernel
theorem f102_65 : decode prog_1_method_31_code 65 = .ok (.ireturn, 1) := by decide +kernel
theorem f102_66 : decode prog_1_method_31_code 66 = .ok (.iload 4, 2) := by decide +kernel
theorem f102_68 : decode prog_1_method_31_code 68 = .ok (.aload_n 3, 1) := by decide +kernel
theorem f102_69 : decode prog_1_method_31_code 69 = .ok (.getfield 236, 3) := by decide +kernel
theorem f102_72 : decode prog_1_method_31_code 72 = .ok (.iload_n 2, 1) := by decide +kernel
theorem f102_73 : decode prog_1_method_31_code 73 = .ok (.isub, 1) := by decide +kernel
theorem f102_74 : decode prog_1_method_31_code 74 = .ok (.invokestatic 238, 3) := by decide +kernel
theorem f102_77 : decode prog_1_method_31_code 77 = .ok (.istore 5, 2) := by decide +kernel
theorem f102_79 : decode prog_1_method_31_code 79 = .ok (.iconst 0, 1) := by decide +kernel
theorem f102_80 : decode prog_1_method_31_code 80 = .ok (.istore 6, 2) := by decide +kernel
theorem f102_82 : decode prog_1_method_31_code 82 = .ok (.iload 6, 2) := by decide +kernel
theorem f102_84 : decode prog_1_method_31_code 84 = .ok (.iload 5, 2) := by decide +kernel
theorem f102_86 : decode prog_1_method_31_code 86 = .ok (.if_icmp .ge 39, 3) := by decide +kernel
theorem f102_89 : decode prog_1_method_31_code 89 = .ok (.aload_n 3, 1) := by decide +kernel
theorem f102_90 : decode prog_1_method_31_code 90 = .ok (.getfield 243, 3) := by decide +kernel
theorem f102_93 : decode prog_1_method_31_code 93 = .ok (.iload_n 2, 1) := by decide +kernel
theorem f102_94 : decode prog_1_method_31_code 94 = .ok (.iload 6, 2) := by decide +kernel
theorem f102_96 : decode prog_1_method_31_code 96 = .ok (.iadd, 1) := by decide +kernel
theorem f102_97 : decode prog_1_method_31_code 97 = .ok (.laload, 1) := by decide +kernel
theorem f102_98 : decode prog_1_method_31_code 98 = .ok (.aload_n 0, 1) := by decide +kernel
theorem f102_99 : decode prog_1_method_31_code 99 = .ok (.getfield 14, 3) := by decide +kernel
theorem f102_102 : decode prog_1_method_31_code 102 = .ok (.getfield 131, 3) := by decide +kernel
theorem f102_105 : decode prog_1_method_31_code 105 = .ok (.iload 6, 2) := by decide +kernel
theorem f102_107 : decode prog_1_method_31_code 107 = .ok (.iconst 0, 1) := by decide +kernel
theorem f102_108 : decode prog_1_method_31_code 108 = .ok (.invokevirtual 179, 3) := by decide +kernel
theorem f102_111 : decode prog_1_method_31_code 111 = .ok (.i2l, 1) := by decide +kernel
theorem f102_112 : decode prog_1_method_31_code 112 = .ok (.lcmp, 1) := by decide +kernel
theorem f102_113 : decode prog_1_method_31_code 113 = .ok (.ifCond .eq 6, 3) := by decide +kernel
theorem f102_116 : decode prog_1_method_31_code 116 = .ok (.iload 6, 2) := by decide +kernel
theorem f102_118 : decode prog_1_method_31_code 118 = .ok (.ireturn, 1) := by decide +kernel
theorem f102_119 : decode prog_1_method_31_code 119 = .ok (.iinc 6 1, 3) := by decide +kernel
theorem f102_122 : decode prog_1_method_31_code 122 = .ok (.goto (-40), 3) := by decide +kernel
theorem f102_125 : decode prog_1_method_31_code 125 = .ok (.iload 5, 2) := by decide +kernel
theorem f102_127 : decode prog_1_method_31_code 127 = .ok (.iload 4, 2) := by decide +kernel
theorem f102_129 : decode prog_1_method_31_code 129 = .ok (.if_icmp .ge 11, 3) := by decide +kernel
theorem f102_132 : decode prog_1_method_31_code 132 = .ok (.bipush 100, 2) := by decide +kernel
theorem f102_134 : decode prog_1_method_31_code 134 = .ok (.iload 5, 2) := by decide +kernel
theorem f102_136 : decode prog_1_method_31_code 136 = .ok (.iadd, 1) := by decide +kernel
theorem f102_137 : decode prog_1_method_31_code 137 = .ok (.goto 5, 3) := by decide +kernel
theorem f102_140 : decode prog_1_method_31_code 140 = .ok (.bipush (-5), 2) := by decide +kernel
theorem f102_142 : decode prog_1_method_31_code 142 = .ok (.ireturn, 1) := by decide +kernel
theorem f105_0 : decode prog_1_method_32_code 0 = .ok (.aload_n 0, 1) := by decide +kernel
theorem f105_1 : decode prog_1_method_32_code 1 = .ok (.getfield 21, 3) := by decide +kernel
theorem f105_4 : decode prog_1_method_32_code 4 = .ok (.aload_n 0, 1) := by decide +kernel
theorem f105_5 : decode prog_1_method_32_code 5 = .ok (.getfield 14, 3) := by decide +kernel
theorem f105_8 : decode prog_1_method_32_code 8 = .ok (.invokevirtual 114, 3) := by decide +kernel
theorem f105_11 : decode prog_1_method_32_code 11 = .ok (.aload_n 0, 1) := by decide +kernel
theorem f105_12 : decode prog_1_method_32_code 12 = .ok (.iconst 1, 1) := by decide +kernel
theorem f105_13 : decode prog_1_method_32_code 13 = .ok (.putfield 247, 3) := by decide +kernel
theorem f105_16 : decode prog_1_method_32_code 16 = .ok (.aload_n 0, 1) := by decide +kernel
theorem f105_17 : decode prog_1_method_32_code 17 = .ok (.getfield 14, 3) := by decide +kernel
theorem f105_20 : decode prog_1_method_32_code 20 = .ok (.getfield 63, 3) := by decide +kernel
theorem f105_23 : decode prog_1_method_32_code 23 = .ok (.ireturn, 1) := by decide +kernel
theorem f106_0 : decode prog_1_method_33_code 0 = .ok (.aload_n 0, 1) := by decide +kernel
theorem f106_1 : decode prog_1_method_33_code 1 = .ok (.getfield 247, 3) := by decide +kernel
theorem f106_4 : decode prog_1_method_33_code 4 = .ok (.ifCond .ne 6, 3) := by decide +kernel
theorem f106_7 : decode prog_1_method_33_code 7 = .ok (.bipush (-3), 2) := by decide +kernel
theorem f106_9 : decode prog_1_method_33_code 9 = .ok (.ireturn, 1) := by decide +kernel
theorem f106_10 : decode prog_1_method_33_code 10 = .ok (.aload_n 0, 1) := by decide +kernel
theorem f106_11 : decode prog_1_method_33_code 11 = .ok (.getfield 14, 3) := by decide +kernel
theorem f106_14 : decode prog_1_method_33_code 14 = .ok (.aload_n 0, 1) := by decide +kernel
theorem f106_15 : decode prog_1_method_33_code 15 = .ok (.getfield 21, 3) := by decide +kernel
theorem f106_18 : decode prog_1_method_33_code 18 = .ok (.invokevirtual 114, 3) := by decide +kernel
theorem f106_21 : decode prog_1_method_33_code 21 = .ok (.aload_n 0, 1) := by decide +kernel
theorem f106_22 : decode prog_1_method_33_code 22 = .ok (.getfield 14, 3) := by decide +kernel
theorem f106_25 : decode prog_1_method_33_code 25 = .ok (.getfield 63, 3) := by decide +kernel
theorem f106_28 : decode prog_1_method_33_code 28 = .ok (.ireturn, 1) := by decide +kernel
theorem f107_0 : decode prog_1_method_34_code 0 = .ok (.aload_n 0, 1) := by decide +kernel
theorem f107_1 : decode prog_1_method_34_code 1 = .ok (.getfield 46, 3) := by decide +kernel
theorem f107_4 : decode prog_1_method_34_code 4 = .ok (.invokevirtual 251, 3) := by decide +kernel
theorem f107_7 : decode prog_1_method_34_code 7 = .ok (.aload_n 0, 1) := by decide +kernel
theorem f107_8 : decode prog_1_method_34_code 8 = .ok (.iload_n 1, 1) := by decide +kernel
theorem f107_9 : decode prog_1_method_34_code 9 = .ok (.invokevirtual 71, 3) := by decide +kernel
theorem f107_12 : decode prog_1_method_34_code 12 = .ok (.ifCond .eq 11, 3) := by decide +kernel
theorem f107_15 : decode prog_1_method_34_code 15 = .ok (.iload_n 2, 1) := by decide +kernel
theorem f107_16 : decode prog_1_method_34_code 16 = .ok (.iconst 3, 1) := by decide +kernel
theorem f107_17 : decode prog_1_method_34_code 17 = .ok (.invokestatic 59, 3) := by decide +kernel
theorem f107_20 : decode prog_1_method_34_code 20 = .ok (.ifCond .ne 5, 3) := by decide +kernel
theorem f107_23 : decode prog_1_method_34_code 23 = .ok (.iconst 0, 1) := by decide +kernel
theorem f107_24 : decode prog_1_method_34_code 24 = .ok (.ireturn, 1) := by decide +kernel
theorem f107_25 : decode prog_1_method_34_code 25 = .ok (.aload_n 0, 1) := by decide +kernel
theorem f107_26 : decode prog_1_method_34_code 26 = .ok (.getfield 46, 3) := by decide +kernel
theorem f107_29 : decode prog_1_method_34_code 29 = .ok (.iload_n 1, 1) := by decide +kernel
theorem f107_30 : decode prog_1_method_34_code 30 = .ok (.aload_n 0, 1) := by decide +kernel
theorem f107_31 : decode prog_1_method_34_code 31 = .ok (.getfield 14, 3) := by decide +kernel
theorem f107_34 : decode prog_1_method_34_code 34 = .ok (.getfield 75, 3) := by decide +kernel
theorem f107_37 : decode prog_1_method_34_code 37 = .ok (.iload_n 1, 1) := by decide +kernel
theorem f107_38 : decode prog_1_method_34_code 38 = .ok (.iaload, 1) := by decide +kernel
theorem f107_39 : decode prog_1_method_34_code 39 = .ok (.aload_n 0, 1) := by decide +kernel
theorem f107_40 : decode prog_1_method_34_code 40 = .ok (.getfield 14, 3) := by decide +kernel
theorem f107_43 : decode prog_1_method_34_code 43 = .ok (.getfield 79, 3) := by decide +kernel
theorem f107_46 : decode prog_1_method_34_code 46 = .ok (.iload_n 1, 1) := by decide +kernel
theorem f107_47 : decode prog_1_method_34_code 47 = .ok (.iaload, 1) := by decide +kernel
theorem f107_48 : decode prog_1_method_34_code 48 = .ok (.iload_n 2, 1) := by decide +kernel
theorem f107_49 : decode prog_1_method_34_code 49 = .ok (.iload_n 3, 1) := by decide +kernel
theorem f107_50 : decode prog_1_method_34_code 50 = .ok (.invokevirtual 254, 3) := by decide +kernel
theorem f107_53 : decode prog_1_method_34_code 53 = .ok (.ireturn, 1) := by decide +kernel
theorem f109_0 : decode prog_2_method_4_code 0 = .ok (.aload_n 0, 1) := by decide +kernel
theorem f109_1 : decode prog_2_method_4_code 1 = .ok (.iload_n 1, 1) := by decide +kernel
theorem f109_2 : decode prog_2_method_4_code 2 = .ok (.putfield 25, 3) := by decide +kernel
theorem f109_5 : decode prog_2_method_4_code 5 = .ok (.aload_n 0, 1) := by decide +kernel
theorem f109_6 : decode prog_2_method_4_code 6 = .ok (.iload_n 2, 1) := by decide +kernel
theorem f109_7 : decode prog_2_method_4_code 7 = .ok (.putfield 28, 3) := by decide +kernel
theorem f109_10 : decode prog_2_method_4_code 10 = .ok (.aload_n 0, 1) := by decide +kernel
theorem f109_11 : decode prog_2_method_4_code 11 = .ok (.iload_n 3, 1) := by decide +kernel
theorem f109_12 : decode prog_2_method_4_code 12 = .ok (.putfield 31, 3) := by decide +kernel
theorem f109_15 : decode prog_2_method_4_code 15 = .ok (.aload_n 0, 1) := by decide +kernel
theorem f109_16 : decode prog_2_method_4_code 16 = .ok (.aload_n 0, 1) := by decide +kernel
theorem f109_17 : decode prog_2_method_4_code 17 = .ok (.getfield 28, 3) := by decide +kernel
theorem f109_20 : decode prog_2_method_4_code 20 = .ok (.iload 4, 2) := by decide +kernel
theorem f109_22 : decode prog_2_method_4_code 22 = .ok (.iload 5, 2) := by decide +kernel
theorem f109_24 : decode prog_2_method_4_code 24 = .ok (.iconst 0, 1) := by decide +kernel
theorem f109_25 : decode prog_2_method_4_code 25 = .ok (.invokevirtual 34, 3) := by decide +kernel
theorem f109_28 : decode prog_2_method_4_code 28 = .ok (.ireturn, 1) := by decide +kernel
theorem f110_0 : decode prog_2_method_5_code 0 = .ok (.iload 4, 2) := by decide +kernel
theorem f110_2 : decode prog_2_method_5_code 2 = .ok (.bipush 20, 2) := by decide +kernel
theorem f110_4 : decode prog_2_method_5_code 4 = .ok (.if_icmp .lt 5, 3) := by decide +kernel
theorem f110_7 : decode prog_2_method_5_code 7 = .ok (.iconst 0, 1) := by decide +kernel
theorem f110_8 : decode prog_2_method_5_code 8 = .ok (.ireturn, 1) := by decide +kernel
theorem f110_9 : decode prog_2_method_5_code 9 = .ok (.iload_n 1, 1) := by decide +kernel
theorem f110_10 : decode prog_2_method_5_code 10 = .ok (.iload_n 2, 1) := by decide +kernel
theorem f110_11 : decode prog_2_method_5_code 11 = .ok (.invokestatic 38, 3) := by decide +kernel
theorem f110_14 : decode prog_2_method_5_code 14 = .ok (.istore 5, 2) := by decide +kernel
theorem f110_16 : decode prog_2_method_5_code 16 = .ok (.aload_n 0, 1) := by decide +kernel
theorem f110_17 : decode prog_2_method_5_code 17 = .ok (.iload 5, 2) := by decide +kernel
theorem f110_19 : decode prog_2_method_5_code 19 = .ok (.invokevirtual 41, 3) := by decide +kernel
theorem f110_22 : decode prog_2_method_5_code 22 = .ok (.iload 4, 2) := by decide +kernel
theorem f110_24 : decode prog_2_method_5_code 24 = .ok (.iconst 1, 1) := by decide +kernel
theorem f110_25 : decode prog_2_method_5_code 25 = .ok (.iadd, 1) := by decide +kernel
theorem f110_26 : decode prog_2_method_5_code 26 = .ok (.istore 6, 2) := by decide +kernel
theorem f110_28 : decode prog_2_method_5_code 28 = .ok (.iload 5, 2) := by decide +kernel
theorem f110_30 : decode prog_2_method_5_code 30 = .ok (.lookupswitch 298 #[(10, 98), (11, 105), (12, 123), (20, 138), (30, 155), (40, 171), (50, 198), (51, 213), (60, 229), (70, 248), (71, 278)], 98) := by decide +kernel
theorem f110_128 : decode prog_2_method_5_code 128 = .ok (.iload_n 3, 1) := by decide +kernel
theorem f110_129 : decode prog_2_method_5_code 129 = .ok (.aload_n 0, 1) := by decide +kernel
theorem f110_130 : decode prog_2_method_5_code 130 = .ok (.getfield 25, 3) := by decide +kernel
theorem f110_133 : decode prog_2_method_5_code 133 = .ok (.iadd, 1) := by decide +kernel
theorem f110_134 : decode prog_2_method_5_code 134 = .ok (.ireturn, 1) := by decide +kernel
theorem f110_135 : decode prog_2_method_5_code 135 = .ok (.aload_n 0, 1) := by decide +kernel
theorem f110_136 : decode prog_2_method_5_code 136 = .ok (.aload_n 0, 1) := by decide +kernel
theorem f110_137 : decode prog_2_method_5_code 137 = .ok (.getfield 28, 3) := by decide +kernel
theorem f110_140 : decode prog_2_method_5_code 140 = .ok (.iconst 0, 1) := by decide +kernel
theorem f110_141 : decode prog_2_method_5_code 141 = .ok (.iload_n 3, 1) := by decide +kernel
theorem f110_142 : decode prog_2_method_5_code 142 = .ok (.iload 6, 2) := by decide +kernel
theorem f110_144 : decode prog_2_method_5_code 144 = .ok (.invokevirtual 34, 3) := by decide +kernel
theorem f110_147 : decode prog_2_method_5_code 147 = .ok (.aload_n 0, 1) := by decide +kernel
theorem f110_148 : decode prog_2_method_5_code 148 = .ok (.getfield 31, 3) := by decide +kernel
theorem f110_151 : decode prog_2_method_5_code 151 = .ok (.isub, 1) := by decide +kernel
theorem f110_152 : decode prog_2_method_5_code 152 = .ok (.ireturn, 1) := by decide +kernel
theorem f110_153 : decode prog_2_method_5_code 153 = .ok (.aload_n 0, 1) := by decide +kernel
theorem f110_154 : decode prog_2_method_5_code 154 = .ok (.aload_n 0, 1) := by decide +kernel
theorem f110_155 : decode prog_2_method_5_code 155 = .ok (.getfield 28, 3) := by decide +kernel
theorem f110_158 : decode prog_2_method_5_code 158 = .ok (.iconst 1, 1) := by decide +kernel
theorem f110_159 : decode prog_2_method_5_code 159 = .ok (.iload_n 3, 1) := by decide +kernel
theorem f110_160 : decode prog_2_method_5_code 160 = .ok (.iload 6, 2) := by decide +kernel
theorem f110_162 : decode prog_2_method_5_code 162 = .ok (.invokevirtual 34, 3) := by decide +kernel
theorem f110_165 : decode prog_2_method_5_code 165 = .ok (.iconst 2, 1) := by decide +kernel
theorem f110_166 : decode prog_2_method_5_code 166 = .ok (.imul, 1) := by decide +kernel
theorem f110_167 : decode prog_2_method_5_code 167 = .ok (.ireturn, 1) := by decide +kernel
theorem f110_168 : decode prog_2_method_5_code 168 = .ok (.aload_n 0, 1) := by decide +kernel
theorem f110_169 : decode prog_2_method_5_code 169 = .ok (.getstatic 45, 3) := by decide +kernel
theorem f110_172 : decode prog_2_method_5_code 172 = .ok (.iconst 1, 1) := by decide +kernel
theorem f110_173 : decode prog_2_method_5_code 173 = .ok (.iaload, 1) := by decide +kernel
theorem f110_174 : decode prog_2_method_5_code 174 = .ok (.iconst 1, 1) := by decide +kernel
theorem f110_175 : decode prog_2_method_5_code 175 = .ok (.iload_n 3, 1) := by decide +kernel
theorem f110_176 : decode prog_2_method_5_code 176 = .ok (.iload 6, 2) := by decide +kernel
theorem f110_178 : decode prog_2_method_5_code 178 = .ok (.invokevirtual 34, 3) := by decide +kernel
theorem f110_181 : decode prog_2_method_5_code 181 = .ok (.bipush 6, 2) := by decide +kernel
theorem f110_183 : decode prog_2_method_5_code 183 = .ok (.ixor, 1) := by decide +kernel
theorem f110_184 : decode prog_2_method_5_code 184 = .ok (.ireturn, 1) := by decide +kernel
theorem f110_185 : decode prog_2_method_5_code 185 = .ok (.aload_n 0, 1) := by decide +kernel
theorem f110_186 : decode prog_2_method_5_code 186 = .ok (.getstatic 45, 3) := by decide +kernel
theorem f110_189 : decode prog_2_method_5_code 189 = .ok (.iconst 2, 1) := by decide +kernel
theorem f110_190 : decode prog_2_method_5_code 190 = .ok (.iaload, 1) := by decide +kernel
theorem f110_191 : decode prog_2_method_5_code 191 = .ok (.iconst 0, 1) := by decide +kernel
theorem f110_192 : decode prog_2_method_5_code 192 = .ok (.iload_n 3, 1) := by decide +kernel
theorem f110_193 : decode prog_2_method_5_code 193 = .ok (.iconst 3, 1) := by decide +kernel
theorem f110_194 : decode prog_2_method_5_code 194 = .ok (.imul, 1) := by decide +kernel
theorem f110_195 : decode prog_2_method_5_code 195 = .ok (.iload 6, 2) := by decide +kernel
theorem f110_197 : decode prog_2_method_5_code 197 = .ok (.invokevirtual 34, 3) := by decide +kernel
theorem f110_200 : decode prog_2_method_5_code 200 = .ok (.ireturn, 1) := by decide +kernel
theorem f110_201 : decode prog_2_method_5_code 201 = .ok (.aload_n 0, 1) := by decide +kernel
theorem f110_202 : decode prog_2_method_5_code 202 = .ok (.getstatic 45, 3) := by decide +kernel
theorem f110_205 : decode prog_2_method_5_code 205 = .ok (.iconst 3, 1) := by decide +kernel
theorem f110_206 : decode prog_2_method_5_code 206 = .ok (.iaload, 1) := by decide +kernel
theorem f110_207 : decode prog_2_method_5_code 207 = .ok (.iconst 2, 1) := by decide +kernel
theorem f110_208 : decode prog_2_method_5_code 208 = .ok (.iload_n 3, 1) := by decide +kernel
theorem f110_209 : decode prog_2_method_5_code 209 = .ok (.iload 6, 2) := by decide +kernel
theorem f110_211 : decode prog_2_method_5_code 211 = .ok (.invokevirtual 34, 3) := by decide +kernel
theorem f110_214 : decode prog_2_method_5_code 214 = .ok (.aload_n 0, 1) := by decide +kernel
theorem f110_215 : decode prog_2_method_5_code 215 = .ok (.aload_n 0, 1) := by decide +kernel
theorem f110_216 : decode prog_2_method_5_code 216 = .ok (.getfield 28, 3) := by decide +kernel
theorem f110_219 : decode prog_2_method_5_code 219 = .ok (.iconst 1, 1) := by decide +kernel
theorem f110_220 : decode prog_2_method_5_code 220 = .ok (.iconst 1, 1) := by decide +kernel
theorem f110_221 : decode prog_2_method_5_code 221 = .ok (.iload 6, 2) := by decide +kernel
theorem f110_223 : decode prog_2_method_5_code 223 = .ok (.invokevirtual 34, 3) := by decide +kernel
theorem f110_226 : decode prog_2_method_5_code 226 = .ok (.iadd, 1) := by decide +kernel
theorem f110_227 : decode prog_2_method_5_code 227 = .ok (.ireturn, 1) := by decide +kernel
theorem f110_228 : decode prog_2_method_5_code 228 = .ok (.aload_n 0, 1) := by decide +kernel
theorem f110_229 : decode prog_2_method_5_code 229 = .ok (.getstatic 45, 3) := by decide +kernel
theorem f110_232 : decode prog_2_method_5_code 232 = .ok (.iconst 4, 1) := by decide +kernel
theorem f110_233 : decode prog_2_method_5_code 233 = .ok (.iaload, 1) := by decide +kernel
theorem f110_234 : decode prog_2_method_5_code 234 = .ok (.iconst 0, 1) := by decide +kernel
theorem f110_235 : decode prog_2_method_5_code 235 = .ok (.iload_n 3, 1) := by decide +kernel
theorem f110_236 : decode prog_2_method_5_code 236 = .ok (.iload 6, 2) := by decide +kernel
theorem f110_238 : decode prog_2_method_5_code 238 = .ok (.invokevirtual 34, 3) := by decide +kernel
theorem f110_241 : decode prog_2_method_5_code 241 = .ok (.ineg, 1) := by decide +kernel
theorem f110_242 : decode prog_2_method_5_code 242 = .ok (.ireturn, 1) := by decide +kernel
theorem f110_243 : decode prog_2_method_5_code 243 = .ok (.aload_n 0, 1) := by decide +kernel
theorem f110_244 : decode prog_2_method_5_code 244 = .ok (.getstatic 45, 3) := by decide +kernel
theorem f110_247 : decode prog_2_method_5_code 247 = .ok (.iconst 4, 1) := by decide +kernel
theorem f110_248 : decode prog_2_method_5_code 248 = .ok (.iaload, 1) := by decide +kernel
theorem f110_249 : decode prog_2_method_5_code 249 = .ok (.iconst 1, 1) := by decide +kernel
theorem f110_250 : decode prog_2_method_5_code 250 = .ok (.iload_n 3, 1) := by decide +kernel
theorem f110_251 : decode prog_2_method_5_code 251 = .ok (.iconst 1, 1) := by decide +kernel
theorem f110_252 : decode prog_2_method_5_code 252 = .ok (.iadd, 1) := by decide +kernel
theorem f110_253 : decode prog_2_method_5_code 253 = .ok (.iload 6, 2) := by decide +kernel
theorem f110_255 : decode prog_2_method_5_code 255 = .ok (.invokevirtual 34, 3) := by decide +kernel
theorem f110_258 : decode prog_2_method_5_code 258 = .ok (.ireturn, 1) := by decide +kernel
theorem f110_259 : decode prog_2_method_5_code 259 = .ok (.aload_n 0, 1) := by decide +kernel
theorem f110_260 : decode prog_2_method_5_code 260 = .ok (.getstatic 45, 3) := by decide +kernel
theorem f110_263 : decode prog_2_method_5_code 263 = .ok (.iconst 5, 1) := by decide +kernel
theorem f110_264 : decode prog_2_method_5_code 264 = .ok (.iaload, 1) := by decide +kernel
theorem f110_265 : decode prog_2_method_5_code 265 = .ok (.iconst 2, 1) := by decide +kernel
theorem f110_266 : decode prog_2_method_5_code 266 = .ok (.iload_n 3, 1) := by decide +kernel
theorem f110_267 : decode prog_2_method_5_code 267 = .ok (.aload_n 0, 1) := by decide +kernel
theorem f110_268 : decode prog_2_method_5_code 268 = .ok (.getfield 25, 3) := by decide +kernel
theorem f110_271 : decode prog_2_method_5_code 271 = .ok (.isub, 1) := by decide +kernel
theorem f110_272 : decode prog_2_method_5_code 272 = .ok (.iload 6, 2) := by decide +kernel
theorem f110_274 : decode prog_2_method_5_code 274 = .ok (.invokevirtual 34, 3) := by decide +kernel
theorem f110_277 : decode prog_2_method_5_code 277 = .ok (.ireturn, 1) := by decide +kernel
theorem f110_278 : decode prog_2_method_5_code 278 = .ok (.aload_n 0, 1) := by decide +kernel
theorem f110_279 : decode prog_2_method_5_code 279 = .ok (.getstatic 45, 3) := by decide +kernel
theorem f110_282 : decode prog_2_method_5_code 282 = .ok (.bipush 6, 2) := by decide +kernel
theorem f110_284 : decode prog_2_method_5_code 284 = .ok (.iaload, 1) := by decide +kernel
theorem f110_285 : decode prog_2_method_5_code 285 = .ok (.iconst 1, 1) := by decide +kernel
theorem f110_286 : decode prog_2_method_5_code 286 = .ok (.iload_n 3, 1) := by decide +kernel
theorem f110_287 : decode prog_2_method_5_code 287 = .ok (.iload 6, 2) := by decide +kernel
theorem f110_289 : decode prog_2_method_5_code 289 = .ok (.invokevirtual 34, 3) := by decide +kernel
theorem f110_292 : decode prog_2_method_5_code 292 = .ok (.aload_n 0, 1) := by decide +kernel
theorem f110_293 : decode prog_2_method_5_code 293 = .ok (.getstatic 45, 3) := by decide +kernel
theorem f110_296 : decode prog_2_method_5_code 296 = .ok (.bipush 6, 2) := by decide +kernel
theorem f110_298 : decode prog_2_method_5_code 298 = .ok (.iaload, 1) := by decide +kernel
theorem f110_299 : decode prog_2_method_5_code 299 = .ok (.iconst 0, 1) := by decide +kernel
theorem f110_300 : decode prog_2_method_5_code 300 = .ok (.iconst 2, 1) := by decide +kernel
theorem f110_301 : decode prog_2_method_5_code 301 = .ok (.iload 6, 2) := by decide +kernel
theorem f110_303 : decode prog_2_method_5_code 303 = .ok (.invokevirtual 34, 3) := by decide +kernel
theorem f110_306 : decode prog_2_method_5_code 306 = .ok (.iadd, 1) := by decide +kernel
theorem f110_307 : decode prog_2_method_5_code 307 = .ok (.ireturn, 1) := by decide +kernel
theorem f110_308 : decode prog_2_method_5_code 308 = .ok (.aload_n 0, 1) := by decide +kernel
theorem f110_309 : decode prog_2_method_5_code 309 = .ok (.getstatic 45, 3) := by decide +kernel
theorem f110_312 : decode prog_2_method_5_code 312 = .ok (.bipush 6, 2) := by decide +kernel
theorem f110_314 : decode prog_2_method_5_code 314 = .ok (.iaload, 1) := by decide +kernel
theorem f110_315 : decode prog_2_method_5_code 315 = .ok (.iconst 0, 1) := by decide +kernel
theorem f110_316 : decode prog_2_method_5_code 316 = .ok (.iload_n 3, 1) := by decide +kernel
theorem f110_317 : decode prog_2_method_5_code 317 = .ok (.iload 6, 2) := by decide +kernel
theorem f110_319 : decode prog_2_method_5_code 319 = .ok (.invokevirtual 34, 3) := by decide +kernel
theorem f110_322 : decode prog_2_method_5_code 322 = .ok (.aload_n 0, 1) := by decide +kernel
theorem f110_323 : decode prog_2_method_5_code 323 = .ok (.getfield 31, 3) := by decide +kernel
theorem f110_326 : decode prog_2_method_5_code 326 = .ok (.ixor, 1) := by decide +kernel
theorem f110_327 : decode prog_2_method_5_code 327 = .ok (.ireturn, 1) := by decide +kernel
theorem f110_328 : decode prog_2_method_5_code 328 = .ok (.iconst 0, 1) := by decide +kernel
theorem f110_329 : decode prog_2_method_5_code 329 = .ok (.ireturn, 1) := by decide +kernel
theorem f113_0 : decode prog_1_method_35_code 0 = .ok (.iload_n 1, 1) := by decide +kernel
theorem f113_1 : decode prog_1_method_35_code 1 = .ok (.aload_n 0, 1) := by decide +kernel
theorem f113_2 : decode prog_1_method_35_code 2 = .ok (.getfield 46, 3) := by decide +kernel
theorem f113_5 : decode prog_1_method_35_code 5 = .ok (.invokevirtual 258, 3) := by decide +kernel
theorem f113_8 : decode prog_1_method_35_code 8 = .ok (.invokestatic 59, 3) := by decide +kernel
theorem f113_11 : decode prog_1_method_35_code 11 = .ok (.ifCond .eq 15, 3) := by decide +kernel
theorem f113_14 : decode prog_1_method_35_code 14 = .ok (.aload_n 0, 1) := by decide +kernel
theorem f113_15 : decode prog_1_method_35_code 15 = .ok (.getfield 46, 3) := by decide +kernel
theorem f113_18 : decode prog_1_method_35_code 18 = .ok (.getfield 261, 3) := by decide +kernel
theorem f113_21 : decode prog_1_method_35_code 21 = .ok (.iload_n 1, 1) := by decide +kernel
theorem f113_22 : decode prog_1_method_35_code 22 = .ok (.iaload, 1) := by decide +kernel
theorem f113_23 : decode prog_1_method_35_code 23 = .ok (.goto 4, 3) := by decide +kernel
theorem f113_26 : decode prog_1_method_35_code 26 = .ok (.iconst (-1), 1) := by decide +kernel
theorem f113_27 : decode prog_1_method_35_code 27 = .ok (.ireturn, 1) := by decide +kernel
theorem f115_0 : decode prog_1_method_36_code 0 = .ok (.iload_n 2, 1) := by decide +kernel
theorem f115_1 : decode prog_1_method_36_code 1 = .ok (.bipush 7, 2) := by decide +kernel
theorem f115_3 : decode prog_1_method_36_code 3 = .ok (.invokestatic 59, 3) := by decide +kernel
theorem f115_6 : decode prog_1_method_36_code 6 = .ok (.ifCond .ne 6, 3) := by decide +kernel
theorem f115_9 : decode prog_1_method_36_code 9 = .ok (.bipush (-2), 2) := by decide +kernel
theorem f115_11 : decode prog_1_method_36_code 11 = .ok (.ireturn, 1) := by decide +kernel
theorem f115_12 : decode prog_1_method_36_code 12 = .ok (.aload_n 0, 1) := by decide +kernel
theorem f115_13 : decode prog_1_method_36_code 13 = .ok (.iload_n 1, 1) := by decide +kernel
theorem f115_14 : decode prog_1_method_36_code 14 = .ok (.invokevirtual 71, 3) := by decide +kernel
theorem f115_17 : decode prog_1_method_36_code 17 = .ok (.ifCond .ne 6, 3) := by decide +kernel
theorem f115_20 : decode prog_1_method_36_code 20 = .ok (.bipush (-11), 2) := by decide +kernel
theorem f115_22 : decode prog_1_method_36_code 22 = .ok (.ireturn, 1) := by decide +kernel
theorem f115_23 : decode prog_1_method_36_code 23 = .ok (.aload_n 0, 1) := by decide +kernel
theorem f115_24 : decode prog_1_method_36_code 24 = .ok (.getfield 14, 3) := by decide +kernel
theorem f115_27 : decode prog_1_method_36_code 27 = .ok (.getfield 75, 3) := by decide +kernel
theorem f115_30 : decode prog_1_method_36_code 30 = .ok (.iload_n 1, 1) := by decide +kernel
theorem f115_31 : decode prog_1_method_36_code 31 = .ok (.iaload, 1) := by decide +kernel
theorem f115_32 : decode prog_1_method_36_code 32 = .ok (.istore_n 3, 1) := by decide +kernel
theorem f115_33 : decode prog_1_method_36_code 33 = .ok (.iload_n 3, 1) := by decide +kernel
theorem f115_34 : decode prog_1_method_36_code 34 = .ok (.iload_n 2, 1) := by decide +kernel
theorem f115_35 : decode prog_1_method_36_code 35 = .ok (.invokestatic 264, 3) := by decide +kernel
theorem f115_38 : decode prog_1_method_36_code 38 = .ok (.ifCond .eq 7, 3) := by decide +kernel
theorem f115_41 : decode prog_1_method_36_code 41 = .ok (.iload_n 3, 1) := by decide +kernel
theorem f115_42 : decode prog_1_method_36_code 42 = .ok (.goto 5, 3) := by decide +kernel
theorem f115_45 : decode prog_1_method_36_code 45 = .ok (.bipush (-12), 2) := by decide +kernel
theorem f115_47 : decode prog_1_method_36_code 47 = .ok (.ireturn, 1) := by decide +kernel
theorem f117_0 : decode prog_1_method_37_code 0 = .ok (.iload_n 1, 1) := by decide +kernel
theorem f117_1 : decode prog_1_method_37_code 1 = .ok (.tableswitch 120 0 7 #[47, 55, 60, 71, 82, 93, 101, 109], 47) := by decide +kernel
theorem f117_48 : decode prog_1_method_37_code 48 = .ok (.aload_n 0, 1) := by decide +kernel
theorem f117_49 : decode prog_1_method_37_code 49 = .ok (.getfield 14, 3) := by decide +kernel
theorem f117_52 : decode prog_1_method_37_code 52 = .ok (.getfield 63, 3) := by decide +kernel
theorem f117_55 : decode prog_1_method_37_code 55 = .ok (.ireturn, 1) := by decide +kernel
theorem f117_56 : decode prog_1_method_37_code 56 = .ok (.aload_n 0, 1) := by decide +kernel
theorem f117_57 : decode prog_1_method_37_code 57 = .ok (.getfield 155, 3) := by decide +kernel
theorem f117_60 : decode prog_1_method_37_code 60 = .ok (.ireturn, 1) := by decide +kernel
theorem f117_61 : decode prog_1_method_37_code 61 = .ok (.aload_n 0, 1) := by decide +kernel
theorem f117_62 : decode prog_1_method_37_code 62 = .ok (.getfield 14, 3) := by decide +kernel
theorem f117_65 : decode prog_1_method_37_code 65 = .ok (.getfield 203, 3) := by decide +kernel
theorem f117_68 : decode prog_1_method_37_code 68 = .ok (.getfield 178, 3) := by decide +kernel
theorem f117_71 : decode prog_1_method_37_code 71 = .ok (.ireturn, 1) := by decide +kernel
theorem f117_72 : decode prog_1_method_37_code 72 = .ok (.aload_n 0, 1) := by decide +kernel
theorem f117_73 : decode prog_1_method_37_code 73 = .ok (.getfield 14, 3) := by decide +kernel
theorem f117_76 : decode prog_1_method_37_code 76 = .ok (.getfield 218, 3) := by decide +kernel
theorem f117_79 : decode prog_1_method_37_code 79 = .ok (.getfield 178, 3) := by decide +kernel
theorem f117_82 : decode prog_1_method_37_code 82 = .ok (.ireturn, 1) := by decide +kernel
theorem f117_83 : decode prog_1_method_37_code 83 = .ok (.aload_n 0, 1) := by decide +kernel
theorem f117_84 : decode prog_1_method_37_code 84 = .ok (.getfield 14, 3) := by decide +kernel
theorem f117_87 : decode prog_1_method_37_code 87 = .ok (.getfield 224, 3) := by decide +kernel
theorem f117_90 : decode prog_1_method_37_code 90 = .ok (.getfield 178, 3) := by decide +kernel
theorem f117_93 : decode prog_1_method_37_code 93 = .ok (.ireturn, 1) := by decide +kernel
theorem f117_94 : decode prog_1_method_37_code 94 = .ok (.aload_n 0, 1) := by decide +kernel
theorem f117_95 : decode prog_1_method_37_code 95 = .ok (.getfield 27, 3) := by decide +kernel
theorem f117_98 : decode prog_1_method_37_code 98 = .ok (.getfield 267, 3) := by decide +kernel
theorem f117_101 : decode prog_1_method_37_code 101 = .ok (.ireturn, 1) := by decide +kernel
theorem f117_102 : decode prog_1_method_37_code 102 = .ok (.aload_n 0, 1) := by decide +kernel
theorem f117_103 : decode prog_1_method_37_code 103 = .ok (.getfield 46, 3) := by decide +kernel
theorem f117_106 : decode prog_1_method_37_code 106 = .ok (.getfield 268, 3) := by decide +kernel
theorem f117_109 : decode prog_1_method_37_code 109 = .ok (.ireturn, 1) := by decide +kernel
theorem f117_110 : decode prog_1_method_37_code 110 = .ok (.aload_n 0, 1) := by decide +kernel
theorem f117_111 : decode prog_1_method_37_code 111 = .ok (.getfield 14, 3) := by decide +kernel
theorem f117_114 : decode prog_1_method_37_code 114 = .ok (.getfield 131, 3) := by decide +kernel
theorem f117_117 : decode prog_1_method_37_code 117 = .ok (.getfield 178, 3) := by decide +kernel
theorem f117_120 : decode prog_1_method_37_code 120 = .ok (.ireturn, 1) := by decide +kernel
theorem f117_121 : decode prog_1_method_37_code 121 = .ok (.bipush (-2), 2) := by decide +kernel
theorem f117_123 : decode prog_1_method_37_code 123 = .ok (.ireturn, 1) := by decide +kernel
theorem f118_0 : decode prog_1_method_38_code 0 = .ok (.iload_n 1, 1) := by decide +kernel
theorem f118_1 : decode prog_1_method_38_code 1 = .ok (.bipush 6, 2) := by decide +kernel
theorem f118_3 : decode prog_1_method_38_code 3 = .ok (.invokestatic 59, 3) := by decide +kernel
theorem f118_6 : decode prog_1_method_38_code 6 = .ok (.ifCond .ne 5, 3) := by decide +kernel
theorem f118_9 : decode prog_1_method_38_code 9 = .ok (.iconst (-1), 1) := by decide +kernel
theorem f118_10 : decode prog_1_method_38_code 10 = .ok (.ireturn, 1) := by decide +kernel
theorem f118_11 : decode prog_1_method_38_code 11 = .ok (.iload_n 2, 1) := by decide +kernel
theorem f118_12 : decode prog_1_method_38_code 12 = .ok (.iconst (-1), 1) := by decide +kernel
theorem f118_13 : decode prog_1_method_38_code 13 = .ok (.if_icmp .ne 13, 3) := by decide +kernel
theorem f118_16 : decode prog_1_method_38_code 16 = .ok (.aload_n 0, 1) := by decide +kernel
theorem f118_17 : decode prog_1_method_38_code 17 = .ok (.getfield 39, 3) := by decide +kernel
theorem f118_20 : decode prog_1_method_38_code 20 = .ok (.iload_n 1, 1) := by decide +kernel
theorem f118_21 : decode prog_1_method_38_code 21 = .ok (.aaload, 1) := by decide +kernel
theorem f118_22 : decode prog_1_method_38_code 22 = .ok (.invokevirtual 271, 3) := by decide +kernel
theorem f118_25 : decode prog_1_method_38_code 25 = .ok (.ireturn, 1) := by decide +kernel
theorem f118_26 : decode prog_1_method_38_code 26 = .ok (.iload_n 2, 1) := by decide +kernel
theorem f118_27 : decode prog_1_method_38_code 27 = .ok (.iconst 5, 1) := by decide +kernel
theorem f118_28 : decode prog_1_method_38_code 28 = .ok (.invokestatic 59, 3) := by decide +kernel
theorem f118_31 : decode prog_1_method_38_code 31 = .ok (.ifCond .eq 9, 3) := by decide +kernel
theorem f118_34 : decode prog_1_method_38_code 34 = .ok (.iload_n 3, 1) := by decide +kernel
theorem f118_35 : decode prog_1_method_38_code 35 = .ok (.bipush 60, 2) := by decide +kernel
theorem f118_37 : decode prog_1_method_38_code 37 = .ok (.if_icmp .le 6, 3) := by decide +kernel
theorem f118_40 : decode prog_1_method_38_code 40 = .ok (.bipush (-2), 2) := by decide +kernel
theorem f118_42 : decode prog_1_method_38_code 42 = .ok (.ireturn, 1) := by decide +kernel
theorem f118_43 : decode prog_1_method_38_code 43 = .ok (.iload_n 3, 1) := by decide +kernel
theorem f118_44 : decode prog_1_method_38_code 44 = .ok (.ifCond .ge 8, 3) := by decide +kernel
theorem f118_47 : decode prog_1_method_38_code 47 = .ok (.bipush (-14), 2) := by decide +kernel
theorem f118_49 : decode prog_1_method_38_code 49 = .ok (.goto 14, 3) := by decide +kernel
theorem f118_52 : decode prog_1_method_38_code 52 = .ok (.aload_n 0, 1) := by decide +kernel
theorem f118_53 : decode prog_1_method_38_code 53 = .ok (.getfield 39, 3) := by decide +kernel
theorem f118_56 : decode prog_1_method_38_code 56 = .ok (.iload_n 1, 1) := by decide +kernel
theorem f118_57 : decode prog_1_method_38_code 57 = .ok (.aaload, 1) := by decide +kernel
theorem f118_58 : decode prog_1_method_38_code 58 = .ok (.iload_n 2, 1) := by decide +kernel
theorem f118_59 : decode prog_1_method_38_code 59 = .ok (.iload_n 3, 1) := by decide +kernel
theorem f118_60 : decode prog_1_method_38_code 60 = .ok (.invokevirtual 274, 3) := by decide +kernel
theorem f118_63 : decode prog_1_method_38_code 63 = .ok (.ireturn, 1) := by decide +kernel
theorem f121_0 : decode prog_1_method_39_code 0 = .ok (.iload_n 1, 1) := by decide +kernel
theorem f121_1 : decode prog_1_method_39_code 1 = .ok (.bipush 6, 2) := by decide +kernel
theorem f121_3 : decode prog_1_method_39_code 3 = .ok (.invokestatic 59, 3) := by decide +kernel
theorem f121_6 : decode prog_1_method_39_code 6 = .ok (.ifCond .ne 5, 3) := by decide +kernel
theorem f121_9 : decode prog_1_method_39_code 9 = .ok (.iconst (-1), 1) := by decide +kernel
theorem f121_10 : decode prog_1_method_39_code 10 = .ok (.ireturn, 1) := by decide +kernel
theorem f121_11 : decode prog_1_method_39_code 11 = .ok (.aload_n 0, 1) := by decide +kernel
theorem f121_12 : decode prog_1_method_39_code 12 = .ok (.getfield 39, 3) := by decide +kernel
theorem f121_15 : decode prog_1_method_39_code 15 = .ok (.iload_n 1, 1) := by decide +kernel
theorem f121_16 : decode prog_1_method_39_code 16 = .ok (.aaload, 1) := by decide +kernel
theorem f121_17 : decode prog_1_method_39_code 17 = .ok (.invokevirtual 227, 3) := by decide +kernel
theorem f121_20 : decode prog_1_method_39_code 20 = .ok (.ifCond .ne 6, 3) := by decide +kernel
theorem f121_23 : decode prog_1_method_39_code 23 = .ok (.bipush (-11), 2) := by decide +kernel
theorem f121_25 : decode prog_1_method_39_code 25 = .ok (.ireturn, 1) := by decide +kernel
theorem f121_26 : decode prog_1_method_39_code 26 = .ok (.aload_n 0, 1) := by decide +kernel
theorem f121_27 : decode prog_1_method_39_code 27 = .ok (.getfield 39, 3) := by decide +kernel
theorem f121_30 : decode prog_1_method_39_code 30 = .ok (.iload_n 1, 1) := by decide +kernel
theorem f121_31 : decode prog_1_method_39_code 31 = .ok (.aaload, 1) := by decide +kernel
theorem f121_32 : decode prog_1_method_39_code 32 = .ok (.iload_n 2, 1) := by decide +kernel
theorem f121_33 : decode prog_1_method_39_code 33 = .ok (.invokevirtual 233, 3) := by decide +kernel
theorem f121_36 : decode prog_1_method_39_code 36 = .ok (.ifCond .eq 17, 3) := by decide +kernel
theorem f121_39 : decode prog_1_method_39_code 39 = .ok (.aload_n 0, 1) := by decide +kernel
theorem f121_40 : decode prog_1_method_39_code 40 = .ok (.getfield 39, 3) := by decide +kernel
theorem f121_43 : decode prog_1_method_39_code 43 = .ok (.iload_n 1, 1) := by decide +kernel
theorem f121_44 : decode prog_1_method_39_code 44 = .ok (.aaload, 1) := by decide +kernel
theorem f121_45 : decode prog_1_method_39_code 45 = .ok (.iload_n 2, 1) := by decide +kernel
theorem f121_46 : decode prog_1_method_39_code 46 = .ok (.lload_n 3, 1) := by decide +kernel
theorem f121_47 : decode prog_1_method_39_code 47 = .ok (.invokevirtual 277, 3) := by decide +kernel
theorem f121_50 : decode prog_1_method_39_code 50 = .ok (.goto 5, 3) := by decide +kernel
theorem f121_53 : decode prog_1_method_39_code 53 = .ok (.bipush (-13), 2) := by decide +kernel
theorem f121_55 : decode prog_1_method_39_code 55 = .ok (.ireturn, 1) := by decide +kernel
theorem f124_0 : decode prog_1_method_40_code 0 = .ok (.iload_n 1, 1) := by decide +kernel
theorem f124_1 : decode prog_1_method_40_code 1 = .ok (.bipush 6, 2) := by decide +kernel
theorem f124_3 : decode prog_1_method_40_code 3 = .ok (.invokestatic 59, 3) := by decide +kernel
theorem f124_6 : decode prog_1_method_40_code 6 = .ok (.ifCond .eq 16, 3) := by decide +kernel
theorem f124_9 : decode prog_1_method_40_code 9 = .ok (.aload_n 0, 1) := by decide +kernel
theorem f124_10 : decode prog_1_method_40_code 10 = .ok (.getfield 39, 3) := by decide +kernel
theorem f124_13 : decode prog_1_method_40_code 13 = .ok (.iload_n 1, 1) := by decide +kernel
theorem f124_14 : decode prog_1_method_40_code 14 = .ok (.aaload, 1) := by decide +kernel
theorem f124_15 : decode prog_1_method_40_code 15 = .ok (.iload_n 2, 1) := by decide +kernel
theorem f124_16 : decode prog_1_method_40_code 16 = .ok (.invokevirtual 233, 3) := by decide +kernel
theorem f124_19 : decode prog_1_method_40_code 19 = .ok (.ifCond .ne 7, 3) := by decide +kernel
theorem f124_22 : decode prog_1_method_40_code 22 = .ok (.ldc2_w 206, 3) := by decide +kernel
theorem f124_25 : decode prog_1_method_40_code 25 = .ok (.lreturn, 1) := by decide +kernel
theorem f124_26 : decode prog_1_method_40_code 26 = .ok (.aload_n 0, 1) := by decide +kernel
theorem f124_27 : decode prog_1_method_40_code 27 = .ok (.getfield 39, 3) := by decide +kernel
theorem f124_30 : decode prog_1_method_40_code 30 = .ok (.iload_n 1, 1) := by decide +kernel
theorem f124_31 : decode prog_1_method_40_code 31 = .ok (.aaload, 1) := by decide +kernel
theorem f124_32 : decode prog_1_method_40_code 32 = .ok (.getfield 243, 3) := by decide +kernel
theorem f124_35 : decode prog_1_method_40_code 35 = .ok (.iload_n 2, 1) := by decide +kernel
theorem f124_36 : decode prog_1_method_40_code 36 = .ok (.laload, 1) := by decide +kernel
theorem f124_37 : decode prog_1_method_40_code 37 = .ok (.lreturn, 1) := by decide +kernel
theorem f125_0 : decode prog_1_method_41_code 0 = .ok (.iload_n 1, 1) := by decide +kernel
theorem f125_1 : decode prog_1_method_41_code 1 = .ok (.bipush 6, 2) := by decide +kernel
theorem f125_3 : decode prog_1_method_41_code 3 = .ok (.invokestatic 59, 3) := by decide +kernel
theorem f125_6 : decode prog_1_method_41_code 6 = .ok (.ifCond .eq 12, 3) := by decide +kernel
theorem f125_9 : decode prog_1_method_41_code 9 = .ok (.iload_n 3, 1) := by decide +kernel
theorem f125_10 : decode prog_1_method_41_code 10 = .ok (.bipush 6, 2) := by decide +kernel
theorem f125_12 : decode prog_1_method_41_code 12 = .ok (.invokestatic 59, 3) := by decide +kernel
theorem f125_15 : decode prog_1_method_41_code 15 = .ok (.ifCond .ne 5, 3) := by decide +kernel
theorem f125_18 : decode prog_1_method_41_code 18 = .ok (.iconst (-1), 1) := by decide +kernel
theorem f125_19 : decode prog_1_method_41_code 19 = .ok (.ireturn, 1) := by decide +kernel
theorem f125_20 : decode prog_1_method_41_code 20 = .ok (.aload_n 0, 1) := by decide +kernel
theorem f125_21 : decode prog_1_method_41_code 21 = .ok (.getfield 39, 3) := by decide +kernel
theorem f125_24 : decode prog_1_method_41_code 24 = .ok (.iload_n 1, 1) := by decide +kernel
theorem f125_25 : decode prog_1_method_41_code 25 = .ok (.aaload, 1) := by decide +kernel
theorem f125_26 : decode prog_1_method_41_code 26 = .ok (.astore 6, 2) := by decide +kernel
theorem f125_28 : decode prog_1_method_41_code 28 = .ok (.aload_n 0, 1) := by decide +kernel
theorem f125_29 : decode prog_1_method_41_code 29 = .ok (.getfield 39, 3) := by decide +kernel
theorem f125_32 : decode prog_1_method_41_code 32 = .ok (.iload_n 3, 1) := by decide +kernel
theorem f125_33 : decode prog_1_method_41_code 33 = .ok (.aaload, 1) := by decide +kernel
theorem f125_34 : decode prog_1_method_41_code 34 = .ok (.astore 7, 2) := by decide +kernel
theorem f125_36 : decode prog_1_method_41_code 36 = .ok (.aload 6, 2) := by decide +kernel
theorem f125_38 : decode prog_1_method_41_code 38 = .ok (.invokevirtual 227, 3) := by decide +kernel
theorem f125_41 : decode prog_1_method_41_code 41 = .ok (.ifCond .eq 11, 3) := by decide +kernel
theorem f125_44 : decode prog_1_method_41_code 44 = .ok (.aload 7, 2) := by decide +kernel
theorem f125_46 : decode prog_1_method_41_code 46 = .ok (.invokevirtual 227, 3) := by decide +kernel
theorem f125_49 : decode prog_1_method_41_code 49 = .ok (.ifCond .ne 6, 3) := by decide +kernel
theorem f125_52 : decode prog_1_method_41_code 52 = .ok (.bipush (-11), 2) := by decide +kernel
theorem f125_54 : decode prog_1_method_41_code 54 = .ok (.ireturn, 1) := by decide +kernel
theorem f125_55 : decode prog_1_method_41_code 55 = .ok (.aload 6, 2) := by decide +kernel
theorem f125_57 : decode prog_1_method_41_code 57 = .ok (.getfield 230, 3) := by decide +kernel
theorem f125_60 : decode prog_1_method_41_code 60 = .ok (.aload 7, 2) := by decide +kernel
theorem f125_62 : decode prog_1_method_41_code 62 = .ok (.getfield 230, 3) := by decide +kernel
theorem f125_65 : decode prog_1_method_41_code 65 = .ok (.if_icmp .eq 6, 3) := by decide +kernel
theorem f125_68 : decode prog_1_method_41_code 68 = .ok (.bipush (-12), 2) := by decide +kernel
theorem f125_70 : decode prog_1_method_41_code 70 = .ok (.ireturn, 1) := by decide +kernel
theorem f125_71 : decode prog_1_method_41_code 71 = .ok (.aload 6, 2) := by decide +kernel
theorem f125_73 : decode prog_1_method_41_code 73 = .ok (.iload_n 2, 1) := by decide +kernel
theorem f125_74 : decode prog_1_method_41_code 74 = .ok (.iload 5, 2) := by decide +kernel
theorem f125_76 : decode prog_1_method_41_code 76 = .ok (.invokevirtual 281, 3) := by decide +kernel
theorem f125_79 : decode prog_1_method_41_code 79 = .ok (.ifCond .eq 15, 3) := by decide +kernel
theorem f125_82 : decode prog_1_method_41_code 82 = .ok (.aload 7, 2) := by decide +kernel
theorem f125_84 : decode prog_1_method_41_code 84 = .ok (.iload 4, 2) := by decide +kernel
theorem f125_86 : decode prog_1_method_41_code 86 = .ok (.iload 5, 2) := by decide +kernel
theorem f125_88 : decode prog_1_method_41_code 88 = .ok (.invokevirtual 281, 3) := by decide +kernel
theorem f125_91 : decode prog_1_method_41_code 91 = .ok (.ifCond .ne 6, 3) := by decide +kernel
theorem f125_94 : decode prog_1_method_41_code 94 = .ok (.bipush (-13), 2) := by decide +kernel
theorem f125_96 : decode prog_1_method_41_code 96 = .ok (.ireturn, 1) := by decide +kernel
theorem f125_97 : decode prog_1_method_41_code 97 = .ok (.aload 6, 2) := by decide +kernel
theorem f125_99 : decode prog_1_method_41_code 99 = .ok (.getfield 243, 3) := by decide +kernel
theorem f125_102 : decode prog_1_method_41_code 102 = .ok (.iload_n 2, 1) := by decide +kernel
theorem f125_103 : decode prog_1_method_41_code 103 = .ok (.aload 7, 2) := by decide +kernel
theorem f125_105 : decode prog_1_method_41_code 105 = .ok (.getfield 243, 3) := by decide +kernel
theorem f125_108 : decode prog_1_method_41_code 108 = .ok (.iload 4, 2) := by decide +kernel
theorem f125_110 : decode prog_1_method_41_code 110 = .ok (.iload 5, 2) := by decide +kernel
theorem f125_112 : decode prog_1_method_41_code 112 = .ok (.invokestatic 284, 3) := by decide +kernel
theorem f125_115 : decode prog_1_method_41_code 115 = .ok (.iload 5, 2) := by decide +kernel
theorem f125_117 : decode prog_1_method_41_code 117 = .ok (.ireturn, 1) := by decide +kernel
section YD
variable {zl : Nat} {nl : Option Nat} {h : Hp}
/-- HatterTunes$House.heardIn(I)I -/
theorem E24 {d : Nat} {K : Int → Hp → Prop} (w : yWF zl nl h) {a : Nat} (ha : yHs a) {x0 : Int} (hd : 1 ≤ d) (k : (((zV h ((a + 7)) 1) ≠ 0 → (((zV h ((a + 7)) 1) ≤ 6 → yI (d - 1) 25 [vR (some a)] h (fun x h' => ZW d prog_4_method_15_code 2 27 [some (vR (some a)), some (vI x0), some (vI (zV h ((a + 7)) 1)), none, none, none, none] [vI x] h' (yq 1 (yqI K)))) ∧ (¬ ((zV h ((a + 7)) 1) ≤ 6) → K (-5) h))) ∧ (¬ ((zV h ((a + 7)) 1) ≠ 0) → K 0 h))) : yI d 24 [vR (some a), vI x0] h K := by
  refine y_en (L := [some (vR (some a)), some (vI x0), none, none, none, none, none]) rfl rfl ?_
  refine y_s (pc' := 1) (L' := [some (vR (some a)), some (vI x0), none, none, none, none, none]) (st' := [vR (some a)]) (h' := h) f24_0 rfl ?_
  refine y_gr (pc' := 4) f24_1 yf_2_35 rfl rfl (ysH0 w ha) (ypH6 w ha) rfl ?_
  refine y_gi (pc' := 7) f24_4 yf_2_114 rfl rfl (ysR0 w (yR7 ha)) rfl ?_
  refine y_sto (pc' := 8) (k := 2) (L' := [some (vR (some a)), some (vI x0), some (vI (zV h ((a + 7)) 1)), none, none, none, none]) f24_7 rfl rfl rfl rfl rfl rfl ?_
  refine y_s (pc' := 9) (L' := [some (vR (some a)), some (vI x0), some (vI (zV h ((a + 7)) 1)), none, none, none, none]) (st' := [vI (zV h ((a + 7)) 1)]) (h' := h) f24_8 rfl ?_
  refine y_if (pcT := 14) (pc' := 12) (P := (zV h ((a + 7)) 1) ≠ 0) f24_9 rfl rfl rfl (fun c => ?_) (fun c => ?_)
  · replace k := k.1 c
    refine y_s (pc' := 15) (L' := [some (vR (some a)), some (vI x0), some (vI (zV h ((a + 7)) 1)), none, none, none, none]) (st' := [vI (zV h ((a + 7)) 1)]) (h' := h) f24_14 rfl ?_
    refine y_s (pc' := 17) (L' := [some (vR (some a)), some (vI x0), some (vI (zV h ((a + 7)) 1)), none, none, none, none]) (st' := [vI 6, vI (zV h ((a + 7)) 1)]) (h' := h) f24_15 rfl ?_
    refine y_ic (pcT := 23) (pc' := 20) (P := (zV h ((a + 7)) 1) ≤ 6) f24_17 rfl rfl rfl (fun c => ?_) (fun c => ?_)
    · replace k := k.1 c
      refine y_s (pc' := 24) (L' := [some (vR (some a)), some (vI x0), some (vI (zV h ((a + 7)) 1)), none, none, none, none]) (st' := [vR (some a)]) (h' := h) f24_23 rfl ?_
      refine y_cI (pc' := 27) (as := [vR (some a)]) (r := []) f24_24 (yzv ym_2_115 rfl (ysH0 w ha) rfl rfl) (by omega) rfl ?_
      exact k
    · replace k := k.2 c
      refine y_s (pc' := 22) (L' := [some (vR (some a)), some (vI x0), some (vI (zV h ((a + 7)) 1)), none, none, none, none]) (st' := [vI (-5)]) (h' := h) f24_20 rfl ?_
      exact y_ri f24_22 ⟨rfl, k⟩
  · replace k := k.2 c
    refine y_s (pc' := 13) (L' := [some (vR (some a)), some (vI x0), some (vI (zV h ((a + 7)) 1)), none, none, none, none]) (st' := [vI 0]) (h' := h) f24_12 rfl ?_
    exact y_ri f24_13 ⟨rfl, k⟩
theorem W24_27 {d : Nat} {K : Int → Hp → Prop} (w : yWF zl nl h) {a : Nat} (ha : yHs a) {l1 : Int} {l2 : Int} {s0 : Int} (hd : 6 ≤ d) (k : ((yHOk h a) ∧ (((0 : Int) ≤ l1 ∧ l1 < 6) ∧ (∀ h_33, ySm h h_33 → ZW d prog_4_method_15_code 2 38 [some (vR (some a)), some (vI l1), some (vI l2), some (vI s0), some (vI (ysound h a l1)), some (vI 0), none] [] h_33 (yq 1 (yqI K)))))) : ZW d prog_4_method_15_code 2 27 [some (vR (some a)), some (vI l1), some (vI l2), none, none, none, none] [vI s0] h (yq 1 (yqI K)) := by
  refine y_sto (pc' := 28) (k := 3) (L' := [some (vR (some a)), some (vI l1), some (vI l2), some (vI s0), none, none, none]) f24_27 rfl rfl rfl rfl rfl rfl ?_
  refine y_s (pc' := 29) (L' := [some (vR (some a)), some (vI l1), some (vI l2), some (vI s0), none, none, none]) (st' := [vR (some a)]) (h' := h) f24_28 rfl ?_
  refine y_s (pc' := 30) (L' := [some (vR (some a)), some (vI l1), some (vI l2), some (vI s0), none, none, none]) (st' := [vI l1, vR (some a)]) (h' := h) f24_29 rfl ?_
  refine y_cI (pc' := 33) (as := [vR (some a), vI l1]) (r := []) f24_30 (yzv ym_2_119 rfl (ysH0 w ha) rfl rfl) (by omega) rfl ?_
  have p0 := k.1
  replace k := k.2
  have p1 := k.1
  replace k := k.2
  refine sp16 w ha (by omega) p0 p1 (fun h_33 m_33 => ?_)
  replace k := k h_33 m_33
  have w := m_33.wf w
  refine y_sto (pc' := 35) (k := 4) (L' := [some (vR (some a)), some (vI l1), some (vI l2), some (vI s0), some (vI (ysound h a l1)), none, none]) f24_33 rfl rfl rfl rfl rfl rfl ?_
  refine y_s (pc' := 36) (L' := [some (vR (some a)), some (vI l1), some (vI l2), some (vI s0), some (vI (ysound h a l1)), none, none]) (st' := [vI 0]) (h' := h_33) f24_35 rfl ?_
  refine y_sto (pc' := 38) (k := 5) (L' := [some (vR (some a)), some (vI l1), some (vI l2), some (vI s0), some (vI (ysound h a l1)), some (vI 0), none]) f24_36 rfl rfl rfl rfl rfl rfl ?_
  exact k
theorem W24_38 {d : Nat} {K : Int → Hp → Prop} (w : yWF zl nl h) {a : Nat} (ha : yHs a) {l1 : Int} {l2 : Int} {l3 : Int} {l4 : Int} {l5 : Int} {l6 : Option Int} (k : ((6 < (zw (l5 + l2)) → K (-5) h) ∧ (¬ (6 < (zw (l5 + l2))) → ((0 ≤ (zw ((zw (6 - l2)) - l5)) ∧ (zw ((zw (6 - l2)) - l5)) < 7) ∧ ((zV h 1 ((zw ((zw (6 - l2)) - l5))).toNat) ≠ 0 ∧ ((0 ≤ l2 ∧ l2 < 7) ∧ ((zV h 1 (l2).toNat) ≠ 0 ∧ (((zrem (zdiv l4 (zV h 1 ((zw ((zw (6 - l2)) - l5))).toNat)) (zV h 1 (l2).toNat)) ≠ l3 → ZW d prog_4_method_15_code 2 38 [some (vR (some a)), some (vI l1), some (vI l2), some (vI l3), some (vI l4), some (vI (zw (l5 + 1))), some (vI (zw ((zw (6 - l2)) - l5)))] [] h (yq 1 (yqI K))) ∧ (¬ ((zrem (zdiv l4 (zV h 1 ((zw ((zw (6 - l2)) - l5))).toNat)) (zV h 1 (l2).toNat)) ≠ l3) → K l5 h))))))))) : ZW d prog_4_method_15_code 2 38 [some (vR (some a)), some (vI l1), some (vI l2), some (vI l3), some (vI l4), some (vI l5), yo l6] [] h (yq 1 (yqI K)) := by
  refine y_s (pc' := 40) (L' := [some (vR (some a)), some (vI l1), some (vI l2), some (vI l3), some (vI l4), some (vI l5), yo l6]) (st' := [vI l5]) (h' := h) f24_38 rfl ?_
  refine y_s (pc' := 41) (L' := [some (vR (some a)), some (vI l1), some (vI l2), some (vI l3), some (vI l4), some (vI l5), yo l6]) (st' := [vI l2, vI l5]) (h' := h) f24_40 rfl ?_
  refine y_s (pc' := 42) (L' := [some (vR (some a)), some (vI l1), some (vI l2), some (vI l3), some (vI l4), some (vI l5), yo l6]) (st' := [vI (zw (l5 + l2))]) (h' := h) f24_41 rfl ?_
  refine y_s (pc' := 44) (L' := [some (vR (some a)), some (vI l1), some (vI l2), some (vI l3), some (vI l4), some (vI l5), yo l6]) (st' := [vI 6, vI (zw (l5 + l2))]) (h' := h) f24_42 rfl ?_
  refine y_ic (pcT := 84) (pc' := 47) (P := 6 < (zw (l5 + l2))) f24_44 rfl rfl rfl (fun c => ?_) (fun c => ?_)
  · replace k := k.1 c
    refine y_s (pc' := 86) (L' := [some (vR (some a)), some (vI l1), some (vI l2), some (vI l3), some (vI l4), some (vI l5), yo l6]) (st' := [vI (-5)]) (h' := h) f24_84 rfl ?_
    exact y_ri f24_86 ⟨rfl, k⟩
  · replace k := k.2 c
    refine y_s (pc' := 49) (L' := [some (vR (some a)), some (vI l1), some (vI l2), some (vI l3), some (vI l4), some (vI l5), yo l6]) (st' := [vI 6]) (h' := h) f24_47 rfl ?_
    refine y_s (pc' := 50) (L' := [some (vR (some a)), some (vI l1), some (vI l2), some (vI l3), some (vI l4), some (vI l5), yo l6]) (st' := [vI l2, vI 6]) (h' := h) f24_49 rfl ?_
    refine y_s (pc' := 51) (L' := [some (vR (some a)), some (vI l1), some (vI l2), some (vI l3), some (vI l4), some (vI l5), yo l6]) (st' := [vI (zw (6 - l2))]) (h' := h) f24_50 rfl ?_
    refine y_s (pc' := 53) (L' := [some (vR (some a)), some (vI l1), some (vI l2), some (vI l3), some (vI l4), some (vI l5), yo l6]) (st' := [vI l5, vI (zw (6 - l2))]) (h' := h) f24_51 rfl ?_
    refine y_s (pc' := 54) (L' := [some (vR (some a)), some (vI l1), some (vI l2), some (vI l3), some (vI l4), some (vI l5), yo l6]) (st' := [vI (zw ((zw (6 - l2)) - l5))]) (h' := h) f24_53 rfl ?_
    refine y_sto (pc' := 56) (k := 6) (L' := [some (vR (some a)), some (vI l1), some (vI l2), some (vI l3), some (vI l4), some (vI l5), some (vI (zw ((zw (6 - l2)) - l5)))]) f24_54 rfl rfl rfl rfl rfl rfl ?_
    refine y_s (pc' := 58) (L' := [some (vR (some a)), some (vI l1), some (vI l2), some (vI l3), some (vI l4), some (vI l5), some (vI (zw ((zw (6 - l2)) - l5)))]) (st' := [vI l4]) (h' := h) f24_56 rfl ?_
    refine y_s (pc' := 61) (L' := [some (vR (some a)), some (vI l1), some (vI l2), some (vI l3), some (vI l4), some (vI l5), some (vI (zw ((zw (6 - l2)) - l5)))]) (st' := [vR (some 1), vI l4]) (h' := h) f24_58 rfl ?_
    refine y_s (pc' := 63) (L' := [some (vR (some a)), some (vI l1), some (vI l2), some (vI l3), some (vI l4), some (vI l5), some (vI (zw ((zw (6 - l2)) - l5)))]) (st' := [vI (zw ((zw (6 - l2)) - l5)), vR (some 1), vI l4]) (h' := h) f24_61 rfl ?_
    refine y_ia (pc' := 64) (x := (zV h 1 ((zw ((zw (6 - l2)) - l5))).toNat)) f24_63 (ysb1 w) k.1 rfl rfl ?_
    replace k := k.2
    refine y_dv (pc' := 65) f24_64 k.1 rfl ?_
    replace k := k.2
    refine y_s (pc' := 68) (L' := [some (vR (some a)), some (vI l1), some (vI l2), some (vI l3), some (vI l4), some (vI l5), some (vI (zw ((zw (6 - l2)) - l5)))]) (st' := [vR (some 1), vI (zdiv l4 (zV h 1 ((zw ((zw (6 - l2)) - l5))).toNat))]) (h' := h) f24_65 rfl ?_
    refine y_s (pc' := 69) (L' := [some (vR (some a)), some (vI l1), some (vI l2), some (vI l3), some (vI l4), some (vI l5), some (vI (zw ((zw (6 - l2)) - l5)))]) (st' := [vI l2, vR (some 1), vI (zdiv l4 (zV h 1 ((zw ((zw (6 - l2)) - l5))).toNat))]) (h' := h) f24_68 rfl ?_
    refine y_ia (pc' := 70) (x := (zV h 1 (l2).toNat)) f24_69 (ysb1 w) k.1 rfl rfl ?_
    replace k := k.2
    refine y_rm (pc' := 71) f24_70 k.1 rfl ?_
    replace k := k.2
    refine y_s (pc' := 72) (L' := [some (vR (some a)), some (vI l1), some (vI l2), some (vI l3), some (vI l4), some (vI l5), some (vI (zw ((zw (6 - l2)) - l5)))]) (st' := [vI l3, vI (zrem (zdiv l4 (zV h 1 ((zw ((zw (6 - l2)) - l5))).toNat)) (zV h 1 (l2).toNat))]) (h' := h) f24_71 rfl ?_
    refine y_ic (pcT := 78) (pc' := 75) (P := (zrem (zdiv l4 (zV h 1 ((zw ((zw (6 - l2)) - l5))).toNat)) (zV h 1 (l2).toNat)) ≠ l3) f24_72 rfl rfl rfl (fun c => ?_) (fun c => ?_)
    · replace k := k.1 c
      refine y_inc (pc' := 81) (L' := [some (vR (some a)), some (vI l1), some (vI l2), some (vI l3), some (vI l4), some (vI (zw (l5 + 1))), some (vI (zw ((zw (6 - l2)) - l5)))]) f24_78 rfl rfl rfl rfl ?_
      refine y_go (pc' := 38) f24_81 rfl ?_
      exact k
    · replace k := k.2 c
      refine y_s (pc' := 77) (L' := [some (vR (some a)), some (vI l1), some (vI l2), some (vI l3), some (vI l4), some (vI l5), some (vI (zw ((zw (6 - l2)) - l5)))]) (st' := [vI l5]) (h' := h) f24_75 rfl ?_
      exact y_ri f24_77 ⟨rfl, k⟩
/-- HatterTunes.head(II)I -/
theorem E9 {d : Nat} {K : Int → Hp → Prop} (w : yWF zl nl h) {x0 : Int} {x1 : Int} (hd : 1 ≤ d) (k : ((((0 : Int) ≤ x0 ∧ x0 < 7) → ((((0 : Int) ≤ x1 ∧ x1 < 10) → (((zV h 33 10) < 6 → yI (d - 1) 11 [vR (some 33), vI x0, vI x1] h (fun x h' => ZW d prog_1_method_2_code 7 49 [some (vR (some 32)), some (vI x0), some (vI x1)] [vI x] h' (yq 1 (yqI K)))) ∧ (¬ ((zV h 33 10) < 6) → K (-4) h))) ∧ (¬ (((0 : Int) ≤ x1 ∧ x1 < 10)) → K (-2) h))) ∧ (¬ (((0 : Int) ≤ x0 ∧ x0 < 7)) → K (-1) h))) : yI d 9 [vR (some 32), vI x0, vI x1] h K := by
  refine y_en (L := [some (vR (some 32)), some (vI x0), some (vI x1)]) rfl rfl ?_
  refine y_s (pc' := 1) (L' := [some (vR (some 32)), some (vI x0), some (vI x1)]) (st' := [vI x0]) (h' := h) f9_0 rfl ?_
  refine y_s (pc' := 3) (L' := [some (vR (some 32)), some (vI x0), some (vI x1)]) (st' := [vI 7, vI x0]) (h' := h) f9_1 rfl ?_
  refine y_cI (pc' := 6) (as := [vI x0, vI 7]) (r := []) f9_3 rfl (by omega) rfl ?_
  refine sp10 w (fun c => ?_) (fun c => ?_)
  · replace k := k.1 c
    refine y_ift (pcT := 11) f9_6 rfl rfl ?_
    refine y_s (pc' := 12) (L' := [some (vR (some 32)), some (vI x0), some (vI x1)]) (st' := [vI x1]) (h' := h) f9_11 rfl ?_
    refine y_s (pc' := 14) (L' := [some (vR (some 32)), some (vI x0), some (vI x1)]) (st' := [vI 10, vI x1]) (h' := h) f9_12 rfl ?_
    refine y_cI (pc' := 17) (as := [vI x1, vI 10]) (r := []) f9_14 rfl (by omega) rfl ?_
    refine sp10 w (fun c => ?_) (fun c => ?_)
    · replace k := k.1 c
      refine y_ift (pcT := 23) f9_17 rfl rfl ?_
      refine y_s (pc' := 24) (L' := [some (vR (some 32)), some (vI x0), some (vI x1)]) (st' := [vR (some 32)]) (h' := h) f9_23 rfl ?_
      refine y_gr (pc' := 27) f9_24 yf_7_14 rfl rfl (ys32 w) (yp32_0 w) rfl ?_
      refine y_gi (pc' := 30) f9_27 yf_7_63 rfl rfl (ys33 w) rfl ?_
      refine y_s (pc' := 32) (L' := [some (vR (some 32)), some (vI x0), some (vI x1)]) (st' := [vI 6, vI (zV h 33 10)]) (h' := h) f9_30 rfl ?_
      refine y_ic (pcT := 40) (pc' := 35) (P := (zV h 33 10) < 6) f9_32 rfl rfl rfl (fun c => ?_) (fun c => ?_)
      · replace k := k.1 c
        refine y_s (pc' := 41) (L' := [some (vR (some 32)), some (vI x0), some (vI x1)]) (st' := [vR (some 32)]) (h' := h) f9_40 rfl ?_
        refine y_gr (pc' := 44) f9_41 yf_7_14 rfl rfl (ys32 w) (yp32_0 w) rfl ?_
        refine y_s (pc' := 45) (L' := [some (vR (some 32)), some (vI x0), some (vI x1)]) (st' := [vI x0, vR (some 33)]) (h' := h) f9_44 rfl ?_
        refine y_s (pc' := 46) (L' := [some (vR (some 32)), some (vI x0), some (vI x1)]) (st' := [vI x1, vI x0, vR (some 33)]) (h' := h) f9_45 rfl ?_
        refine y_cI (pc' := 49) (as := [vR (some 33), vI x0, vI x1]) (r := []) f9_46 (yzv ym_7_67 rfl (ys33 w) rfl rfl) (by omega) rfl ?_
        exact k
      · replace k := k.2 c
        refine y_s (pc' := 37) (L' := [some (vR (some 32)), some (vI x0), some (vI x1)]) (st' := [vI (-4)]) (h' := h) f9_35 rfl ?_
        refine y_go (pc' := 49) f9_37 rfl ?_
        exact y_ri f9_49 ⟨rfl, k⟩
    · replace k := k.2 c
      refine y_iff (pcT := 23) (pc' := 20) f9_17 rfl rfl rfl ?_
      refine y_s (pc' := 22) (L' := [some (vR (some 32)), some (vI x0), some (vI x1)]) (st' := [vI (-2)]) (h' := h) f9_20 rfl ?_
      exact y_ri f9_22 ⟨rfl, k⟩
  · replace k := k.2 c
    refine y_iff (pcT := 11) (pc' := 9) f9_6 rfl rfl rfl ?_
    refine y_s (pc' := 10) (L' := [some (vR (some 32)), some (vI x0), some (vI x1)]) (st' := [vI (-1)]) (h' := h) f9_9 rfl ?_
    exact y_ri f9_10 ⟨rfl, k⟩
theorem W9_49 {d : Nat} {K : Int → Hp → Prop} (w : yWF zl nl h) {l1 : Int} {l2 : Int} {s0 : Int} (k : K s0 h) : ZW d prog_1_method_2_code 7 49 [some (vR (some 32)), some (vI l1), some (vI l2)] [vI s0] h (yq 1 (yqI K)) := by
  exact y_ri f9_49 ⟨rfl, k⟩
/-- HatterTunes$House.addHead(II)I -/
theorem E11 {d : Nat} {K : Int → Hp → Prop} (w : yWF zl nl h) {a : Nat} (ha : yHs a) {x0 : Int} {x1 : Int} (hd : 1 ≤ d) (k : ((0 ≤ (zV h a 10) ∧ (zV h a 10) < 6) ∧ ((0 ≤ (zV h a 10) ∧ (zV h a 10) < 6) ∧ (∀ h_19, (zsetV (zsetV h (a + 1) ((zV h a 10)).toNat x0) (a + 2) ((zV h a 10)).toNat x1) = h_19 → ((0 ≤ (zV h a 10) ∧ (zV h a 10) < 6) ∧ yU (d - 1) 12 [vR (some a), vI (zV h a 10), vI 0] (zsetV h_19 (a + 3) ((zV h a 10)).toNat 0) (fun h' => ZW d prog_4_method_3_code 2 32 [some (vR (some a)), some (vI x0), some (vI x1), some (vI (zV h a 10)), none] [] h' (yq 1 (yqI K)))))))) : yI d 11 [vR (some a), vI x0, vI x1] h K := by
  refine y_en (L := [some (vR (some a)), some (vI x0), some (vI x1), none, none]) rfl rfl ?_
  refine y_s (pc' := 1) (L' := [some (vR (some a)), some (vI x0), some (vI x1), none, none]) (st' := [vR (some a)]) (h' := h) f11_0 rfl ?_
  refine y_gi (pc' := 4) f11_1 yf_2_65 rfl rfl (ysH0 w ha) rfl ?_
  refine y_sto (pc' := 5) (k := 3) (L' := [some (vR (some a)), some (vI x0), some (vI x1), some (vI (zV h a 10)), none]) f11_4 rfl rfl rfl rfl rfl rfl ?_
  refine y_s (pc' := 6) (L' := [some (vR (some a)), some (vI x0), some (vI x1), some (vI (zV h a 10)), none]) (st' := [vR (some a)]) (h' := h) f11_5 rfl ?_
  refine y_gr (pc' := 9) f11_6 yf_2_9 rfl rfl (ysH0 w ha) (ypH0 w ha) rfl ?_
  refine y_s (pc' := 10) (L' := [some (vR (some a)), some (vI x0), some (vI x1), some (vI (zV h a 10)), none]) (st' := [vI (zV h a 10), vR (some (a + 1))]) (h' := h) f11_9 rfl ?_
  refine y_s (pc' := 11) (L' := [some (vR (some a)), some (vI x0), some (vI x1), some (vI (zV h a 10)), none]) (st' := [vI x0, vI (zV h a 10), vR (some (a + 1))]) (h' := h) f11_10 rfl ?_
  refine y_is (pc' := 12) (h' := (zsetV h (a + 1) ((zV h a 10)).toNat x0)) f11_11 (ysH1 w ha) (Nat.le_add_right_of_le (yH_32 ha)) k.1 rfl rfl ?_
  replace k := k.2
  refine y_s (pc' := 13) (L' := [some (vR (some a)), some (vI x0), some (vI x1), some (vI (zV h a 10)), none]) (st' := [vR (some a)]) (h' := (zsetV h (a + 1) ((zV h a 10)).toNat x0)) f11_12 rfl ?_
  refine y_gr (pc' := 16) f11_13 yf_2_15 rfl rfl (ysH0 w ha) (ypH1 w ha) rfl ?_
  refine y_s (pc' := 17) (L' := [some (vR (some a)), some (vI x0), some (vI x1), some (vI (zV h a 10)), none]) (st' := [vI (zV h a 10), vR (some (a + 2))]) (h' := (zsetV h (a + 1) ((zV h a 10)).toNat x0)) f11_16 rfl ?_
  refine y_s (pc' := 18) (L' := [some (vR (some a)), some (vI x0), some (vI x1), some (vI (zV h a 10)), none]) (st' := [vI x1, vI (zV h a 10), vR (some (a + 2))]) (h' := (zsetV h (a + 1) ((zV h a 10)).toNat x0)) f11_17 rfl ?_
  refine y_is (pc' := 19) (h' := (zsetV (zsetV h (a + 1) ((zV h a 10)).toNat x0) (a + 2) ((zV h a 10)).toNat x1)) f11_18 (ysH2 w ha) (Nat.le_add_right_of_le (yH_32 ha)) k.1 rfl rfl ?_
  replace k := k.2
  generalize e_19 : (zsetV (zsetV h (a + 1) ((zV h a 10)).toNat x0) (a + 2) ((zV h a 10)).toNat x1) = h_19
  replace k := k _ e_19
  have w : yWF zl nl h_19 := by rw [← e_19]; exact w
  refine y_s (pc' := 20) (L' := [some (vR (some a)), some (vI x0), some (vI x1), some (vI (zV h a 10)), none]) (st' := [vR (some a)]) (h' := h_19) f11_19 rfl ?_
  refine y_gr (pc' := 23) f11_20 yf_2_18 rfl rfl (ysH0 w ha) (ypH2 w ha) rfl ?_
  refine y_s (pc' := 24) (L' := [some (vR (some a)), some (vI x0), some (vI x1), some (vI (zV h a 10)), none]) (st' := [vI (zV h a 10), vR (some (a + 3))]) (h' := h_19) f11_23 rfl ?_
  refine y_s (pc' := 25) (L' := [some (vR (some a)), some (vI x0), some (vI x1), some (vI (zV h a 10)), none]) (st' := [vI 0, vI (zV h a 10), vR (some (a + 3))]) (h' := h_19) f11_24 rfl ?_
  refine y_is (pc' := 26) (h' := (zsetV h_19 (a + 3) ((zV h a 10)).toNat 0)) f11_25 (ysH3 w ha) (Nat.le_add_right_of_le (yH_32 ha)) k.1 rfl rfl ?_
  replace k := k.2
  refine y_s (pc' := 27) (L' := [some (vR (some a)), some (vI x0), some (vI x1), some (vI (zV h a 10)), none]) (st' := [vR (some a)]) (h' := (zsetV h_19 (a + 3) ((zV h a 10)).toNat 0)) f11_26 rfl ?_
  refine y_s (pc' := 28) (L' := [some (vR (some a)), some (vI x0), some (vI x1), some (vI (zV h a 10)), none]) (st' := [vI (zV h a 10), vR (some a)]) (h' := (zsetV h_19 (a + 3) ((zV h a 10)).toNat 0)) f11_27 rfl ?_
  refine y_s (pc' := 29) (L' := [some (vR (some a)), some (vI x0), some (vI x1), some (vI (zV h a 10)), none]) (st' := [vI 0, vI (zV h a 10), vR (some a)]) (h' := (zsetV h_19 (a + 3) ((zV h a 10)).toNat 0)) f11_28 rfl ?_
  refine y_cU (pc' := 32) (as := [vR (some a), vI (zV h a 10), vI 0]) (r := []) f11_29 (yzv ym_2_72 rfl (ysH0 w ha) rfl rfl) (by omega) rfl ?_
  exact k
theorem W11_32 {d : Nat} {K : Int → Hp → Prop} (w : yWF zl nl h) {a : Nat} (ha : yHs a) {l1 : Int} {l2 : Int} {l3 : Int} (k : ZW d prog_4_method_3_code 2 35 [some (vR (some a)), some (vI l1), some (vI l2), some (vI l3), some (vI 0)] [] h (yq 1 (yqI K))) : ZW d prog_4_method_3_code 2 32 [some (vR (some a)), some (vI l1), some (vI l2), some (vI l3), none] [] h (yq 1 (yqI K)) := by
  refine y_s (pc' := 33) (L' := [some (vR (some a)), some (vI l1), some (vI l2), some (vI l3), none]) (st' := [vI 0]) (h' := h) f11_32 rfl ?_
  refine y_sto (pc' := 35) (k := 4) (L' := [some (vR (some a)), some (vI l1), some (vI l2), some (vI l3), some (vI 0)]) f11_33 rfl rfl rfl rfl rfl rfl ?_
  exact k
theorem W11_35 {d : Nat} {K : Int → Hp → Prop} (w : yWF zl nl h) {a : Nat} (ha : yHs a) {l1 : Int} {l2 : Int} {l3 : Int} {l4 : Int} (k : ((4 ≤ l4 → K l3 (zsetV h a 10 (zw ((zV h a 10) + 1)))) ∧ (¬ (4 ≤ l4) → ((0 ≤ (zw ((zw (l3 * 4)) + l4)) ∧ (zw ((zw (l3 * 4)) + l4)) < 24) ∧ ZW d prog_4_method_3_code 2 35 [some (vR (some a)), some (vI l1), some (vI l2), some (vI l3), some (vI (zw (l4 + 1)))] [] (zsetV h (a + 5) ((zw ((zw (l3 * 4)) + l4))).toNat 0) (yq 1 (yqI K)))))) : ZW d prog_4_method_3_code 2 35 [some (vR (some a)), some (vI l1), some (vI l2), some (vI l3), some (vI l4)] [] h (yq 1 (yqI K)) := by
  refine y_s (pc' := 37) (L' := [some (vR (some a)), some (vI l1), some (vI l2), some (vI l3), some (vI l4)]) (st' := [vI l4]) (h' := h) f11_35 rfl ?_
  refine y_s (pc' := 38) (L' := [some (vR (some a)), some (vI l1), some (vI l2), some (vI l3), some (vI l4)]) (st' := [vI 4, vI l4]) (h' := h) f11_37 rfl ?_
  refine y_ic (pcT := 59) (pc' := 41) (P := 4 ≤ l4) f11_38 rfl rfl rfl (fun c => ?_) (fun c => ?_)
  · replace k := k.1 c
    refine y_s (pc' := 60) (L' := [some (vR (some a)), some (vI l1), some (vI l2), some (vI l3), some (vI l4)]) (st' := [vR (some a)]) (h' := h) f11_59 rfl ?_
    refine y_s (pc' := 61) (L' := [some (vR (some a)), some (vI l1), some (vI l2), some (vI l3), some (vI l4)]) (st' := [vR (some a), vR (some a)]) (h' := h) f11_60 rfl ?_
    refine y_gi (pc' := 64) f11_61 yf_2_65 rfl rfl (ysH0 w ha) rfl ?_
    refine y_s (pc' := 65) (L' := [some (vR (some a)), some (vI l1), some (vI l2), some (vI l3), some (vI l4)]) (st' := [vI 1, vI (zV h a 10), vR (some a)]) (h' := h) f11_64 rfl ?_
    refine y_s (pc' := 66) (L' := [some (vR (some a)), some (vI l1), some (vI l2), some (vI l3), some (vI l4)]) (st' := [vI (zw ((zV h a 10) + 1)), vR (some a)]) (h' := h) f11_65 rfl ?_
    refine y_pi (pc' := 69) f11_66 yf_2_65 rfl rfl (ysH0 w ha) (yH_32 ha) (Or.inl rfl) rfl ?_
    refine y_s (pc' := 70) (L' := [some (vR (some a)), some (vI l1), some (vI l2), some (vI l3), some (vI l4)]) (st' := [vI l3]) (h' := (zsetV h a 10 (zw ((zV h a 10) + 1)))) f11_69 rfl ?_
    exact y_ri f11_70 ⟨rfl, k⟩
  · replace k := k.2 c
    refine y_s (pc' := 42) (L' := [some (vR (some a)), some (vI l1), some (vI l2), some (vI l3), some (vI l4)]) (st' := [vR (some a)]) (h' := h) f11_41 rfl ?_
    refine y_gr (pc' := 45) f11_42 yf_2_24 rfl rfl (ysH0 w ha) (ypH4 w ha) rfl ?_
    refine y_s (pc' := 46) (L' := [some (vR (some a)), some (vI l1), some (vI l2), some (vI l3), some (vI l4)]) (st' := [vI l3, vR (some (a + 5))]) (h' := h) f11_45 rfl ?_
    refine y_s (pc' := 47) (L' := [some (vR (some a)), some (vI l1), some (vI l2), some (vI l3), some (vI l4)]) (st' := [vI 4, vI l3, vR (some (a + 5))]) (h' := h) f11_46 rfl ?_
    refine y_s (pc' := 48) (L' := [some (vR (some a)), some (vI l1), some (vI l2), some (vI l3), some (vI l4)]) (st' := [vI (zw (l3 * 4)), vR (some (a + 5))]) (h' := h) f11_47 rfl ?_
    refine y_s (pc' := 50) (L' := [some (vR (some a)), some (vI l1), some (vI l2), some (vI l3), some (vI l4)]) (st' := [vI l4, vI (zw (l3 * 4)), vR (some (a + 5))]) (h' := h) f11_48 rfl ?_
    refine y_s (pc' := 51) (L' := [some (vR (some a)), some (vI l1), some (vI l2), some (vI l3), some (vI l4)]) (st' := [vI (zw ((zw (l3 * 4)) + l4)), vR (some (a + 5))]) (h' := h) f11_50 rfl ?_
    refine y_s (pc' := 52) (L' := [some (vR (some a)), some (vI l1), some (vI l2), some (vI l3), some (vI l4)]) (st' := [vI 0, vI (zw ((zw (l3 * 4)) + l4)), vR (some (a + 5))]) (h' := h) f11_51 rfl ?_
    refine y_is (pc' := 53) (h' := (zsetV h (a + 5) ((zw ((zw (l3 * 4)) + l4))).toNat 0)) f11_52 (ysH5 w ha) (Nat.le_add_right_of_le (yH_32 ha)) k.1 rfl rfl ?_
    replace k := k.2
    refine y_inc (pc' := 56) (L' := [some (vR (some a)), some (vI l1), some (vI l2), some (vI l3), some (vI (zw (l4 + 1)))]) f11_53 rfl rfl rfl rfl ?_
    refine y_go (pc' := 35) f11_56 rfl ?_
    exact k
/-- HatterTunes.press(III)I -/
theorem E37 {d : Nat} {K : Int → Hp → Prop} (w : yWF zl nl h) {x0 : Int} {x1 : Int} {x2 : Int} (hd : 2 ≤ d) (k : ((((0 : Int) ≤ x0 ∧ x0 < zV h 33 10) → ((((0 : Int) ≤ x1 ∧ x1 < 6) → ((((0 : Int) ≤ x2 ∧ x2 < 10) → (((0 : Int) ≤ x0 ∧ x0 < 6 ∧ (0 : Int) ≤ x1 ∧ x1 < 6) ∧ (((0 : Int) ≤ x0 ∧ x0 < 6 ∧ (0 : Int) ≤ x1 ∧ x1 < 6) ∧ K (zV h (33 + 4) (6 * x0 + x1).toNat) (zsetV h (33 + 4) (6 * x0 + x1).toNat x2)))) ∧ (¬ (((0 : Int) ≤ x2 ∧ x2 < 10)) → K (-2) h))) ∧ (¬ (((0 : Int) ≤ x1 ∧ x1 < 6)) → K (-1) h))) ∧ (¬ (((0 : Int) ≤ x0 ∧ x0 < zV h 33 10)) → K (-1) h))) : yI d 37 [vR (some 32), vI x0, vI x1, vI x2] h K := by
  refine y_en (L := [some (vR (some 32)), some (vI x0), some (vI x1), some (vI x2), none]) rfl rfl ?_
  refine y_s (pc' := 1) (L' := [some (vR (some 32)), some (vI x0), some (vI x1), some (vI x2), none]) (st' := [vR (some 32)]) (h' := h) f37_0 rfl ?_
  refine y_s (pc' := 2) (L' := [some (vR (some 32)), some (vI x0), some (vI x1), some (vI x2), none]) (st' := [vI x0, vR (some 32)]) (h' := h) f37_1 rfl ?_
  refine y_cI (pc' := 5) (as := [vR (some 32), vI x0]) (r := []) f37_2 (yzv ym_7_71 rfl (ys32 w) rfl rfl) (by omega) rfl ?_
  refine sp15 w (by omega) (fun c => ?_) (fun c => ?_)
  · replace k := k.1 c
    refine y_iff (pcT := 17) (pc' := 8) f37_5 rfl rfl rfl ?_
    refine y_s (pc' := 9) (L' := [some (vR (some 32)), some (vI x0), some (vI x1), some (vI x2), none]) (st' := [vI x1]) (h' := h) f37_8 rfl ?_
    refine y_s (pc' := 11) (L' := [some (vR (some 32)), some (vI x0), some (vI x1), some (vI x2), none]) (st' := [vI 6, vI x1]) (h' := h) f37_9 rfl ?_
    refine y_cI (pc' := 14) (as := [vI x1, vI 6]) (r := []) f37_11 rfl (by omega) rfl ?_
    refine sp10 w (fun c => ?_) (fun c => ?_)
    · replace k := k.1 c
      refine y_ift (pcT := 19) f37_14 rfl rfl ?_
      refine y_s (pc' := 20) (L' := [some (vR (some 32)), some (vI x0), some (vI x1), some (vI x2), none]) (st' := [vI x2]) (h' := h) f37_19 rfl ?_
      refine y_s (pc' := 22) (L' := [some (vR (some 32)), some (vI x0), some (vI x1), some (vI x2), none]) (st' := [vI 10, vI x2]) (h' := h) f37_20 rfl ?_
      refine y_cI (pc' := 25) (as := [vI x2, vI 10]) (r := []) f37_22 rfl (by omega) rfl ?_
      refine sp10 w (fun c => ?_) (fun c => ?_)
      · replace k := k.1 c
        refine y_ift (pcT := 31) f37_25 rfl rfl ?_
        refine y_s (pc' := 32) (L' := [some (vR (some 32)), some (vI x0), some (vI x1), some (vI x2), none]) (st' := [vR (some 32)]) (h' := h) f37_31 rfl ?_
        refine y_gr (pc' := 35) f37_32 yf_7_14 rfl rfl (ys32 w) (yp32_0 w) rfl ?_
        refine y_s (pc' := 36) (L' := [some (vR (some 32)), some (vI x0), some (vI x1), some (vI x2), none]) (st' := [vI x0, vR (some 33)]) (h' := h) f37_35 rfl ?_
        refine y_s (pc' := 37) (L' := [some (vR (some 32)), some (vI x0), some (vI x1), some (vI x2), none]) (st' := [vI x1, vI x0, vR (some 33)]) (h' := h) f37_36 rfl ?_
        refine y_cI (pc' := 40) (as := [vR (some 33), vI x0, vI x1]) (r := []) f37_37 (yzv ym_7_102 rfl (ys33 w) rfl rfl) (by omega) rfl ?_
        have p0 := k.1
        replace k := k.2
        refine sp20 w (Or.inl rfl) p0 ?_
        refine y_sto (pc' := 42) (k := 4) (L' := [some (vR (some 32)), some (vI x0), some (vI x1), some (vI x2), some (vI (zV h (33 + 4) (6 * x0 + x1).toNat))]) f37_40 rfl rfl rfl rfl rfl rfl ?_
        refine y_s (pc' := 43) (L' := [some (vR (some 32)), some (vI x0), some (vI x1), some (vI x2), some (vI (zV h (33 + 4) (6 * x0 + x1).toNat))]) (st' := [vR (some 32)]) (h' := h) f37_42 rfl ?_
        refine y_gr (pc' := 46) f37_43 yf_7_14 rfl rfl (ys32 w) (yp32_0 w) rfl ?_
        refine y_s (pc' := 47) (L' := [some (vR (some 32)), some (vI x0), some (vI x1), some (vI x2), some (vI (zV h (33 + 4) (6 * x0 + x1).toNat))]) (st' := [vI x0, vR (some 33)]) (h' := h) f37_46 rfl ?_
        refine y_s (pc' := 48) (L' := [some (vR (some 32)), some (vI x0), some (vI x1), some (vI x2), some (vI (zV h (33 + 4) (6 * x0 + x1).toNat))]) (st' := [vI x1, vI x0, vR (some 33)]) (h' := h) f37_47 rfl ?_
        refine y_s (pc' := 49) (L' := [some (vR (some 32)), some (vI x0), some (vI x1), some (vI x2), some (vI (zV h (33 + 4) (6 * x0 + x1).toNat))]) (st' := [vI x2, vI x1, vI x0, vR (some 33)]) (h' := h) f37_48 rfl ?_
        refine y_cU (pc' := 52) (as := [vR (some 33), vI x0, vI x1, vI x2]) (r := []) f37_49 (yzv ym_7_124 rfl (ys33 w) rfl rfl) (by omega) rfl ?_
        have p0 := k.1
        replace k := k.2
        refine sp13 w (Or.inl rfl) p0 ?_
        refine y_s (pc' := 54) (L' := [some (vR (some 32)), some (vI x0), some (vI x1), some (vI x2), some (vI (zV h (33 + 4) (6 * x0 + x1).toNat))]) (st' := [vI (zV h (33 + 4) (6 * x0 + x1).toNat)]) (h' := (zsetV h (33 + 4) (6 * x0 + x1).toNat x2)) f37_52 rfl ?_
        exact y_ri f37_54 ⟨rfl, k⟩
      · replace k := k.2 c
        refine y_iff (pcT := 31) (pc' := 28) f37_25 rfl rfl rfl ?_
        refine y_s (pc' := 30) (L' := [some (vR (some 32)), some (vI x0), some (vI x1), some (vI x2), none]) (st' := [vI (-2)]) (h' := h) f37_28 rfl ?_
        exact y_ri f37_30 ⟨rfl, k⟩
    · replace k := k.2 c
      refine y_iff (pcT := 19) (pc' := 17) f37_14 rfl rfl rfl ?_
      refine y_s (pc' := 18) (L' := [some (vR (some 32)), some (vI x0), some (vI x1), some (vI x2), none]) (st' := [vI (-1)]) (h' := h) f37_17 rfl ?_
      exact y_ri f37_18 ⟨rfl, k⟩
  · replace k := k.2 c
    refine y_ift (pcT := 17) f37_5 rfl rfl ?_
    refine y_s (pc' := 18) (L' := [some (vR (some 32)), some (vI x0), some (vI x1), some (vI x2), none]) (st' := [vI (-1)]) (h' := h) f37_17 rfl ?_
    exact y_ri f37_18 ⟨rfl, k⟩
/-- HatterTunes.note(I)I -/
theorem E38 {d : Nat} {K : Int → Hp → Prop} (w : yWF zl nl h) {x0 : Int} (hd : 1 ≤ d) (k : ((x0 ≠ (-1) → ((((0 : Int) ≤ x0 ∧ x0 < 10) → (((0 : Int) ≤ zV h 40 1 ∧ zV h 40 1 ≤ 10) ∧ ((((32 : Int) ≤ 4 * zV h 40 1) → K (-4) h) ∧ (¬ (((32 : Int) ≤ 4 * zV h 40 1)) → yI (d - 1) 41 [vR (some 40), vI x0, vI 0, vI 0, vI 0] h (fun x h' => ZW d prog_1_method_10_code 7 60 [some (vR (some 32)), some (vI x0)] [vI x] h' (yq 1 (yqI K))))))) ∧ (¬ (((0 : Int) ≤ x0 ∧ x0 < 10)) → K (-2) h))) ∧ (¬ (x0 ≠ (-1)) → K 0 (zsetV h 40 1 0)))) : yI d 38 [vR (some 32), vI x0] h K := by
  refine y_en (L := [some (vR (some 32)), some (vI x0)]) rfl rfl ?_
  refine y_s (pc' := 1) (L' := [some (vR (some 32)), some (vI x0)]) (st' := [vI x0]) (h' := h) f38_0 rfl ?_
  refine y_s (pc' := 2) (L' := [some (vR (some 32)), some (vI x0)]) (st' := [vI (-1), vI x0]) (h' := h) f38_1 rfl ?_
  refine y_ic (pcT := 16) (pc' := 5) (P := x0 ≠ (-1)) f38_2 rfl rfl rfl (fun c => ?_) (fun c => ?_)
  · replace k := k.1 c
    refine y_s (pc' := 17) (L' := [some (vR (some 32)), some (vI x0)]) (st' := [vI x0]) (h' := h) f38_16 rfl ?_
    refine y_s (pc' := 19) (L' := [some (vR (some 32)), some (vI x0)]) (st' := [vI 10, vI x0]) (h' := h) f38_17 rfl ?_
    refine y_cI (pc' := 22) (as := [vI x0, vI 10]) (r := []) f38_19 rfl (by omega) rfl ?_
    refine sp10 w (fun c => ?_) (fun c => ?_)
    · replace k := k.1 c
      refine y_ift (pcT := 28) f38_22 rfl rfl ?_
      refine y_s (pc' := 29) (L' := [some (vR (some 32)), some (vI x0)]) (st' := [vR (some 32)]) (h' := h) f38_28 rfl ?_
      refine y_gr (pc' := 32) f38_29 yf_7_14 rfl rfl (ys32 w) (yp32_0 w) rfl ?_
      refine y_gr (pc' := 35) f38_32 yf_7_131 rfl rfl (ys33 w) (yp33_6 w) rfl ?_
      refine y_cI (pc' := 38) (as := [vR (some 40)]) (r := []) f38_35 (yzv ym_7_141 rfl (ys40 w) rfl rfl) (by omega) rfl ?_
      have p0 := k.1
      replace k := k.2
      refine sp40 w (yR7 (a := 33) (Or.inl rfl)) p0 (fun c => ?_) (fun c => ?_)
      · replace k := k.1 c
        refine y_iff (pcT := 46) (pc' := 41) f38_38 rfl rfl rfl ?_
        refine y_s (pc' := 43) (L' := [some (vR (some 32)), some (vI x0)]) (st' := [vI (-4)]) (h' := h) f38_41 rfl ?_
        refine y_go (pc' := 60) f38_43 rfl ?_
        exact y_ri f38_60 ⟨rfl, k⟩
      · replace k := k.2 c
        refine y_ift (pcT := 46) f38_38 rfl rfl ?_
        refine y_s (pc' := 47) (L' := [some (vR (some 32)), some (vI x0)]) (st' := [vR (some 32)]) (h' := h) f38_46 rfl ?_
        refine y_gr (pc' := 50) f38_47 yf_7_14 rfl rfl (ys32 w) (yp32_0 w) rfl ?_
        refine y_gr (pc' := 53) f38_50 yf_7_131 rfl rfl (ys33 w) (yp33_6 w) rfl ?_
        refine y_s (pc' := 54) (L' := [some (vR (some 32)), some (vI x0)]) (st' := [vI x0, vR (some 40)]) (h' := h) f38_53 rfl ?_
        refine y_s (pc' := 55) (L' := [some (vR (some 32)), some (vI x0)]) (st' := [vI 0, vI x0, vR (some 40)]) (h' := h) f38_54 rfl ?_
        refine y_s (pc' := 56) (L' := [some (vR (some 32)), some (vI x0)]) (st' := [vI 0, vI 0, vI x0, vR (some 40)]) (h' := h) f38_55 rfl ?_
        refine y_s (pc' := 57) (L' := [some (vR (some 32)), some (vI x0)]) (st' := [vI 0, vI 0, vI 0, vI x0, vR (some 40)]) (h' := h) f38_56 rfl ?_
        refine y_cI (pc' := 60) (as := [vR (some 40), vI x0, vI 0, vI 0, vI 0]) (r := []) f38_57 (yzv ym_7_145 rfl (ys40 w) rfl rfl) (by omega) rfl ?_
        exact k
    · replace k := k.2 c
      refine y_iff (pcT := 28) (pc' := 25) f38_22 rfl rfl rfl ?_
      refine y_s (pc' := 27) (L' := [some (vR (some 32)), some (vI x0)]) (st' := [vI (-2)]) (h' := h) f38_25 rfl ?_
      exact y_ri f38_27 ⟨rfl, k⟩
  · replace k := k.2 c
    refine y_s (pc' := 6) (L' := [some (vR (some 32)), some (vI x0)]) (st' := [vR (some 32)]) (h' := h) f38_5 rfl ?_
    refine y_gr (pc' := 9) f38_6 yf_7_14 rfl rfl (ys32 w) (yp32_0 w) rfl ?_
    refine y_gr (pc' := 12) f38_9 yf_7_131 rfl rfl (ys33 w) (yp33_6 w) rfl ?_
    refine y_cI (pc' := 15) (as := [vR (some 40)]) (r := []) f38_12 (yzv ym_7_135 rfl (ys40 w) rfl rfl) (by omega) rfl ?_
    refine sp39 w (yR7 (a := 33) (Or.inl rfl)) ?_
    exact y_ri f38_15 ⟨rfl, k⟩
theorem W38_60 {d : Nat} {K : Int → Hp → Prop} (w : yWF zl nl h) {l1 : Int} {s0 : Int} (k : K s0 h) : ZW d prog_1_method_10_code 7 60 [some (vR (some 32)), some (vI l1)] [vI s0] h (yq 1 (yqI K)) := by
  exact y_ri f38_60 ⟨rfl, k⟩
/-- HatterTunes.row(III)I -/
theorem E42 {d : Nat} {K : Int → Hp → Prop} (w : yWF zl nl h) {x0 : Int} {x1 : Int} {x2 : Int} (hd : 2 ≤ d) (k : ((((0 : Int) ≤ x0 ∧ x0 < zV h 33 10) → ((((0 : Int) ≤ x1 ∧ x1 < 4) → ((((0 : Int) ≤ x2 ∧ x2 < 10) → ((0 ≤ x0 ∧ x0 < 6) ∧ (((zV h 34 (x0).toNat) = 6 → ((0 ≤ (zw ((zw (x0 * 4)) + x1)) ∧ (zw ((zw (x0 * 4)) + x1)) < 24) ∧ ((0 ≤ (zw ((zw (x0 * 4)) + x1)) ∧ (zw ((zw (x0 * 4)) + x1)) < 24) ∧ K (zV h 38 ((zw ((zw (x0 * 4)) + x1))).toNat) (zsetV h 38 ((zw ((zw (x0 * 4)) + x1))).toNat x2)))) ∧ (¬ ((zV h 34 (x0).toNat) = 6) → K (-3) h)))) ∧ (¬ (((0 : Int) ≤ x2 ∧ x2 < 10)) → K (-2) h))) ∧ (¬ (((0 : Int) ≤ x1 ∧ x1 < 4)) → K (-1) h))) ∧ (¬ (((0 : Int) ≤ x0 ∧ x0 < zV h 33 10)) → K (-1) h))) : yI d 42 [vR (some 32), vI x0, vI x1, vI x2] h K := by
  refine y_en (L := [some (vR (some 32)), some (vI x0), some (vI x1), some (vI x2), none, none]) rfl rfl ?_
  refine y_s (pc' := 1) (L' := [some (vR (some 32)), some (vI x0), some (vI x1), some (vI x2), none, none]) (st' := [vR (some 32)]) (h' := h) f42_0 rfl ?_
  refine y_s (pc' := 2) (L' := [some (vR (some 32)), some (vI x0), some (vI x1), some (vI x2), none, none]) (st' := [vI x0, vR (some 32)]) (h' := h) f42_1 rfl ?_
  refine y_cI (pc' := 5) (as := [vR (some 32), vI x0]) (r := []) f42_2 (yzv ym_7_71 rfl (ys32 w) rfl rfl) (by omega) rfl ?_
  refine sp15 w (by omega) (fun c => ?_) (fun c => ?_)
  · replace k := k.1 c
    refine y_iff (pcT := 16) (pc' := 8) f42_5 rfl rfl rfl ?_
    refine y_s (pc' := 9) (L' := [some (vR (some 32)), some (vI x0), some (vI x1), some (vI x2), none, none]) (st' := [vI x1]) (h' := h) f42_8 rfl ?_
    refine y_s (pc' := 10) (L' := [some (vR (some 32)), some (vI x0), some (vI x1), some (vI x2), none, none]) (st' := [vI 4, vI x1]) (h' := h) f42_9 rfl ?_
    refine y_cI (pc' := 13) (as := [vI x1, vI 4]) (r := []) f42_10 rfl (by omega) rfl ?_
    refine sp10 w (fun c => ?_) (fun c => ?_)
    · replace k := k.1 c
      refine y_ift (pcT := 18) f42_13 rfl rfl ?_
      refine y_s (pc' := 19) (L' := [some (vR (some 32)), some (vI x0), some (vI x1), some (vI x2), none, none]) (st' := [vI x2]) (h' := h) f42_18 rfl ?_
      refine y_s (pc' := 21) (L' := [some (vR (some 32)), some (vI x0), some (vI x1), some (vI x2), none, none]) (st' := [vI 10, vI x2]) (h' := h) f42_19 rfl ?_
      refine y_cI (pc' := 24) (as := [vI x2, vI 10]) (r := []) f42_21 rfl (by omega) rfl ?_
      refine sp10 w (fun c => ?_) (fun c => ?_)
      · replace k := k.1 c
        refine y_ift (pcT := 30) f42_24 rfl rfl ?_
        refine y_s (pc' := 31) (L' := [some (vR (some 32)), some (vI x0), some (vI x1), some (vI x2), none, none]) (st' := [vR (some 32)]) (h' := h) f42_30 rfl ?_
        refine y_gr (pc' := 34) f42_31 yf_7_14 rfl rfl (ys32 w) (yp32_0 w) rfl ?_
        refine y_gr (pc' := 37) f42_34 yf_7_75 rfl rfl (ys33 w) (yp33_0 w) rfl ?_
        refine y_s (pc' := 38) (L' := [some (vR (some 32)), some (vI x0), some (vI x1), some (vI x2), none, none]) (st' := [vI x0, vR (some 34)]) (h' := h) f42_37 rfl ?_
        refine y_ia (pc' := 39) (x := (zV h 34 (x0).toNat)) f42_38 (ys34 w) k.1 rfl rfl ?_
        replace k := k.2
        refine y_s (pc' := 41) (L' := [some (vR (some 32)), some (vI x0), some (vI x1), some (vI x2), none, none]) (st' := [vI 6, vI (zV h 34 (x0).toNat)]) (h' := h) f42_39 rfl ?_
        refine y_ic (pcT := 47) (pc' := 44) (P := (zV h 34 (x0).toNat) = 6) f42_41 rfl rfl rfl (fun c => ?_) (fun c => ?_)
        · replace k := k.1 c
          refine y_s (pc' := 48) (L' := [some (vR (some 32)), some (vI x0), some (vI x1), some (vI x2), none, none]) (st' := [vI x0]) (h' := h) f42_47 rfl ?_
          refine y_s (pc' := 49) (L' := [some (vR (some 32)), some (vI x0), some (vI x1), some (vI x2), none, none]) (st' := [vI 4, vI x0]) (h' := h) f42_48 rfl ?_
          refine y_s (pc' := 50) (L' := [some (vR (some 32)), some (vI x0), some (vI x1), some (vI x2), none, none]) (st' := [vI (zw (x0 * 4))]) (h' := h) f42_49 rfl ?_
          refine y_s (pc' := 51) (L' := [some (vR (some 32)), some (vI x0), some (vI x1), some (vI x2), none, none]) (st' := [vI x1, vI (zw (x0 * 4))]) (h' := h) f42_50 rfl ?_
          refine y_s (pc' := 52) (L' := [some (vR (some 32)), some (vI x0), some (vI x1), some (vI x2), none, none]) (st' := [vI (zw ((zw (x0 * 4)) + x1))]) (h' := h) f42_51 rfl ?_
          refine y_sto (pc' := 54) (k := 4) (L' := [some (vR (some 32)), some (vI x0), some (vI x1), some (vI x2), some (vI (zw ((zw (x0 * 4)) + x1))), none]) f42_52 rfl rfl rfl rfl rfl rfl ?_
          refine y_s (pc' := 55) (L' := [some (vR (some 32)), some (vI x0), some (vI x1), some (vI x2), some (vI (zw ((zw (x0 * 4)) + x1))), none]) (st' := [vR (some 32)]) (h' := h) f42_54 rfl ?_
          refine y_gr (pc' := 58) f42_55 yf_7_14 rfl rfl (ys32 w) (yp32_0 w) rfl ?_
          refine y_gr (pc' := 61) f42_58 yf_7_149 rfl rfl (ys33 w) (yp33_4 w) rfl ?_
          refine y_s (pc' := 63) (L' := [some (vR (some 32)), some (vI x0), some (vI x1), some (vI x2), some (vI (zw ((zw (x0 * 4)) + x1))), none]) (st' := [vI (zw ((zw (x0 * 4)) + x1)), vR (some 38)]) (h' := h) f42_61 rfl ?_
          refine y_ia (pc' := 64) (x := (zV h 38 ((zw ((zw (x0 * 4)) + x1))).toNat)) f42_63 (ys38 w) k.1 rfl rfl ?_
          replace k := k.2
          refine y_sto (pc' := 66) (k := 5) (L' := [some (vR (some 32)), some (vI x0), some (vI x1), some (vI x2), some (vI (zw ((zw (x0 * 4)) + x1))), some (vI (zV h 38 ((zw ((zw (x0 * 4)) + x1))).toNat))]) f42_64 rfl rfl rfl rfl rfl rfl ?_
          refine y_s (pc' := 67) (L' := [some (vR (some 32)), some (vI x0), some (vI x1), some (vI x2), some (vI (zw ((zw (x0 * 4)) + x1))), some (vI (zV h 38 ((zw ((zw (x0 * 4)) + x1))).toNat))]) (st' := [vR (some 32)]) (h' := h) f42_66 rfl ?_
          refine y_gr (pc' := 70) f42_67 yf_7_14 rfl rfl (ys32 w) (yp32_0 w) rfl ?_
          refine y_gr (pc' := 73) f42_70 yf_7_149 rfl rfl (ys33 w) (yp33_4 w) rfl ?_
          refine y_s (pc' := 75) (L' := [some (vR (some 32)), some (vI x0), some (vI x1), some (vI x2), some (vI (zw ((zw (x0 * 4)) + x1))), some (vI (zV h 38 ((zw ((zw (x0 * 4)) + x1))).toNat))]) (st' := [vI (zw ((zw (x0 * 4)) + x1)), vR (some 38)]) (h' := h) f42_73 rfl ?_
          refine y_s (pc' := 76) (L' := [some (vR (some 32)), some (vI x0), some (vI x1), some (vI x2), some (vI (zw ((zw (x0 * 4)) + x1))), some (vI (zV h 38 ((zw ((zw (x0 * 4)) + x1))).toNat))]) (st' := [vI x2, vI (zw ((zw (x0 * 4)) + x1)), vR (some 38)]) (h' := h) f42_75 rfl ?_
          refine y_is (pc' := 77) (h' := (zsetV h 38 ((zw ((zw (x0 * 4)) + x1))).toNat x2)) f42_76 (ys38 w) (by decide) k.1 rfl rfl ?_
          replace k := k.2
          refine y_s (pc' := 79) (L' := [some (vR (some 32)), some (vI x0), some (vI x1), some (vI x2), some (vI (zw ((zw (x0 * 4)) + x1))), some (vI (zV h 38 ((zw ((zw (x0 * 4)) + x1))).toNat))]) (st' := [vI (zV h 38 ((zw ((zw (x0 * 4)) + x1))).toNat)]) (h' := (zsetV h 38 ((zw ((zw (x0 * 4)) + x1))).toNat x2)) f42_77 rfl ?_
          exact y_ri f42_79 ⟨rfl, k⟩
        · replace k := k.2 c
          refine y_s (pc' := 46) (L' := [some (vR (some 32)), some (vI x0), some (vI x1), some (vI x2), none, none]) (st' := [vI (-3)]) (h' := h) f42_44 rfl ?_
          exact y_ri f42_46 ⟨rfl, k⟩
      · replace k := k.2 c
        refine y_iff (pcT := 30) (pc' := 27) f42_24 rfl rfl rfl ?_
        refine y_s (pc' := 29) (L' := [some (vR (some 32)), some (vI x0), some (vI x1), some (vI x2), none, none]) (st' := [vI (-2)]) (h' := h) f42_27 rfl ?_
        exact y_ri f42_29 ⟨rfl, k⟩
    · replace k := k.2 c
      refine y_iff (pcT := 18) (pc' := 16) f42_13 rfl rfl rfl ?_
      refine y_s (pc' := 17) (L' := [some (vR (some 32)), some (vI x0), some (vI x1), some (vI x2), none, none]) (st' := [vI (-1)]) (h' := h) f42_16 rfl ?_
      exact y_ri f42_17 ⟨rfl, k⟩
  · replace k := k.2 c
    refine y_ift (pcT := 16) f42_5 rfl rfl ?_
    refine y_s (pc' := 17) (L' := [some (vR (some 32)), some (vI x0), some (vI x1), some (vI x2), none, none]) (st' := [vI (-1)]) (h' := h) f42_16 rfl ?_
    exact y_ri f42_17 ⟨rfl, k⟩
/-- HatterTunes.feed(I)I -/
theorem E43 {d : Nat} {K : Int → Hp → Prop} (w : yWF zl nl h) {x0 : Int} (hd : 1 ≤ d) (k : ((((0 : Int) ≤ x0 ∧ x0 < 128) → (((100 ≤ zV h 90 1) → K (-4) h) ∧ (¬ ((100 ≤ zV h 90 1)) → yI (d - 1) 45 [vR (some 90), vI x0] h (fun x h' => ZW d prog_1_method_12_code 7 36 [some (vR (some 32)), some (vI x0)] [vI x] h' (yq 1 (yqI K)))))) ∧ (¬ (((0 : Int) ≤ x0 ∧ x0 < 128)) → K (-2) h))) : yI d 43 [vR (some 32), vI x0] h K := by
  refine y_en (L := [some (vR (some 32)), some (vI x0)]) rfl rfl ?_
  refine y_s (pc' := 1) (L' := [some (vR (some 32)), some (vI x0)]) (st' := [vI x0]) (h' := h) f43_0 rfl ?_
  refine y_s (pc' := 4) (L' := [some (vR (some 32)), some (vI x0)]) (st' := [vI 128, vI x0]) (h' := h) f43_1 rfl ?_
  refine y_cI (pc' := 7) (as := [vI x0, vI 128]) (r := []) f43_4 rfl (by omega) rfl ?_
  refine sp10 w (fun c => ?_) (fun c => ?_)
  · replace k := k.1 c
    refine y_ift (pcT := 13) f43_7 rfl rfl ?_
    refine y_s (pc' := 14) (L' := [some (vR (some 32)), some (vI x0)]) (st' := [vR (some 32)]) (h' := h) f43_13 rfl ?_
    refine y_gr (pc' := 17) f43_14 yf_7_27 rfl rfl (ys32 w) (yp32_4 w) rfl ?_
    refine y_cI (pc' := 20) (as := [vR (some 90)]) (r := []) f43_17 (yzv ym_7_152 rfl (ys90 w) rfl rfl) (by omega) rfl ?_
    refine sp44 w (fun c => ?_) (fun c => ?_)
    · replace k := k.1 c
      refine y_iff (pcT := 28) (pc' := 23) f43_20 rfl rfl rfl ?_
      refine y_s (pc' := 25) (L' := [some (vR (some 32)), some (vI x0)]) (st' := [vI (-4)]) (h' := h) f43_23 rfl ?_
      refine y_go (pc' := 36) f43_25 rfl ?_
      exact y_ri f43_36 ⟨rfl, k⟩
    · replace k := k.2 c
      refine y_ift (pcT := 28) f43_20 rfl rfl ?_
      refine y_s (pc' := 29) (L' := [some (vR (some 32)), some (vI x0)]) (st' := [vR (some 32)]) (h' := h) f43_28 rfl ?_
      refine y_gr (pc' := 32) f43_29 yf_7_27 rfl rfl (ys32 w) (yp32_4 w) rfl ?_
      refine y_s (pc' := 33) (L' := [some (vR (some 32)), some (vI x0)]) (st' := [vI x0, vR (some 90)]) (h' := h) f43_32 rfl ?_
      refine y_cI (pc' := 36) (as := [vR (some 90), vI x0]) (r := []) f43_33 (yzv ym_7_153 rfl (ys90 w) rfl rfl) (by omega) rfl ?_
      exact k
  · replace k := k.2 c
    refine y_iff (pcT := 13) (pc' := 10) f43_7 rfl rfl rfl ?_
    refine y_s (pc' := 12) (L' := [some (vR (some 32)), some (vI x0)]) (st' := [vI (-2)]) (h' := h) f43_10 rfl ?_
    exact y_ri f43_12 ⟨rfl, k⟩
theorem W43_36 {d : Nat} {K : Int → Hp → Prop} (w : yWF zl nl h) {l1 : Int} {s0 : Int} (k : K s0 h) : ZW d prog_1_method_12_code 7 36 [some (vR (some 32)), some (vI l1)] [vI s0] h (yq 1 (yqI K)) := by
  exact y_ri f43_36 ⟨rfl, k⟩
/-- HatterTunes$House.notesTogether()I -/
theorem E77 {d : Nat} {K : Int → Hp → Prop} (w : yWF zl nl h) {a : Nat} (ha : yHs a) (k : ZW d prog_4_method_18_code 2 4 [some (vR (some a)), some (vI 0), some (vI 0), none] [] h (yq 1 (yqI K))) : yI d 77 [vR (some a)] h K := by
  refine y_en (L := [some (vR (some a)), none, none, none]) rfl rfl ?_
  refine y_s (pc' := 1) (L' := [some (vR (some a)), none, none, none]) (st' := [vI 0]) (h' := h) f77_0 rfl ?_
  refine y_sto (pc' := 2) (k := 1) (L' := [some (vR (some a)), some (vI 0), none, none]) f77_1 rfl rfl rfl rfl rfl rfl ?_
  refine y_s (pc' := 3) (L' := [some (vR (some a)), some (vI 0), none, none]) (st' := [vI 0]) (h' := h) f77_2 rfl ?_
  refine y_sto (pc' := 4) (k := 2) (L' := [some (vR (some a)), some (vI 0), some (vI 0), none]) f77_3 rfl rfl rfl rfl rfl rfl ?_
  exact k
theorem W77_4 {d : Nat} {K : Int → Hp → Prop} (w : yWF zl nl h) {a : Nat} (ha : yHs a) {l1 : Int} {l2 : Int} {l3 : Option Int} (k : (((zV h a 10) ≤ l2 → K l1 h) ∧ (¬ ((zV h a 10) ≤ l2) → ZW d prog_4_method_18_code 2 14 [some (vR (some a)), some (vI l1), some (vI l2), some (vI 0)] [] h (yq 1 (yqI K))))) : ZW d prog_4_method_18_code 2 4 [some (vR (some a)), some (vI l1), some (vI l2), yo l3] [] h (yq 1 (yqI K)) := by
  refine y_s (pc' := 5) (L' := [some (vR (some a)), some (vI l1), some (vI l2), yo l3]) (st' := [vI l2]) (h' := h) f77_4 rfl ?_
  refine y_s (pc' := 6) (L' := [some (vR (some a)), some (vI l1), some (vI l2), yo l3]) (st' := [vR (some a), vI l2]) (h' := h) f77_5 rfl ?_
  refine y_gi (pc' := 9) f77_6 yf_2_65 rfl rfl (ysH0 w ha) rfl ?_
  refine y_ic (pcT := 41) (pc' := 12) (P := (zV h a 10) ≤ l2) f77_9 rfl rfl rfl (fun c => ?_) (fun c => ?_)
  · replace k := k.1 c
    refine y_s (pc' := 42) (L' := [some (vR (some a)), some (vI l1), some (vI l2), yo l3]) (st' := [vI l1]) (h' := h) f77_41 rfl ?_
    exact y_ri f77_42 ⟨rfl, k⟩
  · replace k := k.2 c
    refine y_s (pc' := 13) (L' := [some (vR (some a)), some (vI l1), some (vI l2), yo l3]) (st' := [vI 0]) (h' := h) f77_12 rfl ?_
    refine y_sto (pc' := 14) (k := 3) (L' := [some (vR (some a)), some (vI l1), some (vI l2), some (vI 0)]) f77_13 rfl rfl rfl rfl rfl rfl ?_
    exact k
theorem W77_14 {d : Nat} {K : Int → Hp → Prop} (w : yWF zl nl h) {a : Nat} (ha : yHs a) {l1 : Int} {l2 : Int} {l3 : Int} (hd : 5 ≤ d) (k : ((6 ≤ l3 → ZW d prog_4_method_18_code 2 4 [some (vR (some a)), some (vI l1), some (vI (zw (l2 + 1))), some (vI l3)] [] h (yq 1 (yqI K))) ∧ (¬ (6 ≤ l3) → ((yHOk h a) ∧ (((0 : Int) ≤ l2 ∧ l2 < 6 ∧ (0 : Int) ≤ l3 ∧ l3 < 6) ∧ (∀ h_27, ySm h h_27 → ZW d prog_4_method_18_code 2 14 [some (vR (some a)), some (vI (zw (l1 + (ynote h a l2 l3)))), some (vI l2), some (vI (zw (l3 + 1)))] [] h_27 (yq 1 (yqI K)))))))) : ZW d prog_4_method_18_code 2 14 [some (vR (some a)), some (vI l1), some (vI l2), some (vI l3)] [] h (yq 1 (yqI K)) := by
  refine y_s (pc' := 15) (L' := [some (vR (some a)), some (vI l1), some (vI l2), some (vI l3)]) (st' := [vI l3]) (h' := h) f77_14 rfl ?_
  refine y_s (pc' := 17) (L' := [some (vR (some a)), some (vI l1), some (vI l2), some (vI l3)]) (st' := [vI 6, vI l3]) (h' := h) f77_15 rfl ?_
  refine y_ic (pcT := 35) (pc' := 20) (P := 6 ≤ l3) f77_17 rfl rfl rfl (fun c => ?_) (fun c => ?_)
  · replace k := k.1 c
    refine y_inc (pc' := 38) (L' := [some (vR (some a)), some (vI l1), some (vI (zw (l2 + 1))), some (vI l3)]) f77_35 rfl rfl rfl rfl ?_
    refine y_go (pc' := 4) f77_38 rfl ?_
    exact k
  · replace k := k.2 c
    refine y_s (pc' := 21) (L' := [some (vR (some a)), some (vI l1), some (vI l2), some (vI l3)]) (st' := [vI l1]) (h' := h) f77_20 rfl ?_
    refine y_s (pc' := 22) (L' := [some (vR (some a)), some (vI l1), some (vI l2), some (vI l3)]) (st' := [vR (some a), vI l1]) (h' := h) f77_21 rfl ?_
    refine y_s (pc' := 23) (L' := [some (vR (some a)), some (vI l1), some (vI l2), some (vI l3)]) (st' := [vI l2, vR (some a), vI l1]) (h' := h) f77_22 rfl ?_
    refine y_s (pc' := 24) (L' := [some (vR (some a)), some (vI l1), some (vI l2), some (vI l3)]) (st' := [vI l3, vI l2, vR (some a), vI l1]) (h' := h) f77_23 rfl ?_
    refine y_cI (pc' := 27) (as := [vR (some a), vI l2, vI l3]) (r := [vI l1]) f77_24 (yzv ym_2_111 rfl (ysH0 w ha) rfl rfl) (by omega) rfl ?_
    have p0 := k.1
    replace k := k.2
    have p1 := k.1
    replace k := k.2
    refine sp17 w ha (by omega) p0 p1 (fun h_27 m_27 => ?_)
    replace k := k h_27 m_27
    have w := m_27.wf w
    refine y_s (pc' := 28) (L' := [some (vR (some a)), some (vI l1), some (vI l2), some (vI l3)]) (st' := [vI (zw (l1 + (ynote h a l2 l3)))]) (h' := h_27) f77_27 rfl ?_
    refine y_sto (pc' := 29) (k := 1) (L' := [some (vR (some a)), some (vI (zw (l1 + (ynote h a l2 l3)))), some (vI l2), some (vI l3)]) f77_28 rfl rfl rfl rfl rfl rfl ?_
    refine y_inc (pc' := 32) (L' := [some (vR (some a)), some (vI (zw (l1 + (ynote h a l2 l3)))), some (vI l2), some (vI (zw (l3 + 1)))]) f77_29 rfl rfl rfl rfl ?_
    refine y_go (pc' := 14) f77_32 rfl ?_
    exact k
/-- HatterTunes$House.goYear()V -/
theorem E30 {d : Nat} {K : Hp → Prop} (w : yWF zl nl h) {a : Nat} (ha : yHs a) (k : (∀ s, zP h a 12 = some s → ySh s → (((zV h s 4) ≤ 0 → ZW d prog_4_method_10_code 2 33 [some (vR (some a)), some (vI 0), some (vI 0)] [] h (yq 0 (yqU K))) ∧ (¬ ((zV h s 4) ≤ 0) → (∀ s, zP h a 12 = some s → ySh s → ((zV h s 4) ≠ 0 ∧ (((zrem (zV h a 11) (zV h s 4)) ≠ 0 → ZW d prog_4_method_10_code 2 33 [some (vR (some a)), some (vI 0), some (vI 0)] [] h (yq 0 (yqU K))) ∧ (¬ ((zrem (zV h a 11) (zV h s 4)) ≠ 0) → ZW d prog_4_method_10_code 2 33 [some (vR (some a)), some (vI 1), some (vI 0)] [] h (yq 0 (yqU K)))))))))) : yU d 30 [vR (some a)] h K := by
  refine y_en (L := [some (vR (some a)), none, none]) rfl rfl ?_
  refine y_s (pc' := 1) (L' := [some (vR (some a)), none, none]) (st' := [vR (some a)]) (h' := h) f30_0 rfl ?_
  obtain ⟨s, es, hs⟩ := ypH12 (a := a) w ha
  replace k := k s es hs
  refine y_gr (pc' := 4) f30_1 yf_2_51 rfl rfl (ysH0 w ha) es rfl ?_
  refine y_gi (pc' := 7) f30_4 yf_2_90 rfl rfl (ysS0 w hs) rfl ?_
  refine y_if (pcT := 29) (pc' := 10) (P := (zV h s 4) ≤ 0) f30_7 rfl rfl rfl (fun c => ?_) (fun c => ?_)
  · replace k := k.1 c
    refine y_s (pc' := 30) (L' := [some (vR (some a)), none, none]) (st' := [vI 0]) (h' := h) f30_29 rfl ?_
    refine y_sto (pc' := 31) (k := 1) (L' := [some (vR (some a)), some (vI 0), none]) f30_30 rfl rfl rfl rfl rfl rfl ?_
    refine y_s (pc' := 32) (L' := [some (vR (some a)), some (vI 0), none]) (st' := [vI 0]) (h' := h) f30_31 rfl ?_
    refine y_sto (pc' := 33) (k := 2) (L' := [some (vR (some a)), some (vI 0), some (vI 0)]) f30_32 rfl rfl rfl rfl rfl rfl ?_
    exact k
  · replace k := k.2 c
    refine y_s (pc' := 11) (L' := [some (vR (some a)), none, none]) (st' := [vR (some a)]) (h' := h) f30_10 rfl ?_
    refine y_gi (pc' := 14) f30_11 yf_2_69 rfl rfl (ysH0 w ha) rfl ?_
    refine y_s (pc' := 15) (L' := [some (vR (some a)), none, none]) (st' := [vR (some a), vI (zV h a 11)]) (h' := h) f30_14 rfl ?_
    obtain ⟨s, es, hs⟩ := ypH12 (a := a) w ha
    replace k := k s es hs
    refine y_gr (pc' := 18) f30_15 yf_2_51 rfl rfl (ysH0 w ha) es rfl ?_
    refine y_gi (pc' := 21) f30_18 yf_2_90 rfl rfl (ysS0 w hs) rfl ?_
    refine y_rm (pc' := 22) f30_21 k.1 rfl ?_
    replace k := k.2
    refine y_if (pcT := 29) (pc' := 25) (P := (zrem (zV h a 11) (zV h s 4)) ≠ 0) f30_22 rfl rfl rfl (fun c => ?_) (fun c => ?_)
    · replace k := k.1 c
      refine y_s (pc' := 30) (L' := [some (vR (some a)), none, none]) (st' := [vI 0]) (h' := h) f30_29 rfl ?_
      refine y_sto (pc' := 31) (k := 1) (L' := [some (vR (some a)), some (vI 0), none]) f30_30 rfl rfl rfl rfl rfl rfl ?_
      refine y_s (pc' := 32) (L' := [some (vR (some a)), some (vI 0), none]) (st' := [vI 0]) (h' := h) f30_31 rfl ?_
      refine y_sto (pc' := 33) (k := 2) (L' := [some (vR (some a)), some (vI 0), some (vI 0)]) f30_32 rfl rfl rfl rfl rfl rfl ?_
      exact k
    · replace k := k.2 c
      refine y_s (pc' := 26) (L' := [some (vR (some a)), none, none]) (st' := [vI 1]) (h' := h) f30_25 rfl ?_
      refine y_go (pc' := 30) f30_26 rfl ?_
      refine y_sto (pc' := 31) (k := 1) (L' := [some (vR (some a)), some (vI 1), none]) f30_30 rfl rfl rfl rfl rfl rfl ?_
      refine y_s (pc' := 32) (L' := [some (vR (some a)), some (vI 1), none]) (st' := [vI 0]) (h' := h) f30_31 rfl ?_
      refine y_sto (pc' := 33) (k := 2) (L' := [some (vR (some a)), some (vI 1), some (vI 0)]) f30_32 rfl rfl rfl rfl rfl rfl ?_
      exact k
theorem W30_33 {d : Nat} {K : Hp → Prop} (w : yWF zl nl h) {a : Nat} (ha : yHs a) {l1 : Int} {l2 : Int} (hd : 2 ≤ d) (k : (((zV h a 10) ≤ l2 → K (zsetV h a 11 (zw ((zV h a 11) + 1)))) ∧ (¬ ((zV h a 10) ≤ l2) → ((l1 = 0 → ((0 ≤ l2 ∧ l2 < 6) ∧ ((0 ≤ l2 ∧ l2 < 6) ∧ ZW d prog_4_method_10_code 2 33 [some (vR (some a)), some (vI l1), some (vI (zw (l2 + 1)))] [] (zsetV h (a + 3) (l2).toNat (ymin (zw ((zV h (a + 3) (l2).toNat) + 1)) 9999)) (yq 0 (yqU K))))) ∧ (¬ (l1 = 0) → (((0 : Int) ≤ l2 ∧ l2 < 6 ∧ (0 : Int) ≤ (zrem (zw ((zV h a 11) + l2)) 6) ∧ (zrem (zw ((zV h a 11) + l2)) 6) < 6) ∧ ((0 ≤ l2 ∧ l2 < 6) ∧ ((0 ≤ l2 ∧ l2 < 6) ∧ (∀ h_79, (zsetV (zsetV h (a + 4) (6 * l2 + (zrem (zw ((zV h a 11) + l2)) 6)).toNat (zrem (zw (zV h (a + 4) (6 * l2 + (zrem (zw ((zV h a 11) + l2)) 6)).toNat + 1)) 10)) (a + 3) (l2).toNat (ymin (zw ((zV (zsetV h (a + 4) (6 * l2 + (zrem (zw ((zV h a 11) + l2)) 6)).toNat (zrem (zw (zV h (a + 4) (6 * l2 + (zrem (zw ((zV h a 11) + l2)) 6)).toNat + 1)) 10)) (a + 3) (l2).toNat) + 1)) 9999)) = h_79 → ZW d prog_4_method_10_code 2 33 [some (vR (some a)), some (vI l1), some (vI (zw (l2 + 1)))] [] h_79 (yq 0 (yqU K))))))))))) : ZW d prog_4_method_10_code 2 33 [some (vR (some a)), some (vI l1), some (vI l2)] [] h (yq 0 (yqU K)) := by
  refine y_s (pc' := 34) (L' := [some (vR (some a)), some (vI l1), some (vI l2)]) (st' := [vI l2]) (h' := h) f30_33 rfl ?_
  refine y_s (pc' := 35) (L' := [some (vR (some a)), some (vI l1), some (vI l2)]) (st' := [vR (some a), vI l2]) (h' := h) f30_34 rfl ?_
  refine y_gi (pc' := 38) f30_35 yf_2_65 rfl rfl (ysH0 w ha) rfl ?_
  refine y_ic (pcT := 85) (pc' := 41) (P := (zV h a 10) ≤ l2) f30_38 rfl rfl rfl (fun c => ?_) (fun c => ?_)
  · replace k := k.1 c
    refine y_s (pc' := 86) (L' := [some (vR (some a)), some (vI l1), some (vI l2)]) (st' := [vR (some a)]) (h' := h) f30_85 rfl ?_
    refine y_s (pc' := 87) (L' := [some (vR (some a)), some (vI l1), some (vI l2)]) (st' := [vR (some a), vR (some a)]) (h' := h) f30_86 rfl ?_
    refine y_gi (pc' := 90) f30_87 yf_2_69 rfl rfl (ysH0 w ha) rfl ?_
    refine y_s (pc' := 91) (L' := [some (vR (some a)), some (vI l1), some (vI l2)]) (st' := [vI 1, vI (zV h a 11), vR (some a)]) (h' := h) f30_90 rfl ?_
    refine y_s (pc' := 92) (L' := [some (vR (some a)), some (vI l1), some (vI l2)]) (st' := [vI (zw ((zV h a 11) + 1)), vR (some a)]) (h' := h) f30_91 rfl ?_
    refine y_pi (pc' := 95) f30_92 yf_2_69 rfl rfl (ysH0 w ha) (yH_32 ha) (Or.inl rfl) rfl ?_
    exact y_ru f30_95 ⟨rfl, k⟩
  · replace k := k.2 c
    refine y_s (pc' := 42) (L' := [some (vR (some a)), some (vI l1), some (vI l2)]) (st' := [vI l1]) (h' := h) f30_41 rfl ?_
    refine y_if (pcT := 59) (pc' := 45) (P := l1 = 0) f30_42 rfl rfl rfl (fun c => ?_) (fun c => ?_)
    · replace k := k.1 c
      refine y_s (pc' := 60) (L' := [some (vR (some a)), some (vI l1), some (vI l2)]) (st' := [vR (some a)]) (h' := h) f30_59 rfl ?_
      refine y_gr (pc' := 63) f30_60 yf_2_18 rfl rfl (ysH0 w ha) (ypH2 w ha) rfl ?_
      refine y_s (pc' := 64) (L' := [some (vR (some a)), some (vI l1), some (vI l2)]) (st' := [vI l2, vR (some (a + 3))]) (h' := h) f30_63 rfl ?_
      refine y_s (pc' := 65) (L' := [some (vR (some a)), some (vI l1), some (vI l2)]) (st' := [vR (some a), vI l2, vR (some (a + 3))]) (h' := h) f30_64 rfl ?_
      refine y_gr (pc' := 68) f30_65 yf_2_18 rfl rfl (ysH0 w ha) (ypH2 w ha) rfl ?_
      refine y_s (pc' := 69) (L' := [some (vR (some a)), some (vI l1), some (vI l2)]) (st' := [vI l2, vR (some (a + 3)), vI l2, vR (some (a + 3))]) (h' := h) f30_68 rfl ?_
      refine y_ia (pc' := 70) (x := (zV h (a + 3) (l2).toNat)) f30_69 (ysH3 w ha) k.1 rfl rfl ?_
      replace k := k.2
      refine y_s (pc' := 71) (L' := [some (vR (some a)), some (vI l1), some (vI l2)]) (st' := [vI 1, vI (zV h (a + 3) (l2).toNat), vI l2, vR (some (a + 3))]) (h' := h) f30_70 rfl ?_
      refine y_s (pc' := 72) (L' := [some (vR (some a)), some (vI l1), some (vI l2)]) (st' := [vI (zw ((zV h (a + 3) (l2).toNat) + 1)), vI l2, vR (some (a + 3))]) (h' := h) f30_71 rfl ?_
      refine y_s (pc' := 75) (L' := [some (vR (some a)), some (vI l1), some (vI l2)]) (st' := [vI 9999, vI (zw ((zV h (a + 3) (l2).toNat) + 1)), vI l2, vR (some (a + 3))]) (h' := h) f30_72 rfl ?_
      refine y_mn (pc' := 78) f30_75 ym_2_93 (by omega) rfl rfl ?_
      refine y_is (pc' := 79) (h' := (zsetV h (a + 3) (l2).toNat (ymin (zw ((zV h (a + 3) (l2).toNat) + 1)) 9999))) f30_78 (ysH3 w ha) (Nat.le_add_right_of_le (yH_32 ha)) k.1 rfl rfl ?_
      replace k := k.2
      refine y_inc (pc' := 82) (L' := [some (vR (some a)), some (vI l1), some (vI (zw (l2 + 1)))]) f30_79 rfl rfl rfl rfl ?_
      refine y_go (pc' := 33) f30_82 rfl ?_
      exact k
    · replace k := k.2 c
      refine y_s (pc' := 46) (L' := [some (vR (some a)), some (vI l1), some (vI l2)]) (st' := [vR (some a)]) (h' := h) f30_45 rfl ?_
      refine y_s (pc' := 47) (L' := [some (vR (some a)), some (vI l1), some (vI l2)]) (st' := [vI l2, vR (some a)]) (h' := h) f30_46 rfl ?_
      refine y_s (pc' := 48) (L' := [some (vR (some a)), some (vI l1), some (vI l2)]) (st' := [vR (some a), vI l2, vR (some a)]) (h' := h) f30_47 rfl ?_
      refine y_gi (pc' := 51) f30_48 yf_2_69 rfl rfl (ysH0 w ha) rfl ?_
      refine y_s (pc' := 52) (L' := [some (vR (some a)), some (vI l1), some (vI l2)]) (st' := [vI l2, vI (zV h a 11), vI l2, vR (some a)]) (h' := h) f30_51 rfl ?_
      refine y_s (pc' := 53) (L' := [some (vR (some a)), some (vI l1), some (vI l2)]) (st' := [vI (zw ((zV h a 11) + l2)), vI l2, vR (some a)]) (h' := h) f30_52 rfl ?_
      refine y_s (pc' := 55) (L' := [some (vR (some a)), some (vI l1), some (vI l2)]) (st' := [vI 6, vI (zw ((zV h a 11) + l2)), vI l2, vR (some a)]) (h' := h) f30_53 rfl ?_
      refine y_rm (pc' := 56) f30_55 (by decide) rfl ?_
      refine y_cU (pc' := 59) (as := [vR (some a), vI l2, vI (zrem (zw ((zV h a 11) + l2)) 6)]) (r := []) f30_56 (yzv ym_2_84 rfl (ysH0 w ha) rfl rfl) (by omega) rfl ?_
      have p0 := k.1
      replace k := k.2
      refine sp31 w ha (by omega) p0 ?_
      refine y_s (pc' := 60) (L' := [some (vR (some a)), some (vI l1), some (vI l2)]) (st' := [vR (some a)]) (h' := (zsetV h (a + 4) (6 * l2 + (zrem (zw ((zV h a 11) + l2)) 6)).toNat (zrem (zw (zV h (a + 4) (6 * l2 + (zrem (zw ((zV h a 11) + l2)) 6)).toNat + 1)) 10))) f30_59 rfl ?_
      refine y_gr (pc' := 63) f30_60 yf_2_18 rfl rfl (ysH0 w ha) (ypH2 w ha) rfl ?_
      refine y_s (pc' := 64) (L' := [some (vR (some a)), some (vI l1), some (vI l2)]) (st' := [vI l2, vR (some (a + 3))]) (h' := (zsetV h (a + 4) (6 * l2 + (zrem (zw ((zV h a 11) + l2)) 6)).toNat (zrem (zw (zV h (a + 4) (6 * l2 + (zrem (zw ((zV h a 11) + l2)) 6)).toNat + 1)) 10))) f30_63 rfl ?_
      refine y_s (pc' := 65) (L' := [some (vR (some a)), some (vI l1), some (vI l2)]) (st' := [vR (some a), vI l2, vR (some (a + 3))]) (h' := (zsetV h (a + 4) (6 * l2 + (zrem (zw ((zV h a 11) + l2)) 6)).toNat (zrem (zw (zV h (a + 4) (6 * l2 + (zrem (zw ((zV h a 11) + l2)) 6)).toNat + 1)) 10))) f30_64 rfl ?_
      refine y_gr (pc' := 68) f30_65 yf_2_18 rfl rfl (ysH0 w ha) (ypH2 w ha) rfl ?_
      refine y_s (pc' := 69) (L' := [some (vR (some a)), some (vI l1), some (vI l2)]) (st' := [vI l2, vR (some (a + 3)), vI l2, vR (some (a + 3))]) (h' := (zsetV h (a + 4) (6 * l2 + (zrem (zw ((zV h a 11) + l2)) 6)).toNat (zrem (zw (zV h (a + 4) (6 * l2 + (zrem (zw ((zV h a 11) + l2)) 6)).toNat + 1)) 10))) f30_68 rfl ?_
      refine y_ia (pc' := 70) (x := (zV (zsetV h (a + 4) (6 * l2 + (zrem (zw ((zV h a 11) + l2)) 6)).toNat (zrem (zw (zV h (a + 4) (6 * l2 + (zrem (zw ((zV h a 11) + l2)) 6)).toNat + 1)) 10)) (a + 3) (l2).toNat)) f30_69 (ysH3 w ha) k.1 rfl rfl ?_
      replace k := k.2
      refine y_s (pc' := 71) (L' := [some (vR (some a)), some (vI l1), some (vI l2)]) (st' := [vI 1, vI (zV (zsetV h (a + 4) (6 * l2 + (zrem (zw ((zV h a 11) + l2)) 6)).toNat (zrem (zw (zV h (a + 4) (6 * l2 + (zrem (zw ((zV h a 11) + l2)) 6)).toNat + 1)) 10)) (a + 3) (l2).toNat), vI l2, vR (some (a + 3))]) (h' := (zsetV h (a + 4) (6 * l2 + (zrem (zw ((zV h a 11) + l2)) 6)).toNat (zrem (zw (zV h (a + 4) (6 * l2 + (zrem (zw ((zV h a 11) + l2)) 6)).toNat + 1)) 10))) f30_70 rfl ?_
      refine y_s (pc' := 72) (L' := [some (vR (some a)), some (vI l1), some (vI l2)]) (st' := [vI (zw ((zV (zsetV h (a + 4) (6 * l2 + (zrem (zw ((zV h a 11) + l2)) 6)).toNat (zrem (zw (zV h (a + 4) (6 * l2 + (zrem (zw ((zV h a 11) + l2)) 6)).toNat + 1)) 10)) (a + 3) (l2).toNat) + 1)), vI l2, vR (some (a + 3))]) (h' := (zsetV h (a + 4) (6 * l2 + (zrem (zw ((zV h a 11) + l2)) 6)).toNat (zrem (zw (zV h (a + 4) (6 * l2 + (zrem (zw ((zV h a 11) + l2)) 6)).toNat + 1)) 10))) f30_71 rfl ?_
      refine y_s (pc' := 75) (L' := [some (vR (some a)), some (vI l1), some (vI l2)]) (st' := [vI 9999, vI (zw ((zV (zsetV h (a + 4) (6 * l2 + (zrem (zw ((zV h a 11) + l2)) 6)).toNat (zrem (zw (zV h (a + 4) (6 * l2 + (zrem (zw ((zV h a 11) + l2)) 6)).toNat + 1)) 10)) (a + 3) (l2).toNat) + 1)), vI l2, vR (some (a + 3))]) (h' := (zsetV h (a + 4) (6 * l2 + (zrem (zw ((zV h a 11) + l2)) 6)).toNat (zrem (zw (zV h (a + 4) (6 * l2 + (zrem (zw ((zV h a 11) + l2)) 6)).toNat + 1)) 10))) f30_72 rfl ?_
      refine y_mn (pc' := 78) f30_75 ym_2_93 (by omega) rfl rfl ?_
      refine y_is (pc' := 79) (h' := (zsetV (zsetV h (a + 4) (6 * l2 + (zrem (zw ((zV h a 11) + l2)) 6)).toNat (zrem (zw (zV h (a + 4) (6 * l2 + (zrem (zw ((zV h a 11) + l2)) 6)).toNat + 1)) 10)) (a + 3) (l2).toNat (ymin (zw ((zV (zsetV h (a + 4) (6 * l2 + (zrem (zw ((zV h a 11) + l2)) 6)).toNat (zrem (zw (zV h (a + 4) (6 * l2 + (zrem (zw ((zV h a 11) + l2)) 6)).toNat + 1)) 10)) (a + 3) (l2).toNat) + 1)) 9999))) f30_78 (ysH3 w ha) (Nat.le_add_right_of_le (yH_32 ha)) k.1 rfl rfl ?_
      replace k := k.2
      generalize e_79 : (zsetV (zsetV h (a + 4) (6 * l2 + (zrem (zw ((zV h a 11) + l2)) 6)).toNat (zrem (zw (zV h (a + 4) (6 * l2 + (zrem (zw ((zV h a 11) + l2)) 6)).toNat + 1)) 10)) (a + 3) (l2).toNat (ymin (zw ((zV (zsetV h (a + 4) (6 * l2 + (zrem (zw ((zV h a 11) + l2)) 6)).toNat (zrem (zw (zV h (a + 4) (6 * l2 + (zrem (zw ((zV h a 11) + l2)) 6)).toNat + 1)) 10)) (a + 3) (l2).toNat) + 1)) 9999)) = h_79
      replace k := k _ e_79
      have w : yWF zl nl h_79 := by rw [← e_79]; exact w
      refine y_inc (pc' := 82) (L' := [some (vR (some a)), some (vI l1), some (vI (zw (l2 + 1)))]) f30_79 rfl rfl rfl rfl ?_
      refine y_go (pc' := 33) f30_82 rfl ?_
      exact k
/-- HatterTunes$House.goYears(I)V -/
theorem E79 {d : Nat} {K : Hp → Prop} (w : yWF zl nl h) {a : Nat} (ha : yHs a) {x0 : Int} (k : ZW d prog_4_method_9_code 2 2 [some (vR (some a)), some (vI x0), some (vI 0)] [] h (yq 0 (yqU K))) : yU d 79 [vR (some a), vI x0] h K := by
  refine y_en (L := [some (vR (some a)), some (vI x0), none]) rfl rfl ?_
  refine y_s (pc' := 1) (L' := [some (vR (some a)), some (vI x0), none]) (st' := [vI 0]) (h' := h) f79_0 rfl ?_
  refine y_sto (pc' := 2) (k := 2) (L' := [some (vR (some a)), some (vI x0), some (vI 0)]) f79_1 rfl rfl rfl rfl rfl rfl ?_
  exact k
theorem W79_2 {d : Nat} {K : Hp → Prop} (w : yWF zl nl h) {a : Nat} (ha : yHs a) {l1 : Int} {l2 : Int} (hd : 1 ≤ d) (k : ((l1 ≤ l2 → K h) ∧ (¬ (l1 ≤ l2) → yU (d - 1) 30 [vR (some a)] h (fun h' => ZW d prog_4_method_9_code 2 11 [some (vR (some a)), some (vI l1), some (vI l2)] [] h' (yq 0 (yqU K)))))) : ZW d prog_4_method_9_code 2 2 [some (vR (some a)), some (vI l1), some (vI l2)] [] h (yq 0 (yqU K)) := by
  refine y_s (pc' := 3) (L' := [some (vR (some a)), some (vI l1), some (vI l2)]) (st' := [vI l2]) (h' := h) f79_2 rfl ?_
  refine y_s (pc' := 4) (L' := [some (vR (some a)), some (vI l1), some (vI l2)]) (st' := [vI l1, vI l2]) (h' := h) f79_3 rfl ?_
  refine y_ic (pcT := 17) (pc' := 7) (P := l1 ≤ l2) f79_4 rfl rfl rfl (fun c => ?_) (fun c => ?_)
  · replace k := k.1 c
    exact y_ru f79_17 ⟨rfl, k⟩
  · replace k := k.2 c
    refine y_s (pc' := 8) (L' := [some (vR (some a)), some (vI l1), some (vI l2)]) (st' := [vR (some a)]) (h' := h) f79_7 rfl ?_
    refine y_cU (pc' := 11) (as := [vR (some a)]) (r := []) f79_8 (yzv ym_2_87 rfl (ysH0 w ha) rfl rfl) (by omega) rfl ?_
    exact k
theorem W79_11 {d : Nat} {K : Hp → Prop} (w : yWF zl nl h) {a : Nat} (ha : yHs a) {l1 : Int} {l2 : Int} (k : ZW d prog_4_method_9_code 2 2 [some (vR (some a)), some (vI l1), some (vI (zw (l2 + 1)))] [] h (yq 0 (yqU K))) : ZW d prog_4_method_9_code 2 11 [some (vR (some a)), some (vI l1), some (vI l2)] [] h (yq 0 (yqU K)) := by
  refine y_inc (pc' := 14) (L' := [some (vR (some a)), some (vI l1), some (vI (zw (l2 + 1)))]) f79_11 rfl rfl rfl rfl ?_
  refine y_go (pc' := 2) f79_14 rfl ?_
  exact k
/-- HatterTunes$House.followPlan()V -/
theorem E98 {d : Nat} {K : Hp → Prop} (w : yWF zl nl h) {a : Nat} (ha : yHs a) (k : ZW d prog_4_method_20_code 2 2 [some (vR (some a)), some (vI 0), none] [] h (yq 0 (yqU K))) : yU d 98 [vR (some a)] h K := by
  refine y_en (L := [some (vR (some a)), none, none]) rfl rfl ?_
  refine y_s (pc' := 1) (L' := [some (vR (some a)), none, none]) (st' := [vI 0]) (h' := h) f98_0 rfl ?_
  refine y_sto (pc' := 2) (k := 1) (L' := [some (vR (some a)), some (vI 0), none]) f98_1 rfl rfl rfl rfl rfl rfl ?_
  exact k
theorem W98_2 {d : Nat} {K : Hp → Prop} (w : yWF zl nl h) {a : Nat} (ha : yHs a) {l1 : Int} {l2 : Option Int} (hd : 1 ≤ d) (k : (((zV h ((a + 11)) 1) ≤ l1 → K h) ∧ (¬ ((zV h ((a + 11)) 1) ≤ l1) → (((0 : Int) ≤ l1 ∧ (0 : Int) ≤ 1 ∧ 4 * l1 + 1 < (40 : Int)) ∧ (((0 : Int) ≤ l1 ∧ (0 : Int) ≤ 0 ∧ 4 * l1 + 0 < (40 : Int)) ∧ (((zV h (((a + 11)) + 1) (4 * l1 + 0).toNat) = 0 → yU (d - 1) 30 [vR (some a)] h (fun h' => ZW d prog_4_method_20_code 2 64 [some (vR (some a)), some (vI l1), some (vI (zV h (((a + 11)) + 1) (4 * l1 + 1).toNat))] [] h' (yq 0 (yqU K)))) ∧ ((zV h (((a + 11)) + 1) (4 * l1 + 0).toNat) = 1 → yU (d - 1) 12 [vR (some a), vI (zV h (((a + 11)) + 1) (4 * l1 + 1).toNat), vI 0] h (fun h' => ZW d prog_4_method_20_code 2 73 [some (vR (some a)), some (vI l1), some (vI (zV h (((a + 11)) + 1) (4 * l1 + 1).toNat))] [] h' (yq 0 (yqU K)))) ∧ ((zV h (((a + 11)) + 1) (4 * l1 + 0).toNat) = 2 → ((0 ≤ (zV h (((a + 11)) + 1) (4 * l1 + 1).toNat) ∧ (zV h (((a + 11)) + 1) (4 * l1 + 1).toNat) < 6) ∧ ZW d prog_4_method_20_code 2 2 [some (vR (some a)), some (vI (zw (l1 + 1))), some (vI (zV h (((a + 11)) + 1) (4 * l1 + 1).toNat))] [] (zsetV h (a + 3) ((zV h (((a + 11)) + 1) (4 * l1 + 1).toNat)).toNat 0) (yq 0 (yqU K)))) ∧ ((zV h (((a + 11)) + 1) (4 * l1 + 0).toNat) < 0 ∨ 2 < (zV h (((a + 11)) + 1) (4 * l1 + 0).toNat) → yU (d - 1) 99 [vR (some a), vI (zV h (((a + 11)) + 1) (4 * l1 + 1).toNat)] h (fun h' => ZW d prog_4_method_20_code 2 91 [some (vR (some a)), some (vI l1), some (vI (zV h (((a + 11)) + 1) (4 * l1 + 1).toNat))] [] h' (yq 0 (yqU K)))))))))) : ZW d prog_4_method_20_code 2 2 [some (vR (some a)), some (vI l1), yo l2] [] h (yq 0 (yqU K)) := by
  refine y_s (pc' := 3) (L' := [some (vR (some a)), some (vI l1), yo l2]) (st' := [vI l1]) (h' := h) f98_2 rfl ?_
  refine y_s (pc' := 4) (L' := [some (vR (some a)), some (vI l1), yo l2]) (st' := [vR (some a), vI l1]) (h' := h) f98_3 rfl ?_
  refine y_gr (pc' := 7) f98_4 yf_2_42 rfl rfl (ysH0 w ha) (ypH8 w ha) rfl ?_
  refine y_gi (pc' := 10) f98_7 yf_2_114 rfl rfl (ysR0 w (yR11 ha)) rfl ?_
  refine y_ic (pcT := 97) (pc' := 13) (P := (zV h ((a + 11)) 1) ≤ l1) f98_10 rfl rfl rfl (fun c => ?_) (fun c => ?_)
  · replace k := k.1 c
    exact y_ru f98_97 ⟨rfl, k⟩
  · replace k := k.2 c
    refine y_s (pc' := 14) (L' := [some (vR (some a)), some (vI l1), yo l2]) (st' := [vR (some a)]) (h' := h) f98_13 rfl ?_
    refine y_gr (pc' := 17) f98_14 yf_2_42 rfl rfl (ysH0 w ha) (ypH8 w ha) rfl ?_
    refine y_s (pc' := 18) (L' := [some (vR (some a)), some (vI l1), yo l2]) (st' := [vI l1, vR (some ((a + 11)))]) (h' := h) f98_17 rfl ?_
    refine y_s (pc' := 19) (L' := [some (vR (some a)), some (vI l1), yo l2]) (st' := [vI 1, vI l1, vR (some ((a + 11)))]) (h' := h) f98_18 rfl ?_
    refine y_cI (pc' := 22) (as := [vR (some ((a + 11))), vI l1, vI 1]) (r := []) f98_19 (yzv ym_2_126 rfl (ysR0 w (yR11 ha)) rfl rfl) (by omega) rfl ?_
    have p0 := k.1
    replace k := k.2
    refine sp26 w (yR11 ha) p0 ?_
    refine y_sto (pc' := 23) (k := 2) (L' := [some (vR (some a)), some (vI l1), some (vI (zV h (((a + 11)) + 1) (4 * l1 + 1).toNat))]) f98_22 rfl rfl rfl rfl rfl rfl ?_
    refine y_s (pc' := 24) (L' := [some (vR (some a)), some (vI l1), some (vI (zV h (((a + 11)) + 1) (4 * l1 + 1).toNat))]) (st' := [vR (some a)]) (h' := h) f98_23 rfl ?_
    refine y_gr (pc' := 27) f98_24 yf_2_42 rfl rfl (ysH0 w ha) (ypH8 w ha) rfl ?_
    refine y_s (pc' := 28) (L' := [some (vR (some a)), some (vI l1), some (vI (zV h (((a + 11)) + 1) (4 * l1 + 1).toNat))]) (st' := [vI l1, vR (some ((a + 11)))]) (h' := h) f98_27 rfl ?_
    refine y_s (pc' := 29) (L' := [some (vR (some a)), some (vI l1), some (vI (zV h (((a + 11)) + 1) (4 * l1 + 1).toNat))]) (st' := [vI 0, vI l1, vR (some ((a + 11)))]) (h' := h) f98_28 rfl ?_
    refine y_cI (pc' := 32) (as := [vR (some ((a + 11))), vI l1, vI 0]) (r := []) f98_29 (yzv ym_2_126 rfl (ysR0 w (yR11 ha)) rfl rfl) (by omega) rfl ?_
    have p0 := k.1
    replace k := k.2
    refine sp26 w (yR11 ha) p0 ?_
    by_cases c : (zV h (((a + 11)) + 1) (4 * l1 + 0).toNat) = 0
    · refine y_tc (pc' := 60) (v := 0) f98_32 c rfl rfl rfl ?_
      replace k := k.1 c
      refine y_s (pc' := 61) (L' := [some (vR (some a)), some (vI l1), some (vI (zV h (((a + 11)) + 1) (4 * l1 + 1).toNat))]) (st' := [vR (some a)]) (h' := h) f98_60 rfl ?_
      refine y_cU (pc' := 64) (as := [vR (some a)]) (r := []) f98_61 (yzv ym_2_87 rfl (ysH0 w ha) rfl rfl) (by omega) rfl ?_
      exact k
    replace k := k.2
    have c0 := c
    by_cases c : (zV h (((a + 11)) + 1) (4 * l1 + 0).toNat) = 1
    · refine y_tc (pc' := 67) (v := 1) f98_32 c rfl rfl rfl ?_
      replace k := k.1 c
      refine y_s (pc' := 68) (L' := [some (vR (some a)), some (vI l1), some (vI (zV h (((a + 11)) + 1) (4 * l1 + 1).toNat))]) (st' := [vR (some a)]) (h' := h) f98_67 rfl ?_
      refine y_s (pc' := 69) (L' := [some (vR (some a)), some (vI l1), some (vI (zV h (((a + 11)) + 1) (4 * l1 + 1).toNat))]) (st' := [vI (zV h (((a + 11)) + 1) (4 * l1 + 1).toNat), vR (some a)]) (h' := h) f98_68 rfl ?_
      refine y_s (pc' := 70) (L' := [some (vR (some a)), some (vI l1), some (vI (zV h (((a + 11)) + 1) (4 * l1 + 1).toNat))]) (st' := [vI 0, vI (zV h (((a + 11)) + 1) (4 * l1 + 1).toNat), vR (some a)]) (h' := h) f98_69 rfl ?_
      refine y_cU (pc' := 73) (as := [vR (some a), vI (zV h (((a + 11)) + 1) (4 * l1 + 1).toNat), vI 0]) (r := []) f98_70 (yzv ym_2_72 rfl (ysH0 w ha) rfl rfl) (by omega) rfl ?_
      exact k
    replace k := k.2
    have c1 := c
    by_cases c : (zV h (((a + 11)) + 1) (4 * l1 + 0).toNat) = 2
    · refine y_tc (pc' := 76) (v := 2) f98_32 c rfl rfl rfl ?_
      replace k := k.1 c
      refine y_s (pc' := 77) (L' := [some (vR (some a)), some (vI l1), some (vI (zV h (((a + 11)) + 1) (4 * l1 + 1).toNat))]) (st' := [vR (some a)]) (h' := h) f98_76 rfl ?_
      refine y_gr (pc' := 80) f98_77 yf_2_18 rfl rfl (ysH0 w ha) (ypH2 w ha) rfl ?_
      refine y_s (pc' := 81) (L' := [some (vR (some a)), some (vI l1), some (vI (zV h (((a + 11)) + 1) (4 * l1 + 1).toNat))]) (st' := [vI (zV h (((a + 11)) + 1) (4 * l1 + 1).toNat), vR (some (a + 3))]) (h' := h) f98_80 rfl ?_
      refine y_s (pc' := 82) (L' := [some (vR (some a)), some (vI l1), some (vI (zV h (((a + 11)) + 1) (4 * l1 + 1).toNat))]) (st' := [vI 0, vI (zV h (((a + 11)) + 1) (4 * l1 + 1).toNat), vR (some (a + 3))]) (h' := h) f98_81 rfl ?_
      refine y_is (pc' := 83) (h' := (zsetV h (a + 3) ((zV h (((a + 11)) + 1) (4 * l1 + 1).toNat)).toNat 0)) f98_82 (ysH3 w ha) (Nat.le_add_right_of_le (yH_32 ha)) k.1 rfl rfl ?_
      replace k := k.2
      refine y_go (pc' := 91) f98_83 rfl ?_
      refine y_inc (pc' := 94) (L' := [some (vR (some a)), some (vI (zw (l1 + 1))), some (vI (zV h (((a + 11)) + 1) (4 * l1 + 1).toNat))]) f98_91 rfl rfl rfl rfl ?_
      refine y_go (pc' := 2) f98_94 rfl ?_
      exact k
    replace k := k.2
    have c2 := c
    have cc : (zV h (((a + 11)) + 1) (4 * l1 + 0).toNat) < 0 ∨ 2 < (zV h (((a + 11)) + 1) (4 * l1 + 0).toNat) := by omega
    refine y_td (pc' := 86) f98_32 cc rfl ?_
    replace k := k cc
    refine y_s (pc' := 87) (L' := [some (vR (some a)), some (vI l1), some (vI (zV h (((a + 11)) + 1) (4 * l1 + 1).toNat))]) (st' := [vR (some a)]) (h' := h) f98_86 rfl ?_
    refine y_s (pc' := 88) (L' := [some (vR (some a)), some (vI l1), some (vI (zV h (((a + 11)) + 1) (4 * l1 + 1).toNat))]) (st' := [vI (zV h (((a + 11)) + 1) (4 * l1 + 1).toNat), vR (some a)]) (h' := h) f98_87 rfl ?_
    refine y_cU (pc' := 91) (as := [vR (some a), vI (zV h (((a + 11)) + 1) (4 * l1 + 1).toNat)]) (r := []) f98_88 (yzv ym_2_132 rfl (ysH0 w ha) rfl rfl) (by omega) rfl ?_
    exact k
theorem W98_64 {d : Nat} {K : Hp → Prop} (w : yWF zl nl h) {a : Nat} (ha : yHs a) {l1 : Int} {l2 : Int} (k : ZW d prog_4_method_20_code 2 2 [some (vR (some a)), some (vI (zw (l1 + 1))), some (vI l2)] [] h (yq 0 (yqU K))) : ZW d prog_4_method_20_code 2 64 [some (vR (some a)), some (vI l1), some (vI l2)] [] h (yq 0 (yqU K)) := by
  refine y_go (pc' := 91) f98_64 rfl ?_
  refine y_inc (pc' := 94) (L' := [some (vR (some a)), some (vI (zw (l1 + 1))), some (vI l2)]) f98_91 rfl rfl rfl rfl ?_
  refine y_go (pc' := 2) f98_94 rfl ?_
  exact k
theorem W98_73 {d : Nat} {K : Hp → Prop} (w : yWF zl nl h) {a : Nat} (ha : yHs a) {l1 : Int} {l2 : Int} (k : ZW d prog_4_method_20_code 2 2 [some (vR (some a)), some (vI (zw (l1 + 1))), some (vI l2)] [] h (yq 0 (yqU K))) : ZW d prog_4_method_20_code 2 73 [some (vR (some a)), some (vI l1), some (vI l2)] [] h (yq 0 (yqU K)) := by
  refine y_go (pc' := 91) f98_73 rfl ?_
  refine y_inc (pc' := 94) (L' := [some (vR (some a)), some (vI (zw (l1 + 1))), some (vI l2)]) f98_91 rfl rfl rfl rfl ?_
  refine y_go (pc' := 2) f98_94 rfl ?_
  exact k
theorem W98_91 {d : Nat} {K : Hp → Prop} (w : yWF zl nl h) {a : Nat} (ha : yHs a) {l1 : Int} {l2 : Int} (k : ZW d prog_4_method_20_code 2 2 [some (vR (some a)), some (vI (zw (l1 + 1))), some (vI l2)] [] h (yq 0 (yqU K))) : ZW d prog_4_method_20_code 2 91 [some (vR (some a)), some (vI l1), some (vI l2)] [] h (yq 0 (yqU K)) := by
  refine y_inc (pc' := 94) (L' := [some (vR (some a)), some (vI (zw (l1 + 1))), some (vI l2)]) f98_91 rfl rfl rfl rfl ?_
  refine y_go (pc' := 2) f98_94 rfl ?_
  exact k
/-- HatterTunes$House.raiseAllBumps(I)V -/
theorem E99 {d : Nat} {K : Hp → Prop} (w : yWF zl nl h) {a : Nat} (ha : yHs a) {x0 : Int} (k : ZW d prog_4_method_8_code 2 2 [some (vR (some a)), some (vI x0), some (vI 0)] [] h (yq 0 (yqU K))) : yU d 99 [vR (some a), vI x0] h K := by
  refine y_en (L := [some (vR (some a)), some (vI x0), none]) rfl rfl ?_
  refine y_s (pc' := 1) (L' := [some (vR (some a)), some (vI x0), none]) (st' := [vI 0]) (h' := h) f99_0 rfl ?_
  refine y_sto (pc' := 2) (k := 2) (L' := [some (vR (some a)), some (vI x0), some (vI 0)]) f99_1 rfl rfl rfl rfl rfl rfl ?_
  exact k
theorem W99_2 {d : Nat} {K : Hp → Prop} (w : yWF zl nl h) {a : Nat} (ha : yHs a) {l1 : Int} {l2 : Int} (hd : 2 ≤ d) (k : ((6 ≤ l2 → K h) ∧ (¬ (6 ≤ l2) → (((0 : Int) ≤ l1 ∧ l1 < 6 ∧ (0 : Int) ≤ l2 ∧ l2 < 6) ∧ ZW d prog_4_method_8_code 2 2 [some (vR (some a)), some (vI l1), some (vI (zw (l2 + 1)))] [] (zsetV h (a + 4) (6 * l1 + l2).toNat (zrem (zw (zV h (a + 4) (6 * l1 + l2).toNat + 1)) 10)) (yq 0 (yqU K)))))) : ZW d prog_4_method_8_code 2 2 [some (vR (some a)), some (vI l1), some (vI l2)] [] h (yq 0 (yqU K)) := by
  refine y_s (pc' := 3) (L' := [some (vR (some a)), some (vI l1), some (vI l2)]) (st' := [vI l2]) (h' := h) f99_2 rfl ?_
  refine y_s (pc' := 5) (L' := [some (vR (some a)), some (vI l1), some (vI l2)]) (st' := [vI 6, vI l2]) (h' := h) f99_3 rfl ?_
  refine y_ic (pcT := 20) (pc' := 8) (P := 6 ≤ l2) f99_5 rfl rfl rfl (fun c => ?_) (fun c => ?_)
  · replace k := k.1 c
    exact y_ru f99_20 ⟨rfl, k⟩
  · replace k := k.2 c
    refine y_s (pc' := 9) (L' := [some (vR (some a)), some (vI l1), some (vI l2)]) (st' := [vR (some a)]) (h' := h) f99_8 rfl ?_
    refine y_s (pc' := 10) (L' := [some (vR (some a)), some (vI l1), some (vI l2)]) (st' := [vI l1, vR (some a)]) (h' := h) f99_9 rfl ?_
    refine y_s (pc' := 11) (L' := [some (vR (some a)), some (vI l1), some (vI l2)]) (st' := [vI l2, vI l1, vR (some a)]) (h' := h) f99_10 rfl ?_
    refine y_cU (pc' := 14) (as := [vR (some a), vI l1, vI l2]) (r := []) f99_11 (yzv ym_2_84 rfl (ysH0 w ha) rfl rfl) (by omega) rfl ?_
    have p0 := k.1
    replace k := k.2
    refine sp31 w ha (by omega) p0 ?_
    refine y_inc (pc' := 17) (L' := [some (vR (some a)), some (vI l1), some (vI (zw (l2 + 1)))]) f99_14 rfl rfl rfl rfl ?_
    refine y_go (pc' := 2) f99_17 rfl ?_
    exact k
/-- HatterTunes$Rows.copyFrom(LHatterTunes$Rows;)V -/
theorem E29 {d : Nat} {K : Hp → Prop} (w : yWF zl nl h) {a na : Nat} (ha : yRs a na) {b nb : Nat} (hb : yRs b nb) (hd : 1 ≤ d) (k : (((0 : Int) ≤ (ymin (na : Int) (nb : Int)) ∧ (0 : Int) ≤ 0 ∧ (0 : Int) ≤ 0 ∧ 0 + (ymin (na : Int) (nb : Int)) ≤ (nb : Int) ∧ 0 + (ymin (na : Int) (nb : Int)) ≤ (na : Int)) ∧ (∀ h_34, (zsetV (zcpV h (b + 1) 0 (a + 1) 0 ((ymin (na : Int) (nb : Int))).toNat) a 1 (zV (zcpV h (b + 1) 0 (a + 1) 0 ((ymin (na : Int) (nb : Int))).toNat) b 1)) = h_34 → K h_34))) : yU d 29 [vR (some a), vR (some b)] h K := by
  refine y_en (L := [some (vR (some a)), some (vR (some b))]) rfl rfl ?_
  refine y_s (pc' := 1) (L' := [some (vR (some a)), some (vR (some b))]) (st' := [vR (some b)]) (h' := h) f29_0 rfl ?_
  refine y_gr (pc' := 4) f29_1 yf_3_9 rfl rfl (ysR0 w hb) (ypR0 w hb) rfl ?_
  refine y_s (pc' := 5) (L' := [some (vR (some a)), some (vR (some b))]) (st' := [vI 0, vR (some (b + 1))]) (h' := h) f29_4 rfl ?_
  refine y_s (pc' := 6) (L' := [some (vR (some a)), some (vR (some b))]) (st' := [vR (some a), vI 0, vR (some (b + 1))]) (h' := h) f29_5 rfl ?_
  refine y_gr (pc' := 9) f29_6 yf_3_9 rfl rfl (ysR0 w ha) (ypR0 w ha) rfl ?_
  refine y_s (pc' := 10) (L' := [some (vR (some a)), some (vR (some b))]) (st' := [vI 0, vR (some (a + 1)), vI 0, vR (some (b + 1))]) (h' := h) f29_9 rfl ?_
  refine y_s (pc' := 11) (L' := [some (vR (some a)), some (vR (some b))]) (st' := [vR (some a), vI 0, vR (some (a + 1)), vI 0, vR (some (b + 1))]) (h' := h) f29_10 rfl ?_
  refine y_gr (pc' := 14) f29_11 yf_3_9 rfl rfl (ysR0 w ha) (ypR0 w ha) rfl ?_
  refine y_al (pc' := 15) f29_14 (ysR1 w ha) rfl (by have := yR_n ha; omega) rfl ?_
  refine y_s (pc' := 16) (L' := [some (vR (some a)), some (vR (some b))]) (st' := [vR (some b), vI (na : Int), vI 0, vR (some (a + 1)), vI 0, vR (some (b + 1))]) (h' := h) f29_15 rfl ?_
  refine y_gr (pc' := 19) f29_16 yf_3_9 rfl rfl (ysR0 w hb) (ypR0 w hb) rfl ?_
  refine y_al (pc' := 20) f29_19 (ysR1 w hb) rfl (by have := yR_n hb; omega) rfl ?_
  refine y_mn (pc' := 23) f29_20 ym_3_17 (by omega) rfl rfl ?_
  refine y_cp (pc' := 26) (h' := (zcpV h (b + 1) 0 (a + 1) 0 ((ymin (na : Int) (nb : Int))).toNat)) f29_23 ym_3_23 (by omega) rfl (ysR1 w hb) (ysR1 w ha) (Nat.le_add_right_of_le (yR_32 hb)) (Nat.le_add_right_of_le (yR_32 ha)) k.1 rfl rfl ?_
  replace k := k.2
  refine y_s (pc' := 27) (L' := [some (vR (some a)), some (vR (some b))]) (st' := [vR (some a)]) (h' := (zcpV h (b + 1) 0 (a + 1) 0 ((ymin (na : Int) (nb : Int))).toNat)) f29_26 rfl ?_
  refine y_s (pc' := 28) (L' := [some (vR (some a)), some (vR (some b))]) (st' := [vR (some b), vR (some a)]) (h' := (zcpV h (b + 1) 0 (a + 1) 0 ((ymin (na : Int) (nb : Int))).toNat)) f29_27 rfl ?_
  refine y_gi (pc' := 31) f29_28 yf_3_13 rfl rfl (ysR0 w hb) rfl ?_
  refine y_pi (pc' := 34) f29_31 yf_3_13 rfl rfl (ysR0 w ha) (yR_32 ha) (Or.inl rfl) rfl ?_
  generalize e_34 : (zsetV (zcpV h (b + 1) 0 (a + 1) 0 ((ymin (na : Int) (nb : Int))).toNat) a 1 (zV (zcpV h (b + 1) 0 (a + 1) 0 ((ymin (na : Int) (nb : Int))).toNat) b 1)) = h_34
  replace k := k _ e_34
  have w : yWF zl nl h_34 := by rw [← e_34]; exact w
  exact y_ru f29_34 ⟨rfl, k⟩
/-- HatterTunes$House.copyFrom(LHatterTunes$House;)V -/
theorem E28 {d : Nat} {K : Hp → Prop} (w : yWF zl nl h) {a : Nat} (ha : yHs a) {b : Nat} (hb : yHs b) (hd : 1 ≤ d) (k : (∀ h_30, (zcpV (zcpV h (b + 1) 0 (a + 1) 0 6) (b + 2) 0 (a + 2) 0 6) = h_30 → (∀ h_60, (zcpV (zcpV h_30 (b + 3) 0 (a + 3) 0 6) (b + 4) 0 (a + 4) 0 36) = h_60 → yU (d - 1) 29 [vR (some ((a + 7))), vR (some ((b + 7)))] (zcpV h_60 (b + 5) 0 (a + 5) 0 24) (fun h' => ZW d prog_4_method_2_code 2 86 [some (vR (some a)), some (vR (some b))] [] h' (yq 0 (yqU K)))))) : yU d 28 [vR (some a), vR (some b)] h K := by
  refine y_en (L := [some (vR (some a)), some (vR (some b))]) rfl rfl ?_
  refine y_s (pc' := 1) (L' := [some (vR (some a)), some (vR (some b))]) (st' := [vR (some b)]) (h' := h) f28_0 rfl ?_
  refine y_gr (pc' := 4) f28_1 yf_2_9 rfl rfl (ysH0 w hb) (ypH0 w hb) rfl ?_
  refine y_s (pc' := 5) (L' := [some (vR (some a)), some (vR (some b))]) (st' := [vI 0, vR (some (b + 1))]) (h' := h) f28_4 rfl ?_
  refine y_s (pc' := 6) (L' := [some (vR (some a)), some (vR (some b))]) (st' := [vR (some a), vI 0, vR (some (b + 1))]) (h' := h) f28_5 rfl ?_
  refine y_gr (pc' := 9) f28_6 yf_2_9 rfl rfl (ysH0 w ha) (ypH0 w ha) rfl ?_
  refine y_s (pc' := 10) (L' := [some (vR (some a)), some (vR (some b))]) (st' := [vI 0, vR (some (a + 1)), vI 0, vR (some (b + 1))]) (h' := h) f28_9 rfl ?_
  refine y_s (pc' := 12) (L' := [some (vR (some a)), some (vR (some b))]) (st' := [vI 6, vI 0, vR (some (a + 1)), vI 0, vR (some (b + 1))]) (h' := h) f28_10 rfl ?_
  refine y_cp (pc' := 15) (h' := (zcpV h (b + 1) 0 (a + 1) 0 6)) f28_12 ym_2_55 (by omega) rfl (ysH1 w hb) (ysH1 w ha) (Nat.le_add_right_of_le (yH_32 hb)) (Nat.le_add_right_of_le (yH_32 ha)) (by decide) rfl rfl ?_
  refine y_s (pc' := 16) (L' := [some (vR (some a)), some (vR (some b))]) (st' := [vR (some b)]) (h' := (zcpV h (b + 1) 0 (a + 1) 0 6)) f28_15 rfl ?_
  refine y_gr (pc' := 19) f28_16 yf_2_15 rfl rfl (ysH0 w hb) (ypH1 w hb) rfl ?_
  refine y_s (pc' := 20) (L' := [some (vR (some a)), some (vR (some b))]) (st' := [vI 0, vR (some (b + 2))]) (h' := (zcpV h (b + 1) 0 (a + 1) 0 6)) f28_19 rfl ?_
  refine y_s (pc' := 21) (L' := [some (vR (some a)), some (vR (some b))]) (st' := [vR (some a), vI 0, vR (some (b + 2))]) (h' := (zcpV h (b + 1) 0 (a + 1) 0 6)) f28_20 rfl ?_
  refine y_gr (pc' := 24) f28_21 yf_2_15 rfl rfl (ysH0 w ha) (ypH1 w ha) rfl ?_
  refine y_s (pc' := 25) (L' := [some (vR (some a)), some (vR (some b))]) (st' := [vI 0, vR (some (a + 2)), vI 0, vR (some (b + 2))]) (h' := (zcpV h (b + 1) 0 (a + 1) 0 6)) f28_24 rfl ?_
  refine y_s (pc' := 27) (L' := [some (vR (some a)), some (vR (some b))]) (st' := [vI 6, vI 0, vR (some (a + 2)), vI 0, vR (some (b + 2))]) (h' := (zcpV h (b + 1) 0 (a + 1) 0 6)) f28_25 rfl ?_
  refine y_cp (pc' := 30) (h' := (zcpV (zcpV h (b + 1) 0 (a + 1) 0 6) (b + 2) 0 (a + 2) 0 6)) f28_27 ym_2_55 (by omega) rfl (ysH2 w hb) (ysH2 w ha) (Nat.le_add_right_of_le (yH_32 hb)) (Nat.le_add_right_of_le (yH_32 ha)) (by decide) rfl rfl ?_
  generalize e_30 : (zcpV (zcpV h (b + 1) 0 (a + 1) 0 6) (b + 2) 0 (a + 2) 0 6) = h_30
  replace k := k _ e_30
  have w : yWF zl nl h_30 := by rw [← e_30]; exact w
  refine y_s (pc' := 31) (L' := [some (vR (some a)), some (vR (some b))]) (st' := [vR (some b)]) (h' := h_30) f28_30 rfl ?_
  refine y_gr (pc' := 34) f28_31 yf_2_18 rfl rfl (ysH0 w hb) (ypH2 w hb) rfl ?_
  refine y_s (pc' := 35) (L' := [some (vR (some a)), some (vR (some b))]) (st' := [vI 0, vR (some (b + 3))]) (h' := h_30) f28_34 rfl ?_
  refine y_s (pc' := 36) (L' := [some (vR (some a)), some (vR (some b))]) (st' := [vR (some a), vI 0, vR (some (b + 3))]) (h' := h_30) f28_35 rfl ?_
  refine y_gr (pc' := 39) f28_36 yf_2_18 rfl rfl (ysH0 w ha) (ypH2 w ha) rfl ?_
  refine y_s (pc' := 40) (L' := [some (vR (some a)), some (vR (some b))]) (st' := [vI 0, vR (some (a + 3)), vI 0, vR (some (b + 3))]) (h' := h_30) f28_39 rfl ?_
  refine y_s (pc' := 42) (L' := [some (vR (some a)), some (vR (some b))]) (st' := [vI 6, vI 0, vR (some (a + 3)), vI 0, vR (some (b + 3))]) (h' := h_30) f28_40 rfl ?_
  refine y_cp (pc' := 45) (h' := (zcpV h_30 (b + 3) 0 (a + 3) 0 6)) f28_42 ym_2_55 (by omega) rfl (ysH3 w hb) (ysH3 w ha) (Nat.le_add_right_of_le (yH_32 hb)) (Nat.le_add_right_of_le (yH_32 ha)) (by decide) rfl rfl ?_
  refine y_s (pc' := 46) (L' := [some (vR (some a)), some (vR (some b))]) (st' := [vR (some b)]) (h' := (zcpV h_30 (b + 3) 0 (a + 3) 0 6)) f28_45 rfl ?_
  refine y_gr (pc' := 49) f28_46 yf_2_21 rfl rfl (ysH0 w hb) (ypH3 w hb) rfl ?_
  refine y_s (pc' := 50) (L' := [some (vR (some a)), some (vR (some b))]) (st' := [vI 0, vR (some (b + 4))]) (h' := (zcpV h_30 (b + 3) 0 (a + 3) 0 6)) f28_49 rfl ?_
  refine y_s (pc' := 51) (L' := [some (vR (some a)), some (vR (some b))]) (st' := [vR (some a), vI 0, vR (some (b + 4))]) (h' := (zcpV h_30 (b + 3) 0 (a + 3) 0 6)) f28_50 rfl ?_
  refine y_gr (pc' := 54) f28_51 yf_2_21 rfl rfl (ysH0 w ha) (ypH3 w ha) rfl ?_
  refine y_s (pc' := 55) (L' := [some (vR (some a)), some (vR (some b))]) (st' := [vI 0, vR (some (a + 4)), vI 0, vR (some (b + 4))]) (h' := (zcpV h_30 (b + 3) 0 (a + 3) 0 6)) f28_54 rfl ?_
  refine y_s (pc' := 57) (L' := [some (vR (some a)), some (vR (some b))]) (st' := [vI 36, vI 0, vR (some (a + 4)), vI 0, vR (some (b + 4))]) (h' := (zcpV h_30 (b + 3) 0 (a + 3) 0 6)) f28_55 rfl ?_
  refine y_cp (pc' := 60) (h' := (zcpV (zcpV h_30 (b + 3) 0 (a + 3) 0 6) (b + 4) 0 (a + 4) 0 36)) f28_57 ym_2_55 (by omega) rfl (ysH4 w hb) (ysH4 w ha) (Nat.le_add_right_of_le (yH_32 hb)) (Nat.le_add_right_of_le (yH_32 ha)) (by decide) rfl rfl ?_
  generalize e_60 : (zcpV (zcpV h_30 (b + 3) 0 (a + 3) 0 6) (b + 4) 0 (a + 4) 0 36) = h_60
  replace k := k _ e_60
  have w : yWF zl nl h_60 := by rw [← e_60]; exact w
  refine y_s (pc' := 61) (L' := [some (vR (some a)), some (vR (some b))]) (st' := [vR (some b)]) (h' := h_60) f28_60 rfl ?_
  refine y_gr (pc' := 64) f28_61 yf_2_24 rfl rfl (ysH0 w hb) (ypH4 w hb) rfl ?_
  refine y_s (pc' := 65) (L' := [some (vR (some a)), some (vR (some b))]) (st' := [vI 0, vR (some (b + 5))]) (h' := h_60) f28_64 rfl ?_
  refine y_s (pc' := 66) (L' := [some (vR (some a)), some (vR (some b))]) (st' := [vR (some a), vI 0, vR (some (b + 5))]) (h' := h_60) f28_65 rfl ?_
  refine y_gr (pc' := 69) f28_66 yf_2_24 rfl rfl (ysH0 w ha) (ypH4 w ha) rfl ?_
  refine y_s (pc' := 70) (L' := [some (vR (some a)), some (vR (some b))]) (st' := [vI 0, vR (some (a + 5)), vI 0, vR (some (b + 5))]) (h' := h_60) f28_69 rfl ?_
  refine y_s (pc' := 72) (L' := [some (vR (some a)), some (vR (some b))]) (st' := [vI 24, vI 0, vR (some (a + 5)), vI 0, vR (some (b + 5))]) (h' := h_60) f28_70 rfl ?_
  refine y_cp (pc' := 75) (h' := (zcpV h_60 (b + 5) 0 (a + 5) 0 24)) f28_72 ym_2_55 (by omega) rfl (ysH5 w hb) (ysH5 w ha) (Nat.le_add_right_of_le (yH_32 hb)) (Nat.le_add_right_of_le (yH_32 ha)) (by decide) rfl rfl ?_
  refine y_s (pc' := 76) (L' := [some (vR (some a)), some (vR (some b))]) (st' := [vR (some a)]) (h' := (zcpV h_60 (b + 5) 0 (a + 5) 0 24)) f28_75 rfl ?_
  refine y_gr (pc' := 79) f28_76 yf_2_35 rfl rfl (ysH0 w ha) (ypH6 w ha) rfl ?_
  refine y_s (pc' := 80) (L' := [some (vR (some a)), some (vR (some b))]) (st' := [vR (some b), vR (some ((a + 7)))]) (h' := (zcpV h_60 (b + 5) 0 (a + 5) 0 24)) f28_79 rfl ?_
  refine y_gr (pc' := 83) f28_80 yf_2_35 rfl rfl (ysH0 w hb) (ypH6 w hb) rfl ?_
  refine y_cU (pc' := 86) (as := [vR (some ((a + 7))), vR (some ((b + 7)))]) (r := []) f28_83 (yzv ym_2_61 rfl (ysR0 w (yR7 ha)) rfl rfl) (by omega) rfl ?_
  exact k
theorem W28_86 {d : Nat} {K : Hp → Prop} (w : yWF zl nl h) {a : Nat} (ha : yHs a) {b : Nat} (hb : yHs b) (hd : 1 ≤ d) (k : yU (d - 1) 29 [vR (some ((a + 9))), vR (some ((b + 9)))] h (fun h' => ZW d prog_4_method_2_code 2 97 [some (vR (some a)), some (vR (some b))] [] h' (yq 0 (yqU K)))) : ZW d prog_4_method_2_code 2 86 [some (vR (some a)), some (vR (some b))] [] h (yq 0 (yqU K)) := by
  refine y_s (pc' := 87) (L' := [some (vR (some a)), some (vR (some b))]) (st' := [vR (some a)]) (h' := h) f28_86 rfl ?_
  refine y_gr (pc' := 90) f28_87 yf_2_39 rfl rfl (ysH0 w ha) (ypH7 w ha) rfl ?_
  refine y_s (pc' := 91) (L' := [some (vR (some a)), some (vR (some b))]) (st' := [vR (some b), vR (some ((a + 9)))]) (h' := h) f28_90 rfl ?_
  refine y_gr (pc' := 94) f28_91 yf_2_39 rfl rfl (ysH0 w hb) (ypH7 w hb) rfl ?_
  refine y_cU (pc' := 97) (as := [vR (some ((a + 9))), vR (some ((b + 9)))]) (r := []) f28_94 (yzv ym_2_61 rfl (ysR0 w (yR9 ha)) rfl rfl) (by omega) rfl ?_
  exact k
theorem W28_97 {d : Nat} {K : Hp → Prop} (w : yWF zl nl h) {a : Nat} (ha : yHs a) {b : Nat} (hb : yHs b) (hd : 1 ≤ d) (k : yU (d - 1) 29 [vR (some ((a + 11))), vR (some ((b + 11)))] h (fun h' => ZW d prog_4_method_2_code 2 108 [some (vR (some a)), some (vR (some b))] [] h' (yq 0 (yqU K)))) : ZW d prog_4_method_2_code 2 97 [some (vR (some a)), some (vR (some b))] [] h (yq 0 (yqU K)) := by
  refine y_s (pc' := 98) (L' := [some (vR (some a)), some (vR (some b))]) (st' := [vR (some a)]) (h' := h) f28_97 rfl ?_
  refine y_gr (pc' := 101) f28_98 yf_2_42 rfl rfl (ysH0 w ha) (ypH8 w ha) rfl ?_
  refine y_s (pc' := 102) (L' := [some (vR (some a)), some (vR (some b))]) (st' := [vR (some b), vR (some ((a + 11)))]) (h' := h) f28_101 rfl ?_
  refine y_gr (pc' := 105) f28_102 yf_2_42 rfl rfl (ysH0 w hb) (ypH8 w hb) rfl ?_
  refine y_cU (pc' := 108) (as := [vR (some ((a + 11))), vR (some ((b + 11)))]) (r := []) f28_105 (yzv ym_2_61 rfl (ysR0 w (yR11 ha)) rfl rfl) (by omega) rfl ?_
  exact k
theorem W28_108 {d : Nat} {K : Hp → Prop} (w : yWF zl nl h) {a : Nat} (ha : yHs a) {b : Nat} (hb : yHs b) (hd : 1 ≤ d) (k : yU (d - 1) 29 [vR (some ((a + 13))), vR (some ((b + 13)))] h (fun h' => ZW d prog_4_method_2_code 2 119 [some (vR (some a)), some (vR (some b))] [] h' (yq 0 (yqU K)))) : ZW d prog_4_method_2_code 2 108 [some (vR (some a)), some (vR (some b))] [] h (yq 0 (yqU K)) := by
  refine y_s (pc' := 109) (L' := [some (vR (some a)), some (vR (some b))]) (st' := [vR (some a)]) (h' := h) f28_108 rfl ?_
  refine y_gr (pc' := 112) f28_109 yf_2_45 rfl rfl (ysH0 w ha) (ypH9 w ha) rfl ?_
  refine y_s (pc' := 113) (L' := [some (vR (some a)), some (vR (some b))]) (st' := [vR (some b), vR (some ((a + 13)))]) (h' := h) f28_112 rfl ?_
  refine y_gr (pc' := 116) f28_113 yf_2_45 rfl rfl (ysH0 w hb) (ypH9 w hb) rfl ?_
  refine y_cU (pc' := 119) (as := [vR (some ((a + 13))), vR (some ((b + 13)))]) (r := []) f28_116 (yzv ym_2_61 rfl (ysR0 w (yR13 ha)) rfl rfl) (by omega) rfl ?_
  exact k
theorem W28_119 {d : Nat} {K : Hp → Prop} (w : yWF zl nl h) {a : Nat} (ha : yHs a) {b : Nat} (hb : yHs b) (k : (∀ h_135, (zsetV (zsetV h a 10 (zV h b 10)) a 11 (zV (zsetV h a 10 (zV h b 10)) b 11)) = h_135 → (∀ s, zP h_135 b 12 = some s → ySh s → (yWF zl nl (zsetP h_135 a 12 (some s)) ∧ K (zsetP h_135 a 12 (some s)))))) : ZW d prog_4_method_2_code 2 119 [some (vR (some a)), some (vR (some b))] [] h (yq 0 (yqU K)) := by
  refine y_s (pc' := 120) (L' := [some (vR (some a)), some (vR (some b))]) (st' := [vR (some a)]) (h' := h) f28_119 rfl ?_
  refine y_s (pc' := 121) (L' := [some (vR (some a)), some (vR (some b))]) (st' := [vR (some b), vR (some a)]) (h' := h) f28_120 rfl ?_
  refine y_gi (pc' := 124) f28_121 yf_2_65 rfl rfl (ysH0 w hb) rfl ?_
  refine y_pi (pc' := 127) f28_124 yf_2_65 rfl rfl (ysH0 w ha) (yH_32 ha) (Or.inl rfl) rfl ?_
  refine y_s (pc' := 128) (L' := [some (vR (some a)), some (vR (some b))]) (st' := [vR (some a)]) (h' := (zsetV h a 10 (zV h b 10))) f28_127 rfl ?_
  refine y_s (pc' := 129) (L' := [some (vR (some a)), some (vR (some b))]) (st' := [vR (some b), vR (some a)]) (h' := (zsetV h a 10 (zV h b 10))) f28_128 rfl ?_
  refine y_gi (pc' := 132) f28_129 yf_2_69 rfl rfl (ysH0 w hb) rfl ?_
  refine y_pi (pc' := 135) f28_132 yf_2_69 rfl rfl (ysH0 w ha) (yH_32 ha) (Or.inl rfl) rfl ?_
  generalize e_135 : (zsetV (zsetV h a 10 (zV h b 10)) a 11 (zV (zsetV h a 10 (zV h b 10)) b 11)) = h_135
  replace k := k _ e_135
  have w : yWF zl nl h_135 := by rw [← e_135]; exact w
  refine y_s (pc' := 136) (L' := [some (vR (some a)), some (vR (some b))]) (st' := [vR (some a)]) (h' := h_135) f28_135 rfl ?_
  refine y_s (pc' := 137) (L' := [some (vR (some a)), some (vR (some b))]) (st' := [vR (some b), vR (some a)]) (h' := h_135) f28_136 rfl ?_
  obtain ⟨s, es, hs⟩ := ypH12 (a := b) w hb
  replace k := k s es hs
  refine y_gr (pc' := 140) f28_137 yf_2_51 rfl rfl (ysH0 w hb) es rfl ?_
  refine y_pr (pc' := 143) f28_140 yf_2_51 rfl rfl (ysH0 w ha) (yH_32 ha) rfl rfl ?_
  replace w := k.1
  replace k := k.2
  exact y_ru f28_143 ⟨rfl, k⟩
/-- HatterTunes.shared(II)I -/
theorem E81 {d : Nat} {K : Int → Hp → Prop} (w : yWF zl nl h) {x0 : Int} {x1 : Int} (hd : 6 ≤ d) (k : ((((0 : Int) ≤ x0 ∧ x0 < zV h 33 10) → ((((0 : Int) ≤ x1 ∧ x1 < zV h 33 10) → ((yHOk h 33) ∧ (((0 : Int) ≤ x0 ∧ x0 < 6) ∧ (∀ h_26, ySm h h_26 → ((yHOk h_26 33) ∧ (((0 : Int) ≤ x1 ∧ x1 < 6) ∧ (∀ h_34, ySm h_26 h_34 → yI (d - 1) 82 [vI (ysound h 33 x0), vI (ysound h_26 33 x1)] h_34 (fun x h' => ZW d prog_1_method_17_code 7 37 [some (vR (some 32)), some (vI x0), some (vI x1)] [vI x] h' (yq 1 (yqI K)))))))))) ∧ (¬ (((0 : Int) ≤ x1 ∧ x1 < zV h 33 10)) → K (-1) h))) ∧ (¬ (((0 : Int) ≤ x0 ∧ x0 < zV h 33 10)) → K (-1) h))) : yI d 81 [vR (some 32), vI x0, vI x1] h K := by
  refine y_en (L := [some (vR (some 32)), some (vI x0), some (vI x1)]) rfl rfl ?_
  refine y_s (pc' := 1) (L' := [some (vR (some 32)), some (vI x0), some (vI x1)]) (st' := [vR (some 32)]) (h' := h) f81_0 rfl ?_
  refine y_s (pc' := 2) (L' := [some (vR (some 32)), some (vI x0), some (vI x1)]) (st' := [vI x0, vR (some 32)]) (h' := h) f81_1 rfl ?_
  refine y_cI (pc' := 5) (as := [vR (some 32), vI x0]) (r := []) f81_2 (yzv ym_7_71 rfl (ys32 w) rfl rfl) (by omega) rfl ?_
  refine sp15 w (by omega) (fun c => ?_) (fun c => ?_)
  · replace k := k.1 c
    refine y_iff (pcT := 16) (pc' := 8) f81_5 rfl rfl rfl ?_
    refine y_s (pc' := 9) (L' := [some (vR (some 32)), some (vI x0), some (vI x1)]) (st' := [vR (some 32)]) (h' := h) f81_8 rfl ?_
    refine y_s (pc' := 10) (L' := [some (vR (some 32)), some (vI x0), some (vI x1)]) (st' := [vI x1, vR (some 32)]) (h' := h) f81_9 rfl ?_
    refine y_cI (pc' := 13) (as := [vR (some 32), vI x1]) (r := []) f81_10 (yzv ym_7_71 rfl (ys32 w) rfl rfl) (by omega) rfl ?_
    refine sp15 w (by omega) (fun c => ?_) (fun c => ?_)
    · replace k := k.1 c
      refine y_ift (pcT := 18) f81_13 rfl rfl ?_
      refine y_s (pc' := 19) (L' := [some (vR (some 32)), some (vI x0), some (vI x1)]) (st' := [vR (some 32)]) (h' := h) f81_18 rfl ?_
      refine y_gr (pc' := 22) f81_19 yf_7_14 rfl rfl (ys32 w) (yp32_0 w) rfl ?_
      refine y_s (pc' := 23) (L' := [some (vR (some 32)), some (vI x0), some (vI x1)]) (st' := [vI x0, vR (some 33)]) (h' := h) f81_22 rfl ?_
      refine y_cI (pc' := 26) (as := [vR (some 33), vI x0]) (r := []) f81_23 (yzv ym_7_85 rfl (ys33 w) rfl rfl) (by omega) rfl ?_
      have p0 := k.1
      replace k := k.2
      have p1 := k.1
      replace k := k.2
      refine sp16 w (Or.inl rfl) (by omega) p0 p1 (fun h_26 m_26 => ?_)
      replace k := k h_26 m_26
      have w := m_26.wf w
      refine y_s (pc' := 27) (L' := [some (vR (some 32)), some (vI x0), some (vI x1)]) (st' := [vR (some 32), vI (ysound h 33 x0)]) (h' := h_26) f81_26 rfl ?_
      refine y_gr (pc' := 30) f81_27 yf_7_14 rfl rfl (ys32 w) (yp32_0 w) rfl ?_
      refine y_s (pc' := 31) (L' := [some (vR (some 32)), some (vI x0), some (vI x1)]) (st' := [vI x1, vR (some 33), vI (ysound h 33 x0)]) (h' := h_26) f81_30 rfl ?_
      refine y_cI (pc' := 34) (as := [vR (some 33), vI x1]) (r := [vI (ysound h 33 x0)]) f81_31 (yzv ym_7_85 rfl (ys33 w) rfl rfl) (by omega) rfl ?_
      have p0 := k.1
      replace k := k.2
      have p1 := k.1
      replace k := k.2
      refine sp16 w (Or.inl rfl) (by omega) p0 p1 (fun h_34 m_34 => ?_)
      replace k := k h_34 m_34
      have w := m_34.wf w
      refine y_cI (pc' := 37) (as := [vI (ysound h 33 x0), vI (ysound h_26 33 x1)]) (r := []) f81_34 rfl (by omega) rfl ?_
      exact k
    · replace k := k.2 c
      refine y_iff (pcT := 18) (pc' := 16) f81_13 rfl rfl rfl ?_
      refine y_s (pc' := 17) (L' := [some (vR (some 32)), some (vI x0), some (vI x1)]) (st' := [vI (-1)]) (h' := h) f81_16 rfl ?_
      exact y_ri f81_17 ⟨rfl, k⟩
  · replace k := k.2 c
    refine y_ift (pcT := 16) f81_5 rfl rfl ?_
    refine y_s (pc' := 17) (L' := [some (vR (some 32)), some (vI x0), some (vI x1)]) (st' := [vI (-1)]) (h' := h) f81_16 rfl ?_
    exact y_ri f81_17 ⟨rfl, k⟩
theorem W81_37 {d : Nat} {K : Int → Hp → Prop} (w : yWF zl nl h) {l1 : Int} {l2 : Int} {s0 : Int} (k : K s0 h) : ZW d prog_1_method_17_code 7 37 [some (vR (some 32)), some (vI l1), some (vI l2)] [vI s0] h (yq 1 (yqI K)) := by
  exact y_ri f81_37 ⟨rfl, k⟩
/-- HatterTunes.image()I -/
theorem E105 {d : Nat} {K : Int → Hp → Prop} (w : yWF zl nl h) (hd : 1 ≤ d) (k : yU (d - 1) 28 [vR (some 71), vR (some 33)] h (fun h' => ZW d prog_1_method_32_code 7 11 [some (vR (some 32))] [] h' (yq 1 (yqI K)))) : yI d 105 [vR (some 32)] h K := by
  refine y_en (L := [some (vR (some 32))]) rfl rfl ?_
  refine y_s (pc' := 1) (L' := [some (vR (some 32))]) (st' := [vR (some 32)]) (h' := h) f105_0 rfl ?_
  refine y_gr (pc' := 4) f105_1 yf_7_21 rfl rfl (ys32 w) (yp32_2 w) rfl ?_
  refine y_s (pc' := 5) (L' := [some (vR (some 32))]) (st' := [vR (some 32), vR (some 71)]) (h' := h) f105_4 rfl ?_
  refine y_gr (pc' := 8) f105_5 yf_7_14 rfl rfl (ys32 w) (yp32_0 w) rfl ?_
  refine y_cU (pc' := 11) (as := [vR (some 71), vR (some 33)]) (r := []) f105_8 (yzv ym_7_114 rfl (ys71 w) rfl rfl) (by omega) rfl ?_
  exact k
theorem W105_11 {d : Nat} {K : Int → Hp → Prop} (w : yWF zl nl h)  (k : K (zV (zsetV h 32 3 1) 33 10) (zsetV h 32 3 1)) : ZW d prog_1_method_32_code 7 11 [some (vR (some 32))] [] h (yq 1 (yqI K)) := by
  refine y_s (pc' := 12) (L' := [some (vR (some 32))]) (st' := [vR (some 32)]) (h' := h) f105_11 rfl ?_
  refine y_s (pc' := 13) (L' := [some (vR (some 32))]) (st' := [vI 1, vR (some 32)]) (h' := h) f105_12 rfl ?_
  refine y_pi (pc' := 16) f105_13 yf_7_247 rfl rfl (ys32 w) (by decide) (Or.inr ⟨rfl, by decide⟩) rfl ?_
  refine y_s (pc' := 17) (L' := [some (vR (some 32))]) (st' := [vR (some 32)]) (h' := (zsetV h 32 3 1)) f105_16 rfl ?_
  refine y_gr (pc' := 20) f105_17 yf_7_14 rfl rfl (ys32 w) (yp32_0 w) rfl ?_
  refine y_gi (pc' := 23) f105_20 yf_7_63 rfl rfl (ys33 w) rfl ?_
  exact y_ri f105_23 ⟨rfl, k⟩
/-- HatterTunes.undo()I -/
theorem E106 {d : Nat} {K : Int → Hp → Prop} (w : yWF zl nl h) (hd : 1 ≤ d) (k : (((zV h 32 3) ≠ 0 → yU (d - 1) 28 [vR (some 33), vR (some 71)] h (fun h' => ZW d prog_1_method_33_code 7 21 [some (vR (some 32))] [] h' (yq 1 (yqI K)))) ∧ (¬ ((zV h 32 3) ≠ 0) → K (-3) h))) : yI d 106 [vR (some 32)] h K := by
  refine y_en (L := [some (vR (some 32))]) rfl rfl ?_
  refine y_s (pc' := 1) (L' := [some (vR (some 32))]) (st' := [vR (some 32)]) (h' := h) f106_0 rfl ?_
  refine y_gi (pc' := 4) f106_1 yf_7_247 rfl rfl (ys32 w) rfl ?_
  refine y_if (pcT := 10) (pc' := 7) (P := (zV h 32 3) ≠ 0) f106_4 rfl rfl rfl (fun c => ?_) (fun c => ?_)
  · replace k := k.1 c
    refine y_s (pc' := 11) (L' := [some (vR (some 32))]) (st' := [vR (some 32)]) (h' := h) f106_10 rfl ?_
    refine y_gr (pc' := 14) f106_11 yf_7_14 rfl rfl (ys32 w) (yp32_0 w) rfl ?_
    refine y_s (pc' := 15) (L' := [some (vR (some 32))]) (st' := [vR (some 32), vR (some 33)]) (h' := h) f106_14 rfl ?_
    refine y_gr (pc' := 18) f106_15 yf_7_21 rfl rfl (ys32 w) (yp32_2 w) rfl ?_
    refine y_cU (pc' := 21) (as := [vR (some 33), vR (some 71)]) (r := []) f106_18 (yzv ym_7_114 rfl (ys33 w) rfl rfl) (by omega) rfl ?_
    exact k
  · replace k := k.2 c
    refine y_s (pc' := 9) (L' := [some (vR (some 32))]) (st' := [vI (-3)]) (h' := h) f106_7 rfl ?_
    exact y_ri f106_9 ⟨rfl, k⟩
theorem W106_21 {d : Nat} {K : Int → Hp → Prop} (w : yWF zl nl h)  (k : K (zV h 33 10) h) : ZW d prog_1_method_33_code 7 21 [some (vR (some 32))] [] h (yq 1 (yqI K)) := by
  refine y_s (pc' := 22) (L' := [some (vR (some 32))]) (st' := [vR (some 32)]) (h' := h) f106_21 rfl ?_
  refine y_gr (pc' := 25) f106_22 yf_7_14 rfl rfl (ys32 w) (yp32_0 w) rfl ?_
  refine y_gi (pc' := 28) f106_25 yf_7_63 rfl rfl (ys33 w) rfl ?_
  exact y_ri f106_28 ⟨rfl, k⟩
/-- HatterTunes.tape(III)I -/
theorem E118 {d : Nat} {K : Int → Hp → Prop} (w : yWF zl nl h) {x0 : Int} {x1 : Int} {x2 : Int} (hd : 1 ≤ d) (k : ((((0 : Int) ≤ x0 ∧ x0 < 6) → ((x1 ≠ (-1) → ((((0 : Int) ≤ x1 ∧ x1 < 5) → ((x2 ≤ 60 → ((0 ≤ x2 → ((0 ≤ x0 ∧ x0 < 6) ∧ yI (d - 1) 120 [vR (some ((125 + 2 * (x0).toNat))), vI x1, vI x2] h (fun x h' => ZW d prog_1_method_38_code 7 63 [some (vR (some 32)), some (vI x0), some (vI x1), some (vI x2)] [vI x] h' (yq 1 (yqI K))))) ∧ (¬ (0 ≤ x2) → K (-14) h))) ∧ (¬ (x2 ≤ 60) → K (-2) h))) ∧ (¬ (((0 : Int) ≤ x1 ∧ x1 < 5)) → K (-2) h))) ∧ (¬ (x1 ≠ (-1)) → ((0 ≤ x0 ∧ x0 < 6) ∧ yI (d - 1) 119 [vR (some ((125 + 2 * (x0).toNat)))] h (fun x h' => ZW d prog_1_method_38_code 7 25 [some (vR (some 32)), some (vI x0), some (vI x1), some (vI x2)] [vI x] h' (yq 1 (yqI K))))))) ∧ (¬ (((0 : Int) ≤ x0 ∧ x0 < 6)) → K (-1) h))) : yI d 118 [vR (some 32), vI x0, vI x1, vI x2] h K := by
  refine y_en (L := [some (vR (some 32)), some (vI x0), some (vI x1), some (vI x2)]) rfl rfl ?_
  refine y_s (pc' := 1) (L' := [some (vR (some 32)), some (vI x0), some (vI x1), some (vI x2)]) (st' := [vI x0]) (h' := h) f118_0 rfl ?_
  refine y_s (pc' := 3) (L' := [some (vR (some 32)), some (vI x0), some (vI x1), some (vI x2)]) (st' := [vI 6, vI x0]) (h' := h) f118_1 rfl ?_
  refine y_cI (pc' := 6) (as := [vI x0, vI 6]) (r := []) f118_3 rfl (by omega) rfl ?_
  refine sp10 w (fun c => ?_) (fun c => ?_)
  · replace k := k.1 c
    refine y_ift (pcT := 11) f118_6 rfl rfl ?_
    refine y_s (pc' := 12) (L' := [some (vR (some 32)), some (vI x0), some (vI x1), some (vI x2)]) (st' := [vI x1]) (h' := h) f118_11 rfl ?_
    refine y_s (pc' := 13) (L' := [some (vR (some 32)), some (vI x0), some (vI x1), some (vI x2)]) (st' := [vI (-1), vI x1]) (h' := h) f118_12 rfl ?_
    refine y_ic (pcT := 26) (pc' := 16) (P := x1 ≠ (-1)) f118_13 rfl rfl rfl (fun c => ?_) (fun c => ?_)
    · replace k := k.1 c
      refine y_s (pc' := 27) (L' := [some (vR (some 32)), some (vI x0), some (vI x1), some (vI x2)]) (st' := [vI x1]) (h' := h) f118_26 rfl ?_
      refine y_s (pc' := 28) (L' := [some (vR (some 32)), some (vI x0), some (vI x1), some (vI x2)]) (st' := [vI 5, vI x1]) (h' := h) f118_27 rfl ?_
      refine y_cI (pc' := 31) (as := [vI x1, vI 5]) (r := []) f118_28 rfl (by omega) rfl ?_
      refine sp10 w (fun c => ?_) (fun c => ?_)
      · replace k := k.1 c
        refine y_iff (pcT := 40) (pc' := 34) f118_31 rfl rfl rfl ?_
        refine y_s (pc' := 35) (L' := [some (vR (some 32)), some (vI x0), some (vI x1), some (vI x2)]) (st' := [vI x2]) (h' := h) f118_34 rfl ?_
        refine y_s (pc' := 37) (L' := [some (vR (some 32)), some (vI x0), some (vI x1), some (vI x2)]) (st' := [vI 60, vI x2]) (h' := h) f118_35 rfl ?_
        refine y_ic (pcT := 43) (pc' := 40) (P := x2 ≤ 60) f118_37 rfl rfl rfl (fun c => ?_) (fun c => ?_)
        · replace k := k.1 c
          refine y_s (pc' := 44) (L' := [some (vR (some 32)), some (vI x0), some (vI x1), some (vI x2)]) (st' := [vI x2]) (h' := h) f118_43 rfl ?_
          refine y_if (pcT := 52) (pc' := 47) (P := 0 ≤ x2) f118_44 rfl rfl rfl (fun c => ?_) (fun c => ?_)
          · replace k := k.1 c
            refine y_s (pc' := 53) (L' := [some (vR (some 32)), some (vI x0), some (vI x1), some (vI x2)]) (st' := [vR (some 32)]) (h' := h) f118_52 rfl ?_
            refine y_gr (pc' := 56) f118_53 yf_7_39 rfl rfl (ys32 w) (yp32_7 w) rfl ?_
            refine y_s (pc' := 57) (L' := [some (vR (some 32)), some (vI x0), some (vI x1), some (vI x2)]) (st' := [vI x0, vR (some 93)]) (h' := h) f118_56 rfl ?_
            have ci_57 := k.1
            replace k := k.2
            refine y_aa (pc' := 58) f118_57 (by decide) (ys93 w) ci_57 (yp93 w ci_57) rfl ?_
            refine y_s (pc' := 59) (L' := [some (vR (some 32)), some (vI x0), some (vI x1), some (vI x2)]) (st' := [vI x1, vR (some ((125 + 2 * (x0).toNat)))]) (h' := h) f118_58 rfl ?_
            refine y_s (pc' := 60) (L' := [some (vR (some 32)), some (vI x0), some (vI x1), some (vI x2)]) (st' := [vI x2, vI x1, vR (some ((125 + 2 * (x0).toNat)))]) (h' := h) f118_59 rfl ?_
            refine y_cI (pc' := 63) (as := [vR (some ((125 + 2 * (x0).toNat))), vI x1, vI x2]) (r := []) f118_60 (yzv ym_7_274 rfl (ysT0 w (yp93' ci_57)) rfl rfl) (by omega) rfl ?_
            exact k
          · replace k := k.2 c
            refine y_s (pc' := 49) (L' := [some (vR (some 32)), some (vI x0), some (vI x1), some (vI x2)]) (st' := [vI (-14)]) (h' := h) f118_47 rfl ?_
            refine y_go (pc' := 63) f118_49 rfl ?_
            exact y_ri f118_63 ⟨rfl, k⟩
        · replace k := k.2 c
          refine y_s (pc' := 42) (L' := [some (vR (some 32)), some (vI x0), some (vI x1), some (vI x2)]) (st' := [vI (-2)]) (h' := h) f118_40 rfl ?_
          exact y_ri f118_42 ⟨rfl, k⟩
      · replace k := k.2 c
        refine y_ift (pcT := 40) f118_31 rfl rfl ?_
        refine y_s (pc' := 42) (L' := [some (vR (some 32)), some (vI x0), some (vI x1), some (vI x2)]) (st' := [vI (-2)]) (h' := h) f118_40 rfl ?_
        exact y_ri f118_42 ⟨rfl, k⟩
    · replace k := k.2 c
      refine y_s (pc' := 17) (L' := [some (vR (some 32)), some (vI x0), some (vI x1), some (vI x2)]) (st' := [vR (some 32)]) (h' := h) f118_16 rfl ?_
      refine y_gr (pc' := 20) f118_17 yf_7_39 rfl rfl (ys32 w) (yp32_7 w) rfl ?_
      refine y_s (pc' := 21) (L' := [some (vR (some 32)), some (vI x0), some (vI x1), some (vI x2)]) (st' := [vI x0, vR (some 93)]) (h' := h) f118_20 rfl ?_
      have ci_21 := k.1
      replace k := k.2
      refine y_aa (pc' := 22) f118_21 (by decide) (ys93 w) ci_21 (yp93 w ci_21) rfl ?_
      refine y_cI (pc' := 25) (as := [vR (some ((125 + 2 * (x0).toNat)))]) (r := []) f118_22 (yzv ym_7_271 rfl (ysT0 w (yp93' ci_21)) rfl rfl) (by omega) rfl ?_
      exact k
  · replace k := k.2 c
    refine y_iff (pcT := 11) (pc' := 9) f118_6 rfl rfl rfl ?_
    refine y_s (pc' := 10) (L' := [some (vR (some 32)), some (vI x0), some (vI x1), some (vI x2)]) (st' := [vI (-1)]) (h' := h) f118_9 rfl ?_
    exact y_ri f118_10 ⟨rfl, k⟩
theorem W118_25 {d : Nat} {K : Int → Hp → Prop} (w : yWF zl nl h) {l1 : Int} {l2 : Int} {l3 : Int} {s0 : Int} (k : K s0 h) : ZW d prog_1_method_38_code 7 25 [some (vR (some 32)), some (vI l1), some (vI l2), some (vI l3)] [vI s0] h (yq 1 (yqI K)) := by
  exact y_ri f118_25 ⟨rfl, k⟩
theorem W118_63 {d : Nat} {K : Int → Hp → Prop} (w : yWF zl nl h) {l1 : Int} {l2 : Int} {l3 : Int} {s0 : Int} (k : K s0 h) : ZW d prog_1_method_38_code 7 63 [some (vR (some 32)), some (vI l1), some (vI l2), some (vI l3)] [vI s0] h (yq 1 (yqI K)) := by
  exact y_ri f118_63 ⟨rfl, k⟩
/-- HatterTunes.item(IIJ)I -/
theorem E121 {d : Nat} {K : Int → Hp → Prop} (w : yWF zl nl h) {x0 : Int} {x1 : Int} {x2 : Int64} (hd : 2 ≤ d) (k : ((((0 : Int) ≤ x0 ∧ x0 < 6) → ((0 ≤ x0 ∧ x0 < 6) ∧ (((zV h ((125 + 2 * (x0).toNat)) 1 ≠ -1) → ((0 ≤ x0 ∧ x0 < 6) ∧ ((((0 : Int) ≤ x1 ∧ x1 < zV h ((125 + 2 * (x0).toNat)) 2) → ((0 ≤ x0 ∧ x0 < 6) ∧ yI (d - 1) 122 [vR (some ((125 + 2 * (x0).toNat))), vI x1, vJ x2] h (fun x h' => ZW d prog_1_method_39_code 7 50 [some (vR (some 32)), some (vI x0), some (vI x1), some (vJ x2), none] [vI x] h' (yq 1 (yqI K))))) ∧ (¬ (((0 : Int) ≤ x1 ∧ x1 < zV h ((125 + 2 * (x0).toNat)) 2)) → K (-13) h)))) ∧ (¬ ((zV h ((125 + 2 * (x0).toNat)) 1 ≠ -1)) → K (-11) h)))) ∧ (¬ (((0 : Int) ≤ x0 ∧ x0 < 6)) → K (-1) h))) : yI d 121 [vR (some 32), vI x0, vI x1, vJ x2] h K := by
  refine y_en (L := [some (vR (some 32)), some (vI x0), some (vI x1), some (vJ x2), none]) rfl rfl ?_
  refine y_s (pc' := 1) (L' := [some (vR (some 32)), some (vI x0), some (vI x1), some (vJ x2), none]) (st' := [vI x0]) (h' := h) f121_0 rfl ?_
  refine y_s (pc' := 3) (L' := [some (vR (some 32)), some (vI x0), some (vI x1), some (vJ x2), none]) (st' := [vI 6, vI x0]) (h' := h) f121_1 rfl ?_
  refine y_cI (pc' := 6) (as := [vI x0, vI 6]) (r := []) f121_3 rfl (by omega) rfl ?_
  refine sp10 w (fun c => ?_) (fun c => ?_)
  · replace k := k.1 c
    refine y_ift (pcT := 11) f121_6 rfl rfl ?_
    refine y_s (pc' := 12) (L' := [some (vR (some 32)), some (vI x0), some (vI x1), some (vJ x2), none]) (st' := [vR (some 32)]) (h' := h) f121_11 rfl ?_
    refine y_gr (pc' := 15) f121_12 yf_7_39 rfl rfl (ys32 w) (yp32_7 w) rfl ?_
    refine y_s (pc' := 16) (L' := [some (vR (some 32)), some (vI x0), some (vI x1), some (vJ x2), none]) (st' := [vI x0, vR (some 93)]) (h' := h) f121_15 rfl ?_
    have ci_16 := k.1
    replace k := k.2
    refine y_aa (pc' := 17) f121_16 (by decide) (ys93 w) ci_16 (yp93 w ci_16) rfl ?_
    refine y_cI (pc' := 20) (as := [vR (some ((125 + 2 * (x0).toNat)))]) (r := []) f121_17 (yzv ym_7_227 rfl (ysT0 w (yp93' ci_16)) rfl rfl) (by omega) rfl ?_
    refine sp103 w (yp93' ci_16) (fun c => ?_) (fun c => ?_)
    · replace k := k.1 c
      refine y_ift (pcT := 26) f121_20 rfl rfl ?_
      refine y_s (pc' := 27) (L' := [some (vR (some 32)), some (vI x0), some (vI x1), some (vJ x2), none]) (st' := [vR (some 32)]) (h' := h) f121_26 rfl ?_
      refine y_gr (pc' := 30) f121_27 yf_7_39 rfl rfl (ys32 w) (yp32_7 w) rfl ?_
      refine y_s (pc' := 31) (L' := [some (vR (some 32)), some (vI x0), some (vI x1), some (vJ x2), none]) (st' := [vI x0, vR (some 93)]) (h' := h) f121_30 rfl ?_
      have ci_31 := k.1
      replace k := k.2
      refine y_aa (pc' := 32) f121_31 (by decide) (ys93 w) ci_31 (yp93 w ci_31) rfl ?_
      refine y_s (pc' := 33) (L' := [some (vR (some 32)), some (vI x0), some (vI x1), some (vJ x2), none]) (st' := [vI x1, vR (some ((125 + 2 * (x0).toNat)))]) (h' := h) f121_32 rfl ?_
      refine y_cI (pc' := 36) (as := [vR (some ((125 + 2 * (x0).toNat))), vI x1]) (r := []) f121_33 (yzv ym_7_233 rfl (ysT0 w (yp93' ci_31)) rfl rfl) (by omega) rfl ?_
      refine sp104 w (yp93' ci_31) (by omega) (fun c => ?_) (fun c => ?_)
      · replace k := k.1 c
        refine y_iff (pcT := 53) (pc' := 39) f121_36 rfl rfl rfl ?_
        refine y_s (pc' := 40) (L' := [some (vR (some 32)), some (vI x0), some (vI x1), some (vJ x2), none]) (st' := [vR (some 32)]) (h' := h) f121_39 rfl ?_
        refine y_gr (pc' := 43) f121_40 yf_7_39 rfl rfl (ys32 w) (yp32_7 w) rfl ?_
        refine y_s (pc' := 44) (L' := [some (vR (some 32)), some (vI x0), some (vI x1), some (vJ x2), none]) (st' := [vI x0, vR (some 93)]) (h' := h) f121_43 rfl ?_
        have ci_44 := k.1
        replace k := k.2
        refine y_aa (pc' := 45) f121_44 (by decide) (ys93 w) ci_44 (yp93 w ci_44) rfl ?_
        refine y_s (pc' := 46) (L' := [some (vR (some 32)), some (vI x0), some (vI x1), some (vJ x2), none]) (st' := [vI x1, vR (some ((125 + 2 * (x0).toNat)))]) (h' := h) f121_45 rfl ?_
        refine y_s (pc' := 47) (L' := [some (vR (some 32)), some (vI x0), some (vI x1), some (vJ x2), none]) (st' := [vJ x2, vI x1, vR (some ((125 + 2 * (x0).toNat)))]) (h' := h) f121_46 rfl ?_
        refine y_cI (pc' := 50) (as := [vR (some ((125 + 2 * (x0).toNat))), vI x1, vJ x2]) (r := []) f121_47 (yzv ym_7_277 rfl (ysT0 w (yp93' ci_44)) rfl rfl) (by omega) rfl ?_
        exact k
      · replace k := k.2 c
        refine y_ift (pcT := 53) f121_36 rfl rfl ?_
        refine y_s (pc' := 55) (L' := [some (vR (some 32)), some (vI x0), some (vI x1), some (vJ x2), none]) (st' := [vI (-13)]) (h' := h) f121_53 rfl ?_
        exact y_ri f121_55 ⟨rfl, k⟩
    · replace k := k.2 c
      refine y_iff (pcT := 26) (pc' := 23) f121_20 rfl rfl rfl ?_
      refine y_s (pc' := 25) (L' := [some (vR (some 32)), some (vI x0), some (vI x1), some (vJ x2), none]) (st' := [vI (-11)]) (h' := h) f121_23 rfl ?_
      exact y_ri f121_25 ⟨rfl, k⟩
  · replace k := k.2 c
    refine y_iff (pcT := 11) (pc' := 9) f121_6 rfl rfl rfl ?_
    refine y_s (pc' := 10) (L' := [some (vR (some 32)), some (vI x0), some (vI x1), some (vJ x2), none]) (st' := [vI (-1)]) (h' := h) f121_9 rfl ?_
    exact y_ri f121_10 ⟨rfl, k⟩
theorem W121_50 {d : Nat} {K : Int → Hp → Prop} (w : yWF zl nl h) {l1 : Int} {l2 : Int} {l3 : Int64} {s0 : Int} (k : K s0 h) : ZW d prog_1_method_39_code 7 50 [some (vR (some 32)), some (vI l1), some (vI l2), some (vJ l3), none] [vI s0] h (yq 1 (yqI K)) := by
  refine y_go (pc' := 55) f121_50 rfl ?_
  exact y_ri f121_55 ⟨rfl, k⟩
/-- HatterTunes.read(II)J -/
theorem E124 {d : Nat} {K : Int64 → Hp → Prop} (w : yWF zl nl h) {x0 : Int} {x1 : Int} (hd : 2 ≤ d) (k : ((((0 : Int) ≤ x0 ∧ x0 < 6) → ((0 ≤ x0 ∧ x0 < 6) ∧ ((((0 : Int) ≤ x1 ∧ x1 < zV h ((125 + 2 * (x0).toNat)) 2) → ((0 ≤ x0 ∧ x0 < 6) ∧ ((0 ≤ x1 ∧ x1 < 60) ∧ K (zJ h ((125 + 2 * (x0).toNat) + 1) (x1).toNat) h))) ∧ (¬ (((0 : Int) ≤ x1 ∧ x1 < zV h ((125 + 2 * (x0).toNat)) 2)) → K (-9223372036854775808 : Int64) h)))) ∧ (¬ (((0 : Int) ≤ x0 ∧ x0 < 6)) → K (-9223372036854775808 : Int64) h))) : yJ d 124 [vR (some 32), vI x0, vI x1] h K := by
  refine y_en (L := [some (vR (some 32)), some (vI x0), some (vI x1)]) rfl rfl ?_
  refine y_s (pc' := 1) (L' := [some (vR (some 32)), some (vI x0), some (vI x1)]) (st' := [vI x0]) (h' := h) f124_0 rfl ?_
  refine y_s (pc' := 3) (L' := [some (vR (some 32)), some (vI x0), some (vI x1)]) (st' := [vI 6, vI x0]) (h' := h) f124_1 rfl ?_
  refine y_cI (pc' := 6) (as := [vI x0, vI 6]) (r := []) f124_3 rfl (by omega) rfl ?_
  refine sp10 w (fun c => ?_) (fun c => ?_)
  · replace k := k.1 c
    refine y_iff (pcT := 22) (pc' := 9) f124_6 rfl rfl rfl ?_
    refine y_s (pc' := 10) (L' := [some (vR (some 32)), some (vI x0), some (vI x1)]) (st' := [vR (some 32)]) (h' := h) f124_9 rfl ?_
    refine y_gr (pc' := 13) f124_10 yf_7_39 rfl rfl (ys32 w) (yp32_7 w) rfl ?_
    refine y_s (pc' := 14) (L' := [some (vR (some 32)), some (vI x0), some (vI x1)]) (st' := [vI x0, vR (some 93)]) (h' := h) f124_13 rfl ?_
    have ci_14 := k.1
    replace k := k.2
    refine y_aa (pc' := 15) f124_14 (by decide) (ys93 w) ci_14 (yp93 w ci_14) rfl ?_
    refine y_s (pc' := 16) (L' := [some (vR (some 32)), some (vI x0), some (vI x1)]) (st' := [vI x1, vR (some ((125 + 2 * (x0).toNat)))]) (h' := h) f124_15 rfl ?_
    refine y_cI (pc' := 19) (as := [vR (some ((125 + 2 * (x0).toNat))), vI x1]) (r := []) f124_16 (yzv ym_7_233 rfl (ysT0 w (yp93' ci_14)) rfl rfl) (by omega) rfl ?_
    refine sp104 w (yp93' ci_14) (by omega) (fun c => ?_) (fun c => ?_)
    · replace k := k.1 c
      refine y_ift (pcT := 26) f124_19 rfl rfl ?_
      refine y_s (pc' := 27) (L' := [some (vR (some 32)), some (vI x0), some (vI x1)]) (st' := [vR (some 32)]) (h' := h) f124_26 rfl ?_
      refine y_gr (pc' := 30) f124_27 yf_7_39 rfl rfl (ys32 w) (yp32_7 w) rfl ?_
      refine y_s (pc' := 31) (L' := [some (vR (some 32)), some (vI x0), some (vI x1)]) (st' := [vI x0, vR (some 93)]) (h' := h) f124_30 rfl ?_
      have ci_31 := k.1
      replace k := k.2
      refine y_aa (pc' := 32) f124_31 (by decide) (ys93 w) ci_31 (yp93 w ci_31) rfl ?_
      refine y_gr (pc' := 35) f124_32 yf_7_243 rfl rfl (ysT0 w (yp93' ci_31)) (ypT0 w (yp93' ci_31)) rfl ?_
      refine y_s (pc' := 36) (L' := [some (vR (some 32)), some (vI x0), some (vI x1)]) (st' := [vI x1, vR (some ((125 + 2 * (x0).toNat) + 1))]) (h' := h) f124_35 rfl ?_
      refine y_ja (pc' := 37) (x := (zJ h ((125 + 2 * (x0).toNat) + 1) (x1).toNat)) f124_36 (ysT1 w (yp93' ci_31)) k.1 rfl rfl ?_
      replace k := k.2
      exact y_rj f124_37 ⟨rfl, k⟩
    · replace k := k.2 c
      refine y_iff (pcT := 26) (pc' := 22) f124_19 rfl rfl rfl ?_
      refine y_s (pc' := 25) (L' := [some (vR (some 32)), some (vI x0), some (vI x1)]) (st' := [vJ (-9223372036854775808 : Int64)]) (h' := h) f124_22 rfl ?_
      exact y_rj f124_25 ⟨rfl, k⟩
  · replace k := k.2 c
    refine y_ift (pcT := 22) f124_6 rfl rfl ?_
    refine y_s (pc' := 25) (L' := [some (vR (some 32)), some (vI x0), some (vI x1)]) (st' := [vJ (-9223372036854775808 : Int64)]) (h' := h) f124_22 rfl ?_
    exact y_rj f124_25 ⟨rfl, k⟩
/-- HatterTunes.shift(IIIII)I -/
theorem E125 {d : Nat} {K : Int → Hp → Prop} (w : yWF zl nl h) {x0 : Int} {x1 : Int} {x2 : Int} {x3 : Int} {x4 : Int} (hd : 1 ≤ d) (k : ((((0 : Int) ≤ x0 ∧ x0 < 6) → ((((0 : Int) ≤ x2 ∧ x2 < 6) → ((0 ≤ x0 ∧ x0 < 6) ∧ ((0 ≤ x2 ∧ x2 < 6) ∧ (((zV h ((125 + 2 * (x0).toNat)) 1 ≠ -1) → (((zV h ((125 + 2 * (x2).toNat)) 1 ≠ -1) → (((zV h ((125 + 2 * (x0).toNat)) 1) = (zV h ((125 + 2 * (x2).toNat)) 1) → (((0 : Int) ≤ zV h ((125 + 2 * (x0).toNat)) 2 ∧ zV h ((125 + 2 * (x0).toNat)) 2 ≤ 60) ∧ ((((0 : Int) ≤ x1 ∧ (0 : Int) ≤ x4 ∧ x1 + x4 ≤ zV h ((125 + 2 * (x0).toNat)) 2) → (((0 : Int) ≤ zV h ((125 + 2 * (x2).toNat)) 2 ∧ zV h ((125 + 2 * (x2).toNat)) 2 ≤ 60) ∧ ((((0 : Int) ≤ x3 ∧ (0 : Int) ≤ x4 ∧ x3 + x4 ≤ zV h ((125 + 2 * (x2).toNat)) 2) → (((0 : Int) ≤ x4 ∧ (0 : Int) ≤ x1 ∧ (0 : Int) ≤ x3 ∧ x1 + x4 ≤ (60 : Int) ∧ x3 + x4 ≤ (60 : Int)) ∧ K x4 (zcpJ h ((125 + 2 * (x0).toNat) + 1) (x1).toNat ((125 + 2 * (x2).toNat) + 1) (x3).toNat (x4).toNat))) ∧ (¬ (((0 : Int) ≤ x3 ∧ (0 : Int) ≤ x4 ∧ x3 + x4 ≤ zV h ((125 + 2 * (x2).toNat)) 2)) → K (-13) h)))) ∧ (¬ (((0 : Int) ≤ x1 ∧ (0 : Int) ≤ x4 ∧ x1 + x4 ≤ zV h ((125 + 2 * (x0).toNat)) 2)) → K (-13) h)))) ∧ (¬ ((zV h ((125 + 2 * (x0).toNat)) 1) = (zV h ((125 + 2 * (x2).toNat)) 1)) → K (-12) h))) ∧ (¬ ((zV h ((125 + 2 * (x2).toNat)) 1 ≠ -1)) → K (-11) h))) ∧ (¬ ((zV h ((125 + 2 * (x0).toNat)) 1 ≠ -1)) → K (-11) h))))) ∧ (¬ (((0 : Int) ≤ x2 ∧ x2 < 6)) → K (-1) h))) ∧ (¬ (((0 : Int) ≤ x0 ∧ x0 < 6)) → K (-1) h))) : yI d 125 [vR (some 32), vI x0, vI x1, vI x2, vI x3, vI x4] h K := by
  refine y_en (L := [some (vR (some 32)), some (vI x0), some (vI x1), some (vI x2), some (vI x3), some (vI x4), none, none]) rfl rfl ?_
  refine y_s (pc' := 1) (L' := [some (vR (some 32)), some (vI x0), some (vI x1), some (vI x2), some (vI x3), some (vI x4), none, none]) (st' := [vI x0]) (h' := h) f125_0 rfl ?_
  refine y_s (pc' := 3) (L' := [some (vR (some 32)), some (vI x0), some (vI x1), some (vI x2), some (vI x3), some (vI x4), none, none]) (st' := [vI 6, vI x0]) (h' := h) f125_1 rfl ?_
  refine y_cI (pc' := 6) (as := [vI x0, vI 6]) (r := []) f125_3 rfl (by omega) rfl ?_
  refine sp10 w (fun c => ?_) (fun c => ?_)
  · replace k := k.1 c
    refine y_iff (pcT := 18) (pc' := 9) f125_6 rfl rfl rfl ?_
    refine y_s (pc' := 10) (L' := [some (vR (some 32)), some (vI x0), some (vI x1), some (vI x2), some (vI x3), some (vI x4), none, none]) (st' := [vI x2]) (h' := h) f125_9 rfl ?_
    refine y_s (pc' := 12) (L' := [some (vR (some 32)), some (vI x0), some (vI x1), some (vI x2), some (vI x3), some (vI x4), none, none]) (st' := [vI 6, vI x2]) (h' := h) f125_10 rfl ?_
    refine y_cI (pc' := 15) (as := [vI x2, vI 6]) (r := []) f125_12 rfl (by omega) rfl ?_
    refine sp10 w (fun c => ?_) (fun c => ?_)
    · replace k := k.1 c
      refine y_ift (pcT := 20) f125_15 rfl rfl ?_
      refine y_s (pc' := 21) (L' := [some (vR (some 32)), some (vI x0), some (vI x1), some (vI x2), some (vI x3), some (vI x4), none, none]) (st' := [vR (some 32)]) (h' := h) f125_20 rfl ?_
      refine y_gr (pc' := 24) f125_21 yf_7_39 rfl rfl (ys32 w) (yp32_7 w) rfl ?_
      refine y_s (pc' := 25) (L' := [some (vR (some 32)), some (vI x0), some (vI x1), some (vI x2), some (vI x3), some (vI x4), none, none]) (st' := [vI x0, vR (some 93)]) (h' := h) f125_24 rfl ?_
      have ci_25 := k.1
      replace k := k.2
      refine y_aa (pc' := 26) f125_25 (by decide) (ys93 w) ci_25 (yp93 w ci_25) rfl ?_
      refine y_sto (pc' := 28) (k := 6) (L' := [some (vR (some 32)), some (vI x0), some (vI x1), some (vI x2), some (vI x3), some (vI x4), some (vR (some ((125 + 2 * (x0).toNat)))), none]) f125_26 rfl rfl rfl rfl rfl rfl ?_
      refine y_s (pc' := 29) (L' := [some (vR (some 32)), some (vI x0), some (vI x1), some (vI x2), some (vI x3), some (vI x4), some (vR (some ((125 + 2 * (x0).toNat)))), none]) (st' := [vR (some 32)]) (h' := h) f125_28 rfl ?_
      refine y_gr (pc' := 32) f125_29 yf_7_39 rfl rfl (ys32 w) (yp32_7 w) rfl ?_
      refine y_s (pc' := 33) (L' := [some (vR (some 32)), some (vI x0), some (vI x1), some (vI x2), some (vI x3), some (vI x4), some (vR (some ((125 + 2 * (x0).toNat)))), none]) (st' := [vI x2, vR (some 93)]) (h' := h) f125_32 rfl ?_
      have ci_33 := k.1
      replace k := k.2
      refine y_aa (pc' := 34) f125_33 (by decide) (ys93 w) ci_33 (yp93 w ci_33) rfl ?_
      refine y_sto (pc' := 36) (k := 7) (L' := [some (vR (some 32)), some (vI x0), some (vI x1), some (vI x2), some (vI x3), some (vI x4), some (vR (some ((125 + 2 * (x0).toNat)))), some (vR (some ((125 + 2 * (x2).toNat))))]) f125_34 rfl rfl rfl rfl rfl rfl ?_
      refine y_s (pc' := 38) (L' := [some (vR (some 32)), some (vI x0), some (vI x1), some (vI x2), some (vI x3), some (vI x4), some (vR (some ((125 + 2 * (x0).toNat)))), some (vR (some ((125 + 2 * (x2).toNat))))]) (st' := [vR (some ((125 + 2 * (x0).toNat)))]) (h' := h) f125_36 rfl ?_
      refine y_cI (pc' := 41) (as := [vR (some ((125 + 2 * (x0).toNat)))]) (r := []) f125_38 (yzv ym_7_227 rfl (ysT0 w (yp93' ci_25)) rfl rfl) (by omega) rfl ?_
      refine sp103 w (yp93' ci_25) (fun c => ?_) (fun c => ?_)
      · replace k := k.1 c
        refine y_iff (pcT := 52) (pc' := 44) f125_41 rfl rfl rfl ?_
        refine y_s (pc' := 46) (L' := [some (vR (some 32)), some (vI x0), some (vI x1), some (vI x2), some (vI x3), some (vI x4), some (vR (some ((125 + 2 * (x0).toNat)))), some (vR (some ((125 + 2 * (x2).toNat))))]) (st' := [vR (some ((125 + 2 * (x2).toNat)))]) (h' := h) f125_44 rfl ?_
        refine y_cI (pc' := 49) (as := [vR (some ((125 + 2 * (x2).toNat)))]) (r := []) f125_46 (yzv ym_7_227 rfl (ysT0 w (yp93' ci_33)) rfl rfl) (by omega) rfl ?_
        refine sp103 w (yp93' ci_33) (fun c => ?_) (fun c => ?_)
        · replace k := k.1 c
          refine y_ift (pcT := 55) f125_49 rfl rfl ?_
          refine y_s (pc' := 57) (L' := [some (vR (some 32)), some (vI x0), some (vI x1), some (vI x2), some (vI x3), some (vI x4), some (vR (some ((125 + 2 * (x0).toNat)))), some (vR (some ((125 + 2 * (x2).toNat))))]) (st' := [vR (some ((125 + 2 * (x0).toNat)))]) (h' := h) f125_55 rfl ?_
          refine y_gi (pc' := 60) f125_57 yf_7_230 rfl rfl (ysT0 w (yp93' ci_25)) rfl ?_
          refine y_s (pc' := 62) (L' := [some (vR (some 32)), some (vI x0), some (vI x1), some (vI x2), some (vI x3), some (vI x4), some (vR (some ((125 + 2 * (x0).toNat)))), some (vR (some ((125 + 2 * (x2).toNat))))]) (st' := [vR (some ((125 + 2 * (x2).toNat))), vI (zV h ((125 + 2 * (x0).toNat)) 1)]) (h' := h) f125_60 rfl ?_
          refine y_gi (pc' := 65) f125_62 yf_7_230 rfl rfl (ysT0 w (yp93' ci_33)) rfl ?_
          refine y_ic (pcT := 71) (pc' := 68) (P := (zV h ((125 + 2 * (x0).toNat)) 1) = (zV h ((125 + 2 * (x2).toNat)) 1)) f125_65 rfl rfl rfl (fun c => ?_) (fun c => ?_)
          · replace k := k.1 c
            refine y_s (pc' := 73) (L' := [some (vR (some 32)), some (vI x0), some (vI x1), some (vI x2), some (vI x3), some (vI x4), some (vR (some ((125 + 2 * (x0).toNat)))), some (vR (some ((125 + 2 * (x2).toNat))))]) (st' := [vR (some ((125 + 2 * (x0).toNat)))]) (h' := h) f125_71 rfl ?_
            refine y_s (pc' := 74) (L' := [some (vR (some 32)), some (vI x0), some (vI x1), some (vI x2), some (vI x3), some (vI x4), some (vR (some ((125 + 2 * (x0).toNat)))), some (vR (some ((125 + 2 * (x2).toNat))))]) (st' := [vI x1, vR (some ((125 + 2 * (x0).toNat)))]) (h' := h) f125_73 rfl ?_
            refine y_s (pc' := 76) (L' := [some (vR (some 32)), some (vI x0), some (vI x1), some (vI x2), some (vI x3), some (vI x4), some (vR (some ((125 + 2 * (x0).toNat)))), some (vR (some ((125 + 2 * (x2).toNat))))]) (st' := [vI x4, vI x1, vR (some ((125 + 2 * (x0).toNat)))]) (h' := h) f125_74 rfl ?_
            refine y_cI (pc' := 79) (as := [vR (some ((125 + 2 * (x0).toNat))), vI x1, vI x4]) (r := []) f125_76 (yzv ym_7_281 rfl (ysT0 w (yp93' ci_25)) rfl rfl) (by omega) rfl ?_
            have p0 := k.1
            replace k := k.2
            refine sp126 w (yp93' ci_25) p0 (fun c => ?_) (fun c => ?_)
            · replace k := k.1 c
              refine y_iff (pcT := 94) (pc' := 82) f125_79 rfl rfl rfl ?_
              refine y_s (pc' := 84) (L' := [some (vR (some 32)), some (vI x0), some (vI x1), some (vI x2), some (vI x3), some (vI x4), some (vR (some ((125 + 2 * (x0).toNat)))), some (vR (some ((125 + 2 * (x2).toNat))))]) (st' := [vR (some ((125 + 2 * (x2).toNat)))]) (h' := h) f125_82 rfl ?_
              refine y_s (pc' := 86) (L' := [some (vR (some 32)), some (vI x0), some (vI x1), some (vI x2), some (vI x3), some (vI x4), some (vR (some ((125 + 2 * (x0).toNat)))), some (vR (some ((125 + 2 * (x2).toNat))))]) (st' := [vI x3, vR (some ((125 + 2 * (x2).toNat)))]) (h' := h) f125_84 rfl ?_
              refine y_s (pc' := 88) (L' := [some (vR (some 32)), some (vI x0), some (vI x1), some (vI x2), some (vI x3), some (vI x4), some (vR (some ((125 + 2 * (x0).toNat)))), some (vR (some ((125 + 2 * (x2).toNat))))]) (st' := [vI x4, vI x3, vR (some ((125 + 2 * (x2).toNat)))]) (h' := h) f125_86 rfl ?_
              refine y_cI (pc' := 91) (as := [vR (some ((125 + 2 * (x2).toNat))), vI x3, vI x4]) (r := []) f125_88 (yzv ym_7_281 rfl (ysT0 w (yp93' ci_33)) rfl rfl) (by omega) rfl ?_
              have p0 := k.1
              replace k := k.2
              refine sp126 w (yp93' ci_33) p0 (fun c => ?_) (fun c => ?_)
              · replace k := k.1 c
                refine y_ift (pcT := 97) f125_91 rfl rfl ?_
                refine y_s (pc' := 99) (L' := [some (vR (some 32)), some (vI x0), some (vI x1), some (vI x2), some (vI x3), some (vI x4), some (vR (some ((125 + 2 * (x0).toNat)))), some (vR (some ((125 + 2 * (x2).toNat))))]) (st' := [vR (some ((125 + 2 * (x0).toNat)))]) (h' := h) f125_97 rfl ?_
                refine y_gr (pc' := 102) f125_99 yf_7_243 rfl rfl (ysT0 w (yp93' ci_25)) (ypT0 w (yp93' ci_25)) rfl ?_
                refine y_s (pc' := 103) (L' := [some (vR (some 32)), some (vI x0), some (vI x1), some (vI x2), some (vI x3), some (vI x4), some (vR (some ((125 + 2 * (x0).toNat)))), some (vR (some ((125 + 2 * (x2).toNat))))]) (st' := [vI x1, vR (some ((125 + 2 * (x0).toNat) + 1))]) (h' := h) f125_102 rfl ?_
                refine y_s (pc' := 105) (L' := [some (vR (some 32)), some (vI x0), some (vI x1), some (vI x2), some (vI x3), some (vI x4), some (vR (some ((125 + 2 * (x0).toNat)))), some (vR (some ((125 + 2 * (x2).toNat))))]) (st' := [vR (some ((125 + 2 * (x2).toNat))), vI x1, vR (some ((125 + 2 * (x0).toNat) + 1))]) (h' := h) f125_103 rfl ?_
                refine y_gr (pc' := 108) f125_105 yf_7_243 rfl rfl (ysT0 w (yp93' ci_33)) (ypT0 w (yp93' ci_33)) rfl ?_
                refine y_s (pc' := 110) (L' := [some (vR (some 32)), some (vI x0), some (vI x1), some (vI x2), some (vI x3), some (vI x4), some (vR (some ((125 + 2 * (x0).toNat)))), some (vR (some ((125 + 2 * (x2).toNat))))]) (st' := [vI x3, vR (some ((125 + 2 * (x2).toNat) + 1)), vI x1, vR (some ((125 + 2 * (x0).toNat) + 1))]) (h' := h) f125_108 rfl ?_
                refine y_s (pc' := 112) (L' := [some (vR (some 32)), some (vI x0), some (vI x1), some (vI x2), some (vI x3), some (vI x4), some (vR (some ((125 + 2 * (x0).toNat)))), some (vR (some ((125 + 2 * (x2).toNat))))]) (st' := [vI x4, vI x3, vR (some ((125 + 2 * (x2).toNat) + 1)), vI x1, vR (some ((125 + 2 * (x0).toNat) + 1))]) (h' := h) f125_110 rfl ?_
                refine y_cj (pc' := 115) (h' := (zcpJ h ((125 + 2 * (x0).toNat) + 1) (x1).toNat ((125 + 2 * (x2).toNat) + 1) (x3).toNat (x4).toNat)) f125_112 ym_7_284 (by omega) rfl (ysT1 w (yp93' ci_25)) (ysT1 w (yp93' ci_33)) (Nat.le_add_right_of_le (yT_32 (yp93' ci_25))) (Nat.le_add_right_of_le (yT_32 (yp93' ci_33))) k.1 rfl rfl ?_
                replace k := k.2
                refine y_s (pc' := 117) (L' := [some (vR (some 32)), some (vI x0), some (vI x1), some (vI x2), some (vI x3), some (vI x4), some (vR (some ((125 + 2 * (x0).toNat)))), some (vR (some ((125 + 2 * (x2).toNat))))]) (st' := [vI x4]) (h' := (zcpJ h ((125 + 2 * (x0).toNat) + 1) (x1).toNat ((125 + 2 * (x2).toNat) + 1) (x3).toNat (x4).toNat)) f125_115 rfl ?_
                exact y_ri f125_117 ⟨rfl, k⟩
              · replace k := k.2 c
                refine y_iff (pcT := 97) (pc' := 94) f125_91 rfl rfl rfl ?_
                refine y_s (pc' := 96) (L' := [some (vR (some 32)), some (vI x0), some (vI x1), some (vI x2), some (vI x3), some (vI x4), some (vR (some ((125 + 2 * (x0).toNat)))), some (vR (some ((125 + 2 * (x2).toNat))))]) (st' := [vI (-13)]) (h' := h) f125_94 rfl ?_
                exact y_ri f125_96 ⟨rfl, k⟩
            · replace k := k.2 c
              refine y_ift (pcT := 94) f125_79 rfl rfl ?_
              refine y_s (pc' := 96) (L' := [some (vR (some 32)), some (vI x0), some (vI x1), some (vI x2), some (vI x3), some (vI x4), some (vR (some ((125 + 2 * (x0).toNat)))), some (vR (some ((125 + 2 * (x2).toNat))))]) (st' := [vI (-13)]) (h' := h) f125_94 rfl ?_
              exact y_ri f125_96 ⟨rfl, k⟩
          · replace k := k.2 c
            refine y_s (pc' := 70) (L' := [some (vR (some 32)), some (vI x0), some (vI x1), some (vI x2), some (vI x3), some (vI x4), some (vR (some ((125 + 2 * (x0).toNat)))), some (vR (some ((125 + 2 * (x2).toNat))))]) (st' := [vI (-12)]) (h' := h) f125_68 rfl ?_
            exact y_ri f125_70 ⟨rfl, k⟩
        · replace k := k.2 c
          refine y_iff (pcT := 55) (pc' := 52) f125_49 rfl rfl rfl ?_
          refine y_s (pc' := 54) (L' := [some (vR (some 32)), some (vI x0), some (vI x1), some (vI x2), some (vI x3), some (vI x4), some (vR (some ((125 + 2 * (x0).toNat)))), some (vR (some ((125 + 2 * (x2).toNat))))]) (st' := [vI (-11)]) (h' := h) f125_52 rfl ?_
          exact y_ri f125_54 ⟨rfl, k⟩
      · replace k := k.2 c
        refine y_ift (pcT := 52) f125_41 rfl rfl ?_
        refine y_s (pc' := 54) (L' := [some (vR (some 32)), some (vI x0), some (vI x1), some (vI x2), some (vI x3), some (vI x4), some (vR (some ((125 + 2 * (x0).toNat)))), some (vR (some ((125 + 2 * (x2).toNat))))]) (st' := [vI (-11)]) (h' := h) f125_52 rfl ?_
        exact y_ri f125_54 ⟨rfl, k⟩
    · replace k := k.2 c
      refine y_iff (pcT := 20) (pc' := 18) f125_15 rfl rfl rfl ?_
      refine y_s (pc' := 19) (L' := [some (vR (some 32)), some (vI x0), some (vI x1), some (vI x2), some (vI x3), some (vI x4), none, none]) (st' := [vI (-1)]) (h' := h) f125_18 rfl ?_
      exact y_ri f125_19 ⟨rfl, k⟩
  · replace k := k.2 c
    refine y_ift (pcT := 18) f125_6 rfl rfl ?_
    refine y_s (pc' := 19) (L' := [some (vR (some 32)), some (vI x0), some (vI x1), some (vI x2), some (vI x3), some (vI x4), none, none]) (st' := [vI (-1)]) (h' := h) f125_18 rfl ?_
    exact y_ri f125_19 ⟨rfl, k⟩
/-- HatterTunes.count(I)I -/
theorem E117 {d : Nat} {K : Int → Hp → Prop} (w : yWF zl nl h) {x0 : Int} (k : ((x0 = 0 → K (zV h 33 10) h) ∧ (x0 = 1 → K (zV h 32 6) h) ∧ (x0 = 2 → K (zV h 42 1) h) ∧ (x0 = 3 → K (zV h 44 1) h) ∧ (x0 = 4 → K (zV h 46 1) h) ∧ (x0 = 5 → K (zV h 90 1) h) ∧ (x0 = 6 → K (zV h 94 1) h) ∧ (x0 = 7 → K (zV h 40 1) h) ∧ (x0 < 0 ∨ 7 < x0 → K (-2) h))) : yI d 117 [vR (some 32), vI x0] h K := by
  refine y_en (L := [some (vR (some 32)), some (vI x0)]) rfl rfl ?_
  refine y_s (pc' := 1) (L' := [some (vR (some 32)), some (vI x0)]) (st' := [vI x0]) (h' := h) f117_0 rfl ?_
  by_cases c : x0 = 0
  · refine y_tc (pc' := 48) (v := 0) f117_1 c rfl rfl rfl ?_
    replace k := k.1 c
    refine y_s (pc' := 49) (L' := [some (vR (some 32)), some (vI x0)]) (st' := [vR (some 32)]) (h' := h) f117_48 rfl ?_
    refine y_gr (pc' := 52) f117_49 yf_7_14 rfl rfl (ys32 w) (yp32_0 w) rfl ?_
    refine y_gi (pc' := 55) f117_52 yf_7_63 rfl rfl (ys33 w) rfl ?_
    exact y_ri f117_55 ⟨rfl, k⟩
  replace k := k.2
  have c0 := c
  by_cases c : x0 = 1
  · refine y_tc (pc' := 56) (v := 1) f117_1 c rfl rfl rfl ?_
    replace k := k.1 c
    refine y_s (pc' := 57) (L' := [some (vR (some 32)), some (vI x0)]) (st' := [vR (some 32)]) (h' := h) f117_56 rfl ?_
    refine y_gi (pc' := 60) f117_57 yf_7_155 rfl rfl (ys32 w) rfl ?_
    exact y_ri f117_60 ⟨rfl, k⟩
  replace k := k.2
  have c1 := c
  by_cases c : x0 = 2
  · refine y_tc (pc' := 61) (v := 2) f117_1 c rfl rfl rfl ?_
    replace k := k.1 c
    refine y_s (pc' := 62) (L' := [some (vR (some 32)), some (vI x0)]) (st' := [vR (some 32)]) (h' := h) f117_61 rfl ?_
    refine y_gr (pc' := 65) f117_62 yf_7_14 rfl rfl (ys32 w) (yp32_0 w) rfl ?_
    refine y_gr (pc' := 68) f117_65 yf_7_203 rfl rfl (ys33 w) (yp33_7 w) rfl ?_
    refine y_gi (pc' := 71) f117_68 yf_7_178 rfl rfl (ys42 w) rfl ?_
    exact y_ri f117_71 ⟨rfl, k⟩
  replace k := k.2
  have c2 := c
  by_cases c : x0 = 3
  · refine y_tc (pc' := 72) (v := 3) f117_1 c rfl rfl rfl ?_
    replace k := k.1 c
    refine y_s (pc' := 73) (L' := [some (vR (some 32)), some (vI x0)]) (st' := [vR (some 32)]) (h' := h) f117_72 rfl ?_
    refine y_gr (pc' := 76) f117_73 yf_7_14 rfl rfl (ys32 w) (yp32_0 w) rfl ?_
    refine y_gr (pc' := 79) f117_76 yf_7_218 rfl rfl (ys33 w) (yp33_8 w) rfl ?_
    refine y_gi (pc' := 82) f117_79 yf_7_178 rfl rfl (ys44 w) rfl ?_
    exact y_ri f117_82 ⟨rfl, k⟩
  replace k := k.2
  have c3 := c
  by_cases c : x0 = 4
  · refine y_tc (pc' := 83) (v := 4) f117_1 c rfl rfl rfl ?_
    replace k := k.1 c
    refine y_s (pc' := 84) (L' := [some (vR (some 32)), some (vI x0)]) (st' := [vR (some 32)]) (h' := h) f117_83 rfl ?_
    refine y_gr (pc' := 87) f117_84 yf_7_14 rfl rfl (ys32 w) (yp32_0 w) rfl ?_
    refine y_gr (pc' := 90) f117_87 yf_7_224 rfl rfl (ys33 w) (yp33_9 w) rfl ?_
    refine y_gi (pc' := 93) f117_90 yf_7_178 rfl rfl (ys46 w) rfl ?_
    exact y_ri f117_93 ⟨rfl, k⟩
  replace k := k.2
  have c4 := c
  by_cases c : x0 = 5
  · refine y_tc (pc' := 94) (v := 5) f117_1 c rfl rfl rfl ?_
    replace k := k.1 c
    refine y_s (pc' := 95) (L' := [some (vR (some 32)), some (vI x0)]) (st' := [vR (some 32)]) (h' := h) f117_94 rfl ?_
    refine y_gr (pc' := 98) f117_95 yf_7_27 rfl rfl (ys32 w) (yp32_4 w) rfl ?_
    refine y_gi (pc' := 101) f117_98 yf_7_267 rfl rfl (ys90 w) rfl ?_
    exact y_ri f117_101 ⟨rfl, k⟩
  replace k := k.2
  have c5 := c
  by_cases c : x0 = 6
  · refine y_tc (pc' := 102) (v := 6) f117_1 c rfl rfl rfl ?_
    replace k := k.1 c
    refine y_s (pc' := 103) (L' := [some (vR (some 32)), some (vI x0)]) (st' := [vR (some 32)]) (h' := h) f117_102 rfl ?_
    refine y_gr (pc' := 106) f117_103 yf_7_46 rfl rfl (ys32 w) (yp32_8 w) rfl ?_
    refine y_gi (pc' := 109) f117_106 yf_7_268 rfl rfl (ys94 w) rfl ?_
    exact y_ri f117_109 ⟨rfl, k⟩
  replace k := k.2
  have c6 := c
  by_cases c : x0 = 7
  · refine y_tc (pc' := 110) (v := 7) f117_1 c rfl rfl rfl ?_
    replace k := k.1 c
    refine y_s (pc' := 111) (L' := [some (vR (some 32)), some (vI x0)]) (st' := [vR (some 32)]) (h' := h) f117_110 rfl ?_
    refine y_gr (pc' := 114) f117_111 yf_7_14 rfl rfl (ys32 w) (yp32_0 w) rfl ?_
    refine y_gr (pc' := 117) f117_114 yf_7_131 rfl rfl (ys33 w) (yp33_6 w) rfl ?_
    refine y_gi (pc' := 120) f117_117 yf_7_178 rfl rfl (ys40 w) rfl ?_
    exact y_ri f117_120 ⟨rfl, k⟩
  replace k := k.2
  have c7 := c
  have cc : x0 < 0 ∨ 7 < x0 := by omega
  refine y_td (pc' := 121) f117_1 cc rfl ?_
  replace k := k cc
  refine y_s (pc' := 123) (L' := [some (vR (some 32)), some (vI x0)]) (st' := [vI (-2)]) (h' := h) f117_121 rfl ?_
  exact y_ri f117_123 ⟨rfl, k⟩
/-- HatterTunes.trace(I)I -/
theorem E113 {d : Nat} {K : Int → Hp → Prop} (w : yWF zl nl h) {x0 : Int} (hd : 1 ≤ d) (k : yI (d - 1) 114 [vR (some 94)] h (fun x h' => ZW d prog_1_method_35_code 7 8 [some (vR (some 32)), some (vI x0)] [vI x, vI x0] h' (yq 1 (yqI K)))) : yI d 113 [vR (some 32), vI x0] h K := by
  refine y_en (L := [some (vR (some 32)), some (vI x0)]) rfl rfl ?_
  refine y_s (pc' := 1) (L' := [some (vR (some 32)), some (vI x0)]) (st' := [vI x0]) (h' := h) f113_0 rfl ?_
  refine y_s (pc' := 2) (L' := [some (vR (some 32)), some (vI x0)]) (st' := [vR (some 32), vI x0]) (h' := h) f113_1 rfl ?_
  refine y_gr (pc' := 5) f113_2 yf_7_46 rfl rfl (ys32 w) (yp32_8 w) rfl ?_
  refine y_cI (pc' := 8) (as := [vR (some 94)]) (r := [vI x0]) f113_5 (yzv ym_7_258 rfl (ys94 w) rfl rfl) (by omega) rfl ?_
  exact k
theorem W113_8 {d : Nat} {K : Int → Hp → Prop} (w : yWF zl nl h) {l1 : Int} {s0 : Int} {s1 : Int} (hd : 1 ≤ d) (k : ((((0 : Int) ≤ s0 ∧ s0 < s1) → ((0 ≤ l1 ∧ l1 < 20) ∧ K (zV h 95 (l1).toNat) h)) ∧ (¬ (((0 : Int) ≤ s0 ∧ s0 < s1)) → K (-1) h))) : ZW d prog_1_method_35_code 7 8 [some (vR (some 32)), some (vI l1)] [vI s1, vI s0] h (yq 1 (yqI K)) := by
  refine y_cI (pc' := 11) (as := [vI s0, vI s1]) (r := []) f113_8 rfl (by omega) rfl ?_
  refine sp10 w (fun c => ?_) (fun c => ?_)
  · replace k := k.1 c
    refine y_iff (pcT := 26) (pc' := 14) f113_11 rfl rfl rfl ?_
    refine y_s (pc' := 15) (L' := [some (vR (some 32)), some (vI l1)]) (st' := [vR (some 32)]) (h' := h) f113_14 rfl ?_
    refine y_gr (pc' := 18) f113_15 yf_7_46 rfl rfl (ys32 w) (yp32_8 w) rfl ?_
    refine y_gr (pc' := 21) f113_18 yf_7_261 rfl rfl (ys94 w) (yp94_0 w) rfl ?_
    refine y_s (pc' := 22) (L' := [some (vR (some 32)), some (vI l1)]) (st' := [vI l1, vR (some 95)]) (h' := h) f113_21 rfl ?_
    refine y_ia (pc' := 23) (x := (zV h 95 (l1).toNat)) f113_22 (ys95 w) k.1 rfl rfl ?_
    replace k := k.2
    refine y_go (pc' := 27) f113_23 rfl ?_
    exact y_ri f113_27 ⟨rfl, k⟩
  · replace k := k.2 c
    refine y_ift (pcT := 26) f113_11 rfl rfl ?_
    refine y_s (pc' := 27) (L' := [some (vR (some 32)), some (vI l1)]) (st' := [vI (-1)]) (h' := h) f113_26 rfl ?_
    exact y_ri f113_27 ⟨rfl, k⟩
/-- HatterTunes.taken(II)I -/
theorem E115 {d : Nat} {K : Int → Hp → Prop} (w : yWF zl nl h) {x0 : Int} {x1 : Int} (hd : 2 ≤ d) (k : ((((0 : Int) ≤ x1 ∧ x1 < 7) → ((((0 : Int) ≤ x0 ∧ x0 < zV h 33 10) → ((0 ≤ x0 ∧ x0 < 6) ∧ yI (d - 1) 116 [vI (zV h 34 (x0).toNat), vI x1] h (fun x h' => ZW d prog_1_method_36_code 7 38 [some (vR (some 32)), some (vI x0), some (vI x1), some (vI (zV h 34 (x0).toNat))] [vI x] h' (yq 1 (yqI K))))) ∧ (¬ (((0 : Int) ≤ x0 ∧ x0 < zV h 33 10)) → K (-11) h))) ∧ (¬ (((0 : Int) ≤ x1 ∧ x1 < 7)) → K (-2) h))) : yI d 115 [vR (some 32), vI x0, vI x1] h K := by
  refine y_en (L := [some (vR (some 32)), some (vI x0), some (vI x1), none]) rfl rfl ?_
  refine y_s (pc' := 1) (L' := [some (vR (some 32)), some (vI x0), some (vI x1), none]) (st' := [vI x1]) (h' := h) f115_0 rfl ?_
  refine y_s (pc' := 3) (L' := [some (vR (some 32)), some (vI x0), some (vI x1), none]) (st' := [vI 7, vI x1]) (h' := h) f115_1 rfl ?_
  refine y_cI (pc' := 6) (as := [vI x1, vI 7]) (r := []) f115_3 rfl (by omega) rfl ?_
  refine sp10 w (fun c => ?_) (fun c => ?_)
  · replace k := k.1 c
    refine y_ift (pcT := 12) f115_6 rfl rfl ?_
    refine y_s (pc' := 13) (L' := [some (vR (some 32)), some (vI x0), some (vI x1), none]) (st' := [vR (some 32)]) (h' := h) f115_12 rfl ?_
    refine y_s (pc' := 14) (L' := [some (vR (some 32)), some (vI x0), some (vI x1), none]) (st' := [vI x0, vR (some 32)]) (h' := h) f115_13 rfl ?_
    refine y_cI (pc' := 17) (as := [vR (some 32), vI x0]) (r := []) f115_14 (yzv ym_7_71 rfl (ys32 w) rfl rfl) (by omega) rfl ?_
    refine sp15 w (by omega) (fun c => ?_) (fun c => ?_)
    · replace k := k.1 c
      refine y_ift (pcT := 23) f115_17 rfl rfl ?_
      refine y_s (pc' := 24) (L' := [some (vR (some 32)), some (vI x0), some (vI x1), none]) (st' := [vR (some 32)]) (h' := h) f115_23 rfl ?_
      refine y_gr (pc' := 27) f115_24 yf_7_14 rfl rfl (ys32 w) (yp32_0 w) rfl ?_
      refine y_gr (pc' := 30) f115_27 yf_7_75 rfl rfl (ys33 w) (yp33_0 w) rfl ?_
      refine y_s (pc' := 31) (L' := [some (vR (some 32)), some (vI x0), some (vI x1), none]) (st' := [vI x0, vR (some 34)]) (h' := h) f115_30 rfl ?_
      refine y_ia (pc' := 32) (x := (zV h 34 (x0).toNat)) f115_31 (ys34 w) k.1 rfl rfl ?_
      replace k := k.2
      refine y_sto (pc' := 33) (k := 3) (L' := [some (vR (some 32)), some (vI x0), some (vI x1), some (vI (zV h 34 (x0).toNat))]) f115_32 rfl rfl rfl rfl rfl rfl ?_
      refine y_s (pc' := 34) (L' := [some (vR (some 32)), some (vI x0), some (vI x1), some (vI (zV h 34 (x0).toNat))]) (st' := [vI (zV h 34 (x0).toNat)]) (h' := h) f115_33 rfl ?_
      refine y_s (pc' := 35) (L' := [some (vR (some 32)), some (vI x0), some (vI x1), some (vI (zV h 34 (x0).toNat))]) (st' := [vI x1, vI (zV h 34 (x0).toNat)]) (h' := h) f115_34 rfl ?_
      refine y_cI (pc' := 38) (as := [vI (zV h 34 (x0).toNat), vI x1]) (r := []) f115_35 rfl (by omega) rfl ?_
      exact k
    · replace k := k.2 c
      refine y_iff (pcT := 23) (pc' := 20) f115_17 rfl rfl rfl ?_
      refine y_s (pc' := 22) (L' := [some (vR (some 32)), some (vI x0), some (vI x1), none]) (st' := [vI (-11)]) (h' := h) f115_20 rfl ?_
      exact y_ri f115_22 ⟨rfl, k⟩
  · replace k := k.2 c
    refine y_iff (pcT := 12) (pc' := 9) f115_6 rfl rfl rfl ?_
    refine y_s (pc' := 11) (L' := [some (vR (some 32)), some (vI x0), some (vI x1), none]) (st' := [vI (-2)]) (h' := h) f115_9 rfl ?_
    exact y_ri f115_11 ⟨rfl, k⟩
theorem W115_38 {d : Nat} {K : Int → Hp → Prop} (w : yWF zl nl h) {l1 : Int} {l2 : Int} {l3 : Int} {s0 : Int} (k : ((s0 = 0 → K (-12) h) ∧ (¬ (s0 = 0) → K l3 h))) : ZW d prog_1_method_36_code 7 38 [some (vR (some 32)), some (vI l1), some (vI l2), some (vI l3)] [vI s0] h (yq 1 (yqI K)) := by
  refine y_if (pcT := 45) (pc' := 41) (P := s0 = 0) f115_38 rfl rfl rfl (fun c => ?_) (fun c => ?_)
  · replace k := k.1 c
    refine y_s (pc' := 47) (L' := [some (vR (some 32)), some (vI l1), some (vI l2), some (vI l3)]) (st' := [vI (-12)]) (h' := h) f115_45 rfl ?_
    exact y_ri f115_47 ⟨rfl, k⟩
  · replace k := k.2 c
    refine y_s (pc' := 42) (L' := [some (vR (some 32)), some (vI l1), some (vI l2), some (vI l3)]) (st' := [vI l3]) (h' := h) f115_41 rfl ?_
    refine y_go (pc' := 47) f115_42 rfl ?_
    exact y_ri f115_47 ⟨rfl, k⟩
/-- HatterTunes.plan(II)I -/
theorem E96 {d : Nat} {K : Int → Hp → Prop} (w : yWF zl nl h) {x0 : Int} {x1 : Int} (hd : 2 ≤ d) (k : ((x0 ≠ (-1) → ((((0 : Int) ≤ x0 ∧ x0 < 4) → ((x0 = 0 → (((0 : Int) ≤ zV h 44 1 ∧ zV h 44 1 ≤ 10) ∧ ((((40 : Int) ≤ 4 * zV h 44 1) → K (-4) h) ∧ (¬ (((40 : Int) ≤ 4 * zV h 44 1)) → yI (d - 1) 41 [vR (some 44), vI x0, vI x1, vI 0, vI 0] h (fun x h' => ZW d prog_1_method_27_code 7 70 [some (vR (some 32)), some (vI x0), some (vI x1)] [vI x] h' (yq 1 (yqI K))))))) ∧ (¬ (x0 = 0) → ((((0 : Int) ≤ x1 ∧ x1 < zV h 33 10) → (((0 : Int) ≤ zV h 44 1 ∧ zV h 44 1 ≤ 10) ∧ ((((40 : Int) ≤ 4 * zV h 44 1) → K (-4) h) ∧ (¬ (((40 : Int) ≤ 4 * zV h 44 1)) → yI (d - 1) 41 [vR (some 44), vI x0, vI x1, vI 0, vI 0] h (fun x h' => ZW d prog_1_method_27_code 7 70 [some (vR (some 32)), some (vI x0), some (vI x1)] [vI x] h' (yq 1 (yqI K))))))) ∧ (¬ (((0 : Int) ≤ x1 ∧ x1 < zV h 33 10)) → K (-1) h))))) ∧ (¬ (((0 : Int) ≤ x0 ∧ x0 < 4)) → K (-1) h))) ∧ (¬ (x0 ≠ (-1)) → K 0 (zsetV h 44 1 0)))) : yI d 96 [vR (some 32), vI x0, vI x1] h K := by
  refine y_en (L := [some (vR (some 32)), some (vI x0), some (vI x1)]) rfl rfl ?_
  refine y_s (pc' := 1) (L' := [some (vR (some 32)), some (vI x0), some (vI x1)]) (st' := [vI x0]) (h' := h) f96_0 rfl ?_
  refine y_s (pc' := 2) (L' := [some (vR (some 32)), some (vI x0), some (vI x1)]) (st' := [vI (-1), vI x0]) (h' := h) f96_1 rfl ?_
  refine y_ic (pcT := 16) (pc' := 5) (P := x0 ≠ (-1)) f96_2 rfl rfl rfl (fun c => ?_) (fun c => ?_)
  · replace k := k.1 c
    refine y_s (pc' := 17) (L' := [some (vR (some 32)), some (vI x0), some (vI x1)]) (st' := [vI x0]) (h' := h) f96_16 rfl ?_
    refine y_s (pc' := 18) (L' := [some (vR (some 32)), some (vI x0), some (vI x1)]) (st' := [vI 4, vI x0]) (h' := h) f96_17 rfl ?_
    refine y_cI (pc' := 21) (as := [vI x0, vI 4]) (r := []) f96_18 rfl (by omega) rfl ?_
    refine sp10 w (fun c => ?_) (fun c => ?_)
    · replace k := k.1 c
      refine y_iff (pcT := 36) (pc' := 24) f96_21 rfl rfl rfl ?_
      refine y_s (pc' := 25) (L' := [some (vR (some 32)), some (vI x0), some (vI x1)]) (st' := [vI x0]) (h' := h) f96_24 rfl ?_
      refine y_if (pcT := 38) (pc' := 28) (P := x0 = 0) f96_25 rfl rfl rfl (fun c => ?_) (fun c => ?_)
      · replace k := k.1 c
        refine y_s (pc' := 39) (L' := [some (vR (some 32)), some (vI x0), some (vI x1)]) (st' := [vR (some 32)]) (h' := h) f96_38 rfl ?_
        refine y_gr (pc' := 42) f96_39 yf_7_14 rfl rfl (ys32 w) (yp32_0 w) rfl ?_
        refine y_gr (pc' := 45) f96_42 yf_7_218 rfl rfl (ys33 w) (yp33_8 w) rfl ?_
        refine y_cI (pc' := 48) (as := [vR (some 44)]) (r := []) f96_45 (yzv ym_7_141 rfl (ys44 w) rfl rfl) (by omega) rfl ?_
        have p0 := k.1
        replace k := k.2
        refine sp40 w (yR11 (a := 33) (Or.inl rfl)) p0 (fun c => ?_) (fun c => ?_)
        · replace k := k.1 c
          refine y_iff (pcT := 56) (pc' := 51) f96_48 rfl rfl rfl ?_
          refine y_s (pc' := 53) (L' := [some (vR (some 32)), some (vI x0), some (vI x1)]) (st' := [vI (-4)]) (h' := h) f96_51 rfl ?_
          refine y_go (pc' := 70) f96_53 rfl ?_
          exact y_ri f96_70 ⟨rfl, k⟩
        · replace k := k.2 c
          refine y_ift (pcT := 56) f96_48 rfl rfl ?_
          refine y_s (pc' := 57) (L' := [some (vR (some 32)), some (vI x0), some (vI x1)]) (st' := [vR (some 32)]) (h' := h) f96_56 rfl ?_
          refine y_gr (pc' := 60) f96_57 yf_7_14 rfl rfl (ys32 w) (yp32_0 w) rfl ?_
          refine y_gr (pc' := 63) f96_60 yf_7_218 rfl rfl (ys33 w) (yp33_8 w) rfl ?_
          refine y_s (pc' := 64) (L' := [some (vR (some 32)), some (vI x0), some (vI x1)]) (st' := [vI x0, vR (some 44)]) (h' := h) f96_63 rfl ?_
          refine y_s (pc' := 65) (L' := [some (vR (some 32)), some (vI x0), some (vI x1)]) (st' := [vI x1, vI x0, vR (some 44)]) (h' := h) f96_64 rfl ?_
          refine y_s (pc' := 66) (L' := [some (vR (some 32)), some (vI x0), some (vI x1)]) (st' := [vI 0, vI x1, vI x0, vR (some 44)]) (h' := h) f96_65 rfl ?_
          refine y_s (pc' := 67) (L' := [some (vR (some 32)), some (vI x0), some (vI x1)]) (st' := [vI 0, vI 0, vI x1, vI x0, vR (some 44)]) (h' := h) f96_66 rfl ?_
          refine y_cI (pc' := 70) (as := [vR (some 44), vI x0, vI x1, vI 0, vI 0]) (r := []) f96_67 (yzv ym_7_145 rfl (ys44 w) rfl rfl) (by omega) rfl ?_
          exact k
      · replace k := k.2 c
        refine y_s (pc' := 29) (L' := [some (vR (some 32)), some (vI x0), some (vI x1)]) (st' := [vR (some 32)]) (h' := h) f96_28 rfl ?_
        refine y_s (pc' := 30) (L' := [some (vR (some 32)), some (vI x0), some (vI x1)]) (st' := [vI x1, vR (some 32)]) (h' := h) f96_29 rfl ?_
        refine y_cI (pc' := 33) (as := [vR (some 32), vI x1]) (r := []) f96_30 (yzv ym_7_71 rfl (ys32 w) rfl rfl) (by omega) rfl ?_
        refine sp15 w (by omega) (fun c => ?_) (fun c => ?_)
        · replace k := k.1 c
          refine y_ift (pcT := 38) f96_33 rfl rfl ?_
          refine y_s (pc' := 39) (L' := [some (vR (some 32)), some (vI x0), some (vI x1)]) (st' := [vR (some 32)]) (h' := h) f96_38 rfl ?_
          refine y_gr (pc' := 42) f96_39 yf_7_14 rfl rfl (ys32 w) (yp32_0 w) rfl ?_
          refine y_gr (pc' := 45) f96_42 yf_7_218 rfl rfl (ys33 w) (yp33_8 w) rfl ?_
          refine y_cI (pc' := 48) (as := [vR (some 44)]) (r := []) f96_45 (yzv ym_7_141 rfl (ys44 w) rfl rfl) (by omega) rfl ?_
          have p0 := k.1
          replace k := k.2
          refine sp40 w (yR11 (a := 33) (Or.inl rfl)) p0 (fun c => ?_) (fun c => ?_)
          · replace k := k.1 c
            refine y_iff (pcT := 56) (pc' := 51) f96_48 rfl rfl rfl ?_
            refine y_s (pc' := 53) (L' := [some (vR (some 32)), some (vI x0), some (vI x1)]) (st' := [vI (-4)]) (h' := h) f96_51 rfl ?_
            refine y_go (pc' := 70) f96_53 rfl ?_
            exact y_ri f96_70 ⟨rfl, k⟩
          · replace k := k.2 c
            refine y_ift (pcT := 56) f96_48 rfl rfl ?_
            refine y_s (pc' := 57) (L' := [some (vR (some 32)), some (vI x0), some (vI x1)]) (st' := [vR (some 32)]) (h' := h) f96_56 rfl ?_
            refine y_gr (pc' := 60) f96_57 yf_7_14 rfl rfl (ys32 w) (yp32_0 w) rfl ?_
            refine y_gr (pc' := 63) f96_60 yf_7_218 rfl rfl (ys33 w) (yp33_8 w) rfl ?_
            refine y_s (pc' := 64) (L' := [some (vR (some 32)), some (vI x0), some (vI x1)]) (st' := [vI x0, vR (some 44)]) (h' := h) f96_63 rfl ?_
            refine y_s (pc' := 65) (L' := [some (vR (some 32)), some (vI x0), some (vI x1)]) (st' := [vI x1, vI x0, vR (some 44)]) (h' := h) f96_64 rfl ?_
            refine y_s (pc' := 66) (L' := [some (vR (some 32)), some (vI x0), some (vI x1)]) (st' := [vI 0, vI x1, vI x0, vR (some 44)]) (h' := h) f96_65 rfl ?_
            refine y_s (pc' := 67) (L' := [some (vR (some 32)), some (vI x0), some (vI x1)]) (st' := [vI 0, vI 0, vI x1, vI x0, vR (some 44)]) (h' := h) f96_66 rfl ?_
            refine y_cI (pc' := 70) (as := [vR (some 44), vI x0, vI x1, vI 0, vI 0]) (r := []) f96_67 (yzv ym_7_145 rfl (ys44 w) rfl rfl) (by omega) rfl ?_
            exact k
        · replace k := k.2 c
          refine y_iff (pcT := 38) (pc' := 36) f96_33 rfl rfl rfl ?_
          refine y_s (pc' := 37) (L' := [some (vR (some 32)), some (vI x0), some (vI x1)]) (st' := [vI (-1)]) (h' := h) f96_36 rfl ?_
          exact y_ri f96_37 ⟨rfl, k⟩
    · replace k := k.2 c
      refine y_ift (pcT := 36) f96_21 rfl rfl ?_
      refine y_s (pc' := 37) (L' := [some (vR (some 32)), some (vI x0), some (vI x1)]) (st' := [vI (-1)]) (h' := h) f96_36 rfl ?_
      exact y_ri f96_37 ⟨rfl, k⟩
  · replace k := k.2 c
    refine y_s (pc' := 6) (L' := [some (vR (some 32)), some (vI x0), some (vI x1)]) (st' := [vR (some 32)]) (h' := h) f96_5 rfl ?_
    refine y_gr (pc' := 9) f96_6 yf_7_14 rfl rfl (ys32 w) (yp32_0 w) rfl ?_
    refine y_gr (pc' := 12) f96_9 yf_7_218 rfl rfl (ys33 w) (yp33_8 w) rfl ?_
    refine y_cI (pc' := 15) (as := [vR (some 44)]) (r := []) f96_12 (yzv ym_7_135 rfl (ys44 w) rfl rfl) (by omega) rfl ?_
    refine sp39 w (yR11 (a := 33) (Or.inl rfl)) ?_
    exact y_ri f96_15 ⟨rfl, k⟩
theorem W96_70 {d : Nat} {K : Int → Hp → Prop} (w : yWF zl nl h) {l1 : Int} {l2 : Int} {s0 : Int} (k : K s0 h) : ZW d prog_1_method_27_code 7 70 [some (vR (some 32)), some (vI l1), some (vI l2)] [vI s0] h (yq 1 (yqI K)) := by
  exact y_ri f96_70 ⟨rfl, k⟩
/-- HatterTunes.book(II)I -/
theorem E100 {d : Nat} {K : Int → Hp → Prop} (w : yWF zl nl h) {x0 : Int} {x1 : Int} (hd : 2 ≤ d) (k : ((x0 ≠ (-1) → ((((0 : Int) ≤ x0 ∧ x0 < zV h 33 10) → ((((0 : Int) ≤ x1 ∧ x1 < 10000) → (((0 : Int) ≤ zV h 46 1 ∧ zV h 46 1 ≤ 10) ∧ ((((32 : Int) ≤ 4 * zV h 46 1) → K (-4) h) ∧ (¬ (((32 : Int) ≤ 4 * zV h 46 1)) → yI (d - 1) 41 [vR (some 46), vI x0, vI x1, vI 0, vI 0] h (fun x h' => ZW d prog_1_method_29_code 7 71 [some (vR (some 32)), some (vI x0), some (vI x1)] [vI x] h' (yq 1 (yqI K))))))) ∧ (¬ (((0 : Int) ≤ x1 ∧ x1 < 10000)) → K (-2) h))) ∧ (¬ (((0 : Int) ≤ x0 ∧ x0 < zV h 33 10)) → K (-1) h))) ∧ (¬ (x0 ≠ (-1)) → K 0 (zsetV h 46 1 0)))) : yI d 100 [vR (some 32), vI x0, vI x1] h K := by
  refine y_en (L := [some (vR (some 32)), some (vI x0), some (vI x1)]) rfl rfl ?_
  refine y_s (pc' := 1) (L' := [some (vR (some 32)), some (vI x0), some (vI x1)]) (st' := [vI x0]) (h' := h) f100_0 rfl ?_
  refine y_s (pc' := 2) (L' := [some (vR (some 32)), some (vI x0), some (vI x1)]) (st' := [vI (-1), vI x0]) (h' := h) f100_1 rfl ?_
  refine y_ic (pcT := 16) (pc' := 5) (P := x0 ≠ (-1)) f100_2 rfl rfl rfl (fun c => ?_) (fun c => ?_)
  · replace k := k.1 c
    refine y_s (pc' := 17) (L' := [some (vR (some 32)), some (vI x0), some (vI x1)]) (st' := [vR (some 32)]) (h' := h) f100_16 rfl ?_
    refine y_s (pc' := 18) (L' := [some (vR (some 32)), some (vI x0), some (vI x1)]) (st' := [vI x0, vR (some 32)]) (h' := h) f100_17 rfl ?_
    refine y_cI (pc' := 21) (as := [vR (some 32), vI x0]) (r := []) f100_18 (yzv ym_7_71 rfl (ys32 w) rfl rfl) (by omega) rfl ?_
    refine sp15 w (by omega) (fun c => ?_) (fun c => ?_)
    · replace k := k.1 c
      refine y_ift (pcT := 26) f100_21 rfl rfl ?_
      refine y_s (pc' := 27) (L' := [some (vR (some 32)), some (vI x0), some (vI x1)]) (st' := [vI x1]) (h' := h) f100_26 rfl ?_
      refine y_s (pc' := 30) (L' := [some (vR (some 32)), some (vI x0), some (vI x1)]) (st' := [vI 10000, vI x1]) (h' := h) f100_27 rfl ?_
      refine y_cI (pc' := 33) (as := [vI x1, vI 10000]) (r := []) f100_30 rfl (by omega) rfl ?_
      refine sp10 w (fun c => ?_) (fun c => ?_)
      · replace k := k.1 c
        refine y_ift (pcT := 39) f100_33 rfl rfl ?_
        refine y_s (pc' := 40) (L' := [some (vR (some 32)), some (vI x0), some (vI x1)]) (st' := [vR (some 32)]) (h' := h) f100_39 rfl ?_
        refine y_gr (pc' := 43) f100_40 yf_7_14 rfl rfl (ys32 w) (yp32_0 w) rfl ?_
        refine y_gr (pc' := 46) f100_43 yf_7_224 rfl rfl (ys33 w) (yp33_9 w) rfl ?_
        refine y_cI (pc' := 49) (as := [vR (some 46)]) (r := []) f100_46 (yzv ym_7_141 rfl (ys46 w) rfl rfl) (by omega) rfl ?_
        have p0 := k.1
        replace k := k.2
        refine sp40 w (yR13 (a := 33) (Or.inl rfl)) p0 (fun c => ?_) (fun c => ?_)
        · replace k := k.1 c
          refine y_iff (pcT := 57) (pc' := 52) f100_49 rfl rfl rfl ?_
          refine y_s (pc' := 54) (L' := [some (vR (some 32)), some (vI x0), some (vI x1)]) (st' := [vI (-4)]) (h' := h) f100_52 rfl ?_
          refine y_go (pc' := 71) f100_54 rfl ?_
          exact y_ri f100_71 ⟨rfl, k⟩
        · replace k := k.2 c
          refine y_ift (pcT := 57) f100_49 rfl rfl ?_
          refine y_s (pc' := 58) (L' := [some (vR (some 32)), some (vI x0), some (vI x1)]) (st' := [vR (some 32)]) (h' := h) f100_57 rfl ?_
          refine y_gr (pc' := 61) f100_58 yf_7_14 rfl rfl (ys32 w) (yp32_0 w) rfl ?_
          refine y_gr (pc' := 64) f100_61 yf_7_224 rfl rfl (ys33 w) (yp33_9 w) rfl ?_
          refine y_s (pc' := 65) (L' := [some (vR (some 32)), some (vI x0), some (vI x1)]) (st' := [vI x0, vR (some 46)]) (h' := h) f100_64 rfl ?_
          refine y_s (pc' := 66) (L' := [some (vR (some 32)), some (vI x0), some (vI x1)]) (st' := [vI x1, vI x0, vR (some 46)]) (h' := h) f100_65 rfl ?_
          refine y_s (pc' := 67) (L' := [some (vR (some 32)), some (vI x0), some (vI x1)]) (st' := [vI 0, vI x1, vI x0, vR (some 46)]) (h' := h) f100_66 rfl ?_
          refine y_s (pc' := 68) (L' := [some (vR (some 32)), some (vI x0), some (vI x1)]) (st' := [vI 0, vI 0, vI x1, vI x0, vR (some 46)]) (h' := h) f100_67 rfl ?_
          refine y_cI (pc' := 71) (as := [vR (some 46), vI x0, vI x1, vI 0, vI 0]) (r := []) f100_68 (yzv ym_7_145 rfl (ys46 w) rfl rfl) (by omega) rfl ?_
          exact k
      · replace k := k.2 c
        refine y_iff (pcT := 39) (pc' := 36) f100_33 rfl rfl rfl ?_
        refine y_s (pc' := 38) (L' := [some (vR (some 32)), some (vI x0), some (vI x1)]) (st' := [vI (-2)]) (h' := h) f100_36 rfl ?_
        exact y_ri f100_38 ⟨rfl, k⟩
    · replace k := k.2 c
      refine y_iff (pcT := 26) (pc' := 24) f100_21 rfl rfl rfl ?_
      refine y_s (pc' := 25) (L' := [some (vR (some 32)), some (vI x0), some (vI x1)]) (st' := [vI (-1)]) (h' := h) f100_24 rfl ?_
      exact y_ri f100_25 ⟨rfl, k⟩
  · replace k := k.2 c
    refine y_s (pc' := 6) (L' := [some (vR (some 32)), some (vI x0), some (vI x1)]) (st' := [vR (some 32)]) (h' := h) f100_5 rfl ?_
    refine y_gr (pc' := 9) f100_6 yf_7_14 rfl rfl (ys32 w) (yp32_0 w) rfl ?_
    refine y_gr (pc' := 12) f100_9 yf_7_224 rfl rfl (ys33 w) (yp33_9 w) rfl ?_
    refine y_cI (pc' := 15) (as := [vR (some 46)]) (r := []) f100_12 (yzv ym_7_135 rfl (ys46 w) rfl rfl) (by omega) rfl ?_
    refine sp39 w (yR13 (a := 33) (Or.inl rfl)) ?_
    exact y_ri f100_15 ⟨rfl, k⟩
theorem W100_71 {d : Nat} {K : Int → Hp → Prop} (w : yWF zl nl h) {l1 : Int} {l2 : Int} {s0 : Int} (k : K s0 h) : ZW d prog_1_method_29_code 7 71 [some (vR (some 32)), some (vI l1), some (vI l2)] [vI s0] h (yq 1 (yqI K)) := by
  exact y_ri f100_71 ⟨rfl, k⟩
/-- HatterTunes.looked()I -/
theorem E101 {d : Nat} {K : Int → Hp → Prop} (w : yWF zl nl h) (k : ZW d prog_1_method_30_code 7 2 [some (vR (some 32)), some (vI 0), none] [] h (yq 1 (yqI K))) : yI d 101 [vR (some 32)] h K := by
  refine y_en (L := [some (vR (some 32)), none, none]) rfl rfl ?_
  refine y_s (pc' := 1) (L' := [some (vR (some 32)), none, none]) (st' := [vI 0]) (h' := h) f101_0 rfl ?_
  refine y_sto (pc' := 2) (k := 1) (L' := [some (vR (some 32)), some (vI 0), none]) f101_1 rfl rfl rfl rfl rfl rfl ?_
  exact k
theorem W101_2 {d : Nat} {K : Int → Hp → Prop} (w : yWF zl nl h) {l1 : Int} {l2 : Option Int} (hd : 2 ≤ d) (k : (((zV h 46 1) ≤ l1 → K (-5) h) ∧ (¬ ((zV h 46 1) ≤ l1) → (((0 : Int) ≤ l1 ∧ (0 : Int) ≤ 0 ∧ 4 * l1 + 0 < (32 : Int)) ∧ ((((0 : Int) ≤ (zV h (46 + 1) (4 * l1 + 0).toNat) ∧ (zV h (46 + 1) (4 * l1 + 0).toNat) < zV h 33 10) → ((0 ≤ (zV h (46 + 1) (4 * l1 + 0).toNat) ∧ (zV h (46 + 1) (4 * l1 + 0).toNat) < 6) ∧ (((0 : Int) ≤ l1 ∧ (0 : Int) ≤ 1 ∧ 4 * l1 + 1 < (32 : Int)) ∧ (((zV h 36 ((zV h (46 + 1) (4 * l1 + 0).toNat)).toNat) = (zV h (46 + 1) (4 * l1 + 1).toNat) → ZW d prog_1_method_30_code 7 2 [some (vR (some 32)), some (vI (zw (l1 + 1))), some (vI (zV h (46 + 1) (4 * l1 + 0).toNat))] [] h (yq 1 (yqI K))) ∧ (¬ ((zV h 36 ((zV h (46 + 1) (4 * l1 + 0).toNat)).toNat) = (zV h (46 + 1) (4 * l1 + 1).toNat)) → K l1 h))))) ∧ (¬ (((0 : Int) ≤ (zV h (46 + 1) (4 * l1 + 0).toNat) ∧ (zV h (46 + 1) (4 * l1 + 0).toNat) < zV h 33 10)) → K l1 h)))))) : ZW d prog_1_method_30_code 7 2 [some (vR (some 32)), some (vI l1), yo l2] [] h (yq 1 (yqI K)) := by
  refine y_s (pc' := 3) (L' := [some (vR (some 32)), some (vI l1), yo l2]) (st' := [vI l1]) (h' := h) f101_2 rfl ?_
  refine y_s (pc' := 4) (L' := [some (vR (some 32)), some (vI l1), yo l2]) (st' := [vR (some 32), vI l1]) (h' := h) f101_3 rfl ?_
  refine y_gr (pc' := 7) f101_4 yf_7_14 rfl rfl (ys32 w) (yp32_0 w) rfl ?_
  refine y_gr (pc' := 10) f101_7 yf_7_224 rfl rfl (ys33 w) (yp33_9 w) rfl ?_
  refine y_gi (pc' := 13) f101_10 yf_7_178 rfl rfl (ys46 w) rfl ?_
  refine y_ic (pcT := 69) (pc' := 16) (P := (zV h 46 1) ≤ l1) f101_13 rfl rfl rfl (fun c => ?_) (fun c => ?_)
  · replace k := k.1 c
    refine y_s (pc' := 71) (L' := [some (vR (some 32)), some (vI l1), yo l2]) (st' := [vI (-5)]) (h' := h) f101_69 rfl ?_
    exact y_ri f101_71 ⟨rfl, k⟩
  · replace k := k.2 c
    refine y_s (pc' := 17) (L' := [some (vR (some 32)), some (vI l1), yo l2]) (st' := [vR (some 32)]) (h' := h) f101_16 rfl ?_
    refine y_gr (pc' := 20) f101_17 yf_7_14 rfl rfl (ys32 w) (yp32_0 w) rfl ?_
    refine y_gr (pc' := 23) f101_20 yf_7_224 rfl rfl (ys33 w) (yp33_9 w) rfl ?_
    refine y_s (pc' := 24) (L' := [some (vR (some 32)), some (vI l1), yo l2]) (st' := [vI l1, vR (some 46)]) (h' := h) f101_23 rfl ?_
    refine y_s (pc' := 25) (L' := [some (vR (some 32)), some (vI l1), yo l2]) (st' := [vI 0, vI l1, vR (some 46)]) (h' := h) f101_24 rfl ?_
    refine y_cI (pc' := 28) (as := [vR (some 46), vI l1, vI 0]) (r := []) f101_25 (yzv ym_7_179 rfl (ys46 w) rfl rfl) (by omega) rfl ?_
    have p0 := k.1
    replace k := k.2
    refine sp26 w (yR13 (a := 33) (Or.inl rfl)) p0 ?_
    refine y_sto (pc' := 29) (k := 2) (L' := [some (vR (some 32)), some (vI l1), some (vI (zV h (46 + 1) (4 * l1 + 0).toNat))]) f101_28 rfl rfl rfl rfl rfl rfl ?_
    refine y_s (pc' := 30) (L' := [some (vR (some 32)), some (vI l1), some (vI (zV h (46 + 1) (4 * l1 + 0).toNat))]) (st' := [vR (some 32)]) (h' := h) f101_29 rfl ?_
    refine y_s (pc' := 31) (L' := [some (vR (some 32)), some (vI l1), some (vI (zV h (46 + 1) (4 * l1 + 0).toNat))]) (st' := [vI (zV h (46 + 1) (4 * l1 + 0).toNat), vR (some 32)]) (h' := h) f101_30 rfl ?_
    refine y_cI (pc' := 34) (as := [vR (some 32), vI (zV h (46 + 1) (4 * l1 + 0).toNat)]) (r := []) f101_31 (yzv ym_7_71 rfl (ys32 w) rfl rfl) (by omega) rfl ?_
    refine sp15 w (by omega) (fun c => ?_) (fun c => ?_)
    · replace k := k.1 c
      refine y_iff (pcT := 61) (pc' := 37) f101_34 rfl rfl rfl ?_
      refine y_s (pc' := 38) (L' := [some (vR (some 32)), some (vI l1), some (vI (zV h (46 + 1) (4 * l1 + 0).toNat))]) (st' := [vR (some 32)]) (h' := h) f101_37 rfl ?_
      refine y_gr (pc' := 41) f101_38 yf_7_14 rfl rfl (ys32 w) (yp32_0 w) rfl ?_
      refine y_gr (pc' := 44) f101_41 yf_7_82 rfl rfl (ys33 w) (yp33_2 w) rfl ?_
      refine y_s (pc' := 45) (L' := [some (vR (some 32)), some (vI l1), some (vI (zV h (46 + 1) (4 * l1 + 0).toNat))]) (st' := [vI (zV h (46 + 1) (4 * l1 + 0).toNat), vR (some 36)]) (h' := h) f101_44 rfl ?_
      refine y_ia (pc' := 46) (x := (zV h 36 ((zV h (46 + 1) (4 * l1 + 0).toNat)).toNat)) f101_45 (ys36 w) k.1 rfl rfl ?_
      replace k := k.2
      refine y_s (pc' := 47) (L' := [some (vR (some 32)), some (vI l1), some (vI (zV h (46 + 1) (4 * l1 + 0).toNat))]) (st' := [vR (some 32), vI (zV h 36 ((zV h (46 + 1) (4 * l1 + 0).toNat)).toNat)]) (h' := h) f101_46 rfl ?_
      refine y_gr (pc' := 50) f101_47 yf_7_14 rfl rfl (ys32 w) (yp32_0 w) rfl ?_
      refine y_gr (pc' := 53) f101_50 yf_7_224 rfl rfl (ys33 w) (yp33_9 w) rfl ?_
      refine y_s (pc' := 54) (L' := [some (vR (some 32)), some (vI l1), some (vI (zV h (46 + 1) (4 * l1 + 0).toNat))]) (st' := [vI l1, vR (some 46), vI (zV h 36 ((zV h (46 + 1) (4 * l1 + 0).toNat)).toNat)]) (h' := h) f101_53 rfl ?_
      refine y_s (pc' := 55) (L' := [some (vR (some 32)), some (vI l1), some (vI (zV h (46 + 1) (4 * l1 + 0).toNat))]) (st' := [vI 1, vI l1, vR (some 46), vI (zV h 36 ((zV h (46 + 1) (4 * l1 + 0).toNat)).toNat)]) (h' := h) f101_54 rfl ?_
      refine y_cI (pc' := 58) (as := [vR (some 46), vI l1, vI 1]) (r := [vI (zV h 36 ((zV h (46 + 1) (4 * l1 + 0).toNat)).toNat)]) f101_55 (yzv ym_7_179 rfl (ys46 w) rfl rfl) (by omega) rfl ?_
      have p0 := k.1
      replace k := k.2
      refine sp26 w (yR13 (a := 33) (Or.inl rfl)) p0 ?_
      refine y_ic (pcT := 63) (pc' := 61) (P := (zV h 36 ((zV h (46 + 1) (4 * l1 + 0).toNat)).toNat) = (zV h (46 + 1) (4 * l1 + 1).toNat)) f101_58 rfl rfl rfl (fun c => ?_) (fun c => ?_)
      · replace k := k.1 c
        refine y_inc (pc' := 66) (L' := [some (vR (some 32)), some (vI (zw (l1 + 1))), some (vI (zV h (46 + 1) (4 * l1 + 0).toNat))]) f101_63 rfl rfl rfl rfl ?_
        refine y_go (pc' := 2) f101_66 rfl ?_
        exact k
      · replace k := k.2 c
        refine y_s (pc' := 62) (L' := [some (vR (some 32)), some (vI l1), some (vI (zV h (46 + 1) (4 * l1 + 0).toNat))]) (st' := [vI l1]) (h' := h) f101_61 rfl ?_
        exact y_ri f101_62 ⟨rfl, k⟩
    · replace k := k.2 c
      refine y_ift (pcT := 61) f101_34 rfl rfl ?_
      refine y_s (pc' := 62) (L' := [some (vR (some 32)), some (vI l1), some (vI (zV h (46 + 1) (4 * l1 + 0).toNat))]) (st' := [vI l1]) (h' := h) f101_61 rfl ?_
      exact y_ri f101_62 ⟨rfl, k⟩
/-- HatterTunes.judge(II)I -/
theorem E102 {d : Nat} {K : Int → Hp → Prop} (w : yWF zl nl h) {x0 : Int} {x1 : Int} (hd : 2 ≤ d) (k : ((((0 : Int) ≤ x0 ∧ x0 < 6) → ((0 ≤ x0 ∧ x0 < 6) ∧ (((zV h ((125 + 2 * (x0).toNat)) 1 ≠ -1) → (((zV h ((125 + 2 * (x0).toNat)) 1) = 0 → (((zV h 40 1) ≠ 0 → ((((0 : Int) ≤ x1 ∧ x1 < zV h ((125 + 2 * (x0).toNat)) 2) → ZW d prog_1_method_31_code 7 82 [some (vR (some 32)), some (vI x0), some (vI x1), some (vR (some ((125 + 2 * (x0).toNat)))), some (vI (zV h 40 1)), some (vI (ymin (zV h 40 1) (zw ((zV h ((125 + 2 * (x0).toNat)) 2) - x1)))), some (vI 0)] [] h (yq 1 (yqI K))) ∧ (¬ (((0 : Int) ≤ x1 ∧ x1 < zV h ((125 + 2 * (x0).toNat)) 2)) → K 100 h))) ∧ (¬ ((zV h 40 1) ≠ 0) → K (-5) h))) ∧ (¬ ((zV h ((125 + 2 * (x0).toNat)) 1) = 0) → K (-12) h))) ∧ (¬ ((zV h ((125 + 2 * (x0).toNat)) 1 ≠ -1)) → (((zV h 40 1) ≠ 0 → ((((0 : Int) ≤ x1 ∧ x1 < zV h ((125 + 2 * (x0).toNat)) 2) → ZW d prog_1_method_31_code 7 82 [some (vR (some 32)), some (vI x0), some (vI x1), some (vR (some ((125 + 2 * (x0).toNat)))), some (vI (zV h 40 1)), some (vI (ymin (zV h 40 1) (zw ((zV h ((125 + 2 * (x0).toNat)) 2) - x1)))), some (vI 0)] [] h (yq 1 (yqI K))) ∧ (¬ (((0 : Int) ≤ x1 ∧ x1 < zV h ((125 + 2 * (x0).toNat)) 2)) → K 100 h))) ∧ (¬ ((zV h 40 1) ≠ 0) → K (-5) h)))))) ∧ (¬ (((0 : Int) ≤ x0 ∧ x0 < 6)) → K (-1) h))) : yI d 102 [vR (some 32), vI x0, vI x1] h K := by
  refine y_en (L := [some (vR (some 32)), some (vI x0), some (vI x1), none, none, none, none]) rfl rfl ?_
  refine y_s (pc' := 1) (L' := [some (vR (some 32)), some (vI x0), some (vI x1), none, none, none, none]) (st' := [vI x0]) (h' := h) f102_0 rfl ?_
  refine y_s (pc' := 3) (L' := [some (vR (some 32)), some (vI x0), some (vI x1), none, none, none, none]) (st' := [vI 6, vI x0]) (h' := h) f102_1 rfl ?_
  refine y_cI (pc' := 6) (as := [vI x0, vI 6]) (r := []) f102_3 rfl (by omega) rfl ?_
  refine sp10 w (fun c => ?_) (fun c => ?_)
  · replace k := k.1 c
    refine y_ift (pcT := 11) f102_6 rfl rfl ?_
    refine y_s (pc' := 12) (L' := [some (vR (some 32)), some (vI x0), some (vI x1), none, none, none, none]) (st' := [vR (some 32)]) (h' := h) f102_11 rfl ?_
    refine y_gr (pc' := 15) f102_12 yf_7_39 rfl rfl (ys32 w) (yp32_7 w) rfl ?_
    refine y_s (pc' := 16) (L' := [some (vR (some 32)), some (vI x0), some (vI x1), none, none, none, none]) (st' := [vI x0, vR (some 93)]) (h' := h) f102_15 rfl ?_
    have ci_16 := k.1
    replace k := k.2
    refine y_aa (pc' := 17) f102_16 (by decide) (ys93 w) ci_16 (yp93 w ci_16) rfl ?_
    refine y_sto (pc' := 18) (k := 3) (L' := [some (vR (some 32)), some (vI x0), some (vI x1), some (vR (some ((125 + 2 * (x0).toNat)))), none, none, none]) f102_17 rfl rfl rfl rfl rfl rfl ?_
    refine y_s (pc' := 19) (L' := [some (vR (some 32)), some (vI x0), some (vI x1), some (vR (some ((125 + 2 * (x0).toNat)))), none, none, none]) (st' := [vR (some ((125 + 2 * (x0).toNat)))]) (h' := h) f102_18 rfl ?_
    refine y_cI (pc' := 22) (as := [vR (some ((125 + 2 * (x0).toNat)))]) (r := []) f102_19 (yzv ym_7_227 rfl (ysT0 w (yp93' ci_16)) rfl rfl) (by omega) rfl ?_
    refine sp103 w (yp93' ci_16) (fun c => ?_) (fun c => ?_)
    · replace k := k.1 c
      refine y_iff (pcT := 35) (pc' := 25) f102_22 rfl rfl rfl ?_
      refine y_s (pc' := 26) (L' := [some (vR (some 32)), some (vI x0), some (vI x1), some (vR (some ((125 + 2 * (x0).toNat)))), none, none, none]) (st' := [vR (some ((125 + 2 * (x0).toNat)))]) (h' := h) f102_25 rfl ?_
      refine y_gi (pc' := 29) f102_26 yf_7_230 rfl rfl (ysT0 w (yp93' ci_16)) rfl ?_
      refine y_if (pcT := 35) (pc' := 32) (P := (zV h ((125 + 2 * (x0).toNat)) 1) = 0) f102_29 rfl rfl rfl (fun c => ?_) (fun c => ?_)
      · replace k := k.1 c
        refine y_s (pc' := 36) (L' := [some (vR (some 32)), some (vI x0), some (vI x1), some (vR (some ((125 + 2 * (x0).toNat)))), none, none, none]) (st' := [vR (some 32)]) (h' := h) f102_35 rfl ?_
        refine y_gr (pc' := 39) f102_36 yf_7_14 rfl rfl (ys32 w) (yp32_0 w) rfl ?_
        refine y_gr (pc' := 42) f102_39 yf_7_131 rfl rfl (ys33 w) (yp33_6 w) rfl ?_
        refine y_gi (pc' := 45) f102_42 yf_7_178 rfl rfl (ys40 w) rfl ?_
        refine y_sto (pc' := 47) (k := 4) (L' := [some (vR (some 32)), some (vI x0), some (vI x1), some (vR (some ((125 + 2 * (x0).toNat)))), some (vI (zV h 40 1)), none, none]) f102_45 rfl rfl rfl rfl rfl rfl ?_
        refine y_s (pc' := 49) (L' := [some (vR (some 32)), some (vI x0), some (vI x1), some (vR (some ((125 + 2 * (x0).toNat)))), some (vI (zV h 40 1)), none, none]) (st' := [vI (zV h 40 1)]) (h' := h) f102_47 rfl ?_
        refine y_if (pcT := 55) (pc' := 52) (P := (zV h 40 1) ≠ 0) f102_49 rfl rfl rfl (fun c => ?_) (fun c => ?_)
        · replace k := k.1 c
          refine y_s (pc' := 56) (L' := [some (vR (some 32)), some (vI x0), some (vI x1), some (vR (some ((125 + 2 * (x0).toNat)))), some (vI (zV h 40 1)), none, none]) (st' := [vR (some ((125 + 2 * (x0).toNat)))]) (h' := h) f102_55 rfl ?_
          refine y_s (pc' := 57) (L' := [some (vR (some 32)), some (vI x0), some (vI x1), some (vR (some ((125 + 2 * (x0).toNat)))), some (vI (zV h 40 1)), none, none]) (st' := [vI x1, vR (some ((125 + 2 * (x0).toNat)))]) (h' := h) f102_56 rfl ?_
          refine y_cI (pc' := 60) (as := [vR (some ((125 + 2 * (x0).toNat))), vI x1]) (r := []) f102_57 (yzv ym_7_233 rfl (ysT0 w (yp93' ci_16)) rfl rfl) (by omega) rfl ?_
          refine sp104 w (yp93' ci_16) (by omega) (fun c => ?_) (fun c => ?_)
          · replace k := k.1 c
            refine y_ift (pcT := 66) f102_60 rfl rfl ?_
            refine y_s (pc' := 68) (L' := [some (vR (some 32)), some (vI x0), some (vI x1), some (vR (some ((125 + 2 * (x0).toNat)))), some (vI (zV h 40 1)), none, none]) (st' := [vI (zV h 40 1)]) (h' := h) f102_66 rfl ?_
            refine y_s (pc' := 69) (L' := [some (vR (some 32)), some (vI x0), some (vI x1), some (vR (some ((125 + 2 * (x0).toNat)))), some (vI (zV h 40 1)), none, none]) (st' := [vR (some ((125 + 2 * (x0).toNat))), vI (zV h 40 1)]) (h' := h) f102_68 rfl ?_
            refine y_gi (pc' := 72) f102_69 yf_7_236 rfl rfl (ysT0 w (yp93' ci_16)) rfl ?_
            refine y_s (pc' := 73) (L' := [some (vR (some 32)), some (vI x0), some (vI x1), some (vR (some ((125 + 2 * (x0).toNat)))), some (vI (zV h 40 1)), none, none]) (st' := [vI x1, vI (zV h ((125 + 2 * (x0).toNat)) 2), vI (zV h 40 1)]) (h' := h) f102_72 rfl ?_
            refine y_s (pc' := 74) (L' := [some (vR (some 32)), some (vI x0), some (vI x1), some (vR (some ((125 + 2 * (x0).toNat)))), some (vI (zV h 40 1)), none, none]) (st' := [vI (zw ((zV h ((125 + 2 * (x0).toNat)) 2) - x1)), vI (zV h 40 1)]) (h' := h) f102_73 rfl ?_
            refine y_mn (pc' := 77) f102_74 ym_7_238 (by omega) rfl rfl ?_
            refine y_sto (pc' := 79) (k := 5) (L' := [some (vR (some 32)), some (vI x0), some (vI x1), some (vR (some ((125 + 2 * (x0).toNat)))), some (vI (zV h 40 1)), some (vI (ymin (zV h 40 1) (zw ((zV h ((125 + 2 * (x0).toNat)) 2) - x1)))), none]) f102_77 rfl rfl rfl rfl rfl rfl ?_
            refine y_s (pc' := 80) (L' := [some (vR (some 32)), some (vI x0), some (vI x1), some (vR (some ((125 + 2 * (x0).toNat)))), some (vI (zV h 40 1)), some (vI (ymin (zV h 40 1) (zw ((zV h ((125 + 2 * (x0).toNat)) 2) - x1)))), none]) (st' := [vI 0]) (h' := h) f102_79 rfl ?_
            refine y_sto (pc' := 82) (k := 6) (L' := [some (vR (some 32)), some (vI x0), some (vI x1), some (vR (some ((125 + 2 * (x0).toNat)))), some (vI (zV h 40 1)), some (vI (ymin (zV h 40 1) (zw ((zV h ((125 + 2 * (x0).toNat)) 2) - x1)))), some (vI 0)]) f102_80 rfl rfl rfl rfl rfl rfl ?_
            exact k
          · replace k := k.2 c
            refine y_iff (pcT := 66) (pc' := 63) f102_60 rfl rfl rfl ?_
            refine y_s (pc' := 65) (L' := [some (vR (some 32)), some (vI x0), some (vI x1), some (vR (some ((125 + 2 * (x0).toNat)))), some (vI (zV h 40 1)), none, none]) (st' := [vI 100]) (h' := h) f102_63 rfl ?_
            exact y_ri f102_65 ⟨rfl, k⟩
        · replace k := k.2 c
          refine y_s (pc' := 54) (L' := [some (vR (some 32)), some (vI x0), some (vI x1), some (vR (some ((125 + 2 * (x0).toNat)))), some (vI (zV h 40 1)), none, none]) (st' := [vI (-5)]) (h' := h) f102_52 rfl ?_
          exact y_ri f102_54 ⟨rfl, k⟩
      · replace k := k.2 c
        refine y_s (pc' := 34) (L' := [some (vR (some 32)), some (vI x0), some (vI x1), some (vR (some ((125 + 2 * (x0).toNat)))), none, none, none]) (st' := [vI (-12)]) (h' := h) f102_32 rfl ?_
        exact y_ri f102_34 ⟨rfl, k⟩
    · replace k := k.2 c
      refine y_ift (pcT := 35) f102_22 rfl rfl ?_
      refine y_s (pc' := 36) (L' := [some (vR (some 32)), some (vI x0), some (vI x1), some (vR (some ((125 + 2 * (x0).toNat)))), none, none, none]) (st' := [vR (some 32)]) (h' := h) f102_35 rfl ?_
      refine y_gr (pc' := 39) f102_36 yf_7_14 rfl rfl (ys32 w) (yp32_0 w) rfl ?_
      refine y_gr (pc' := 42) f102_39 yf_7_131 rfl rfl (ys33 w) (yp33_6 w) rfl ?_
      refine y_gi (pc' := 45) f102_42 yf_7_178 rfl rfl (ys40 w) rfl ?_
      refine y_sto (pc' := 47) (k := 4) (L' := [some (vR (some 32)), some (vI x0), some (vI x1), some (vR (some ((125 + 2 * (x0).toNat)))), some (vI (zV h 40 1)), none, none]) f102_45 rfl rfl rfl rfl rfl rfl ?_
      refine y_s (pc' := 49) (L' := [some (vR (some 32)), some (vI x0), some (vI x1), some (vR (some ((125 + 2 * (x0).toNat)))), some (vI (zV h 40 1)), none, none]) (st' := [vI (zV h 40 1)]) (h' := h) f102_47 rfl ?_
      refine y_if (pcT := 55) (pc' := 52) (P := (zV h 40 1) ≠ 0) f102_49 rfl rfl rfl (fun c => ?_) (fun c => ?_)
      · replace k := k.1 c
        refine y_s (pc' := 56) (L' := [some (vR (some 32)), some (vI x0), some (vI x1), some (vR (some ((125 + 2 * (x0).toNat)))), some (vI (zV h 40 1)), none, none]) (st' := [vR (some ((125 + 2 * (x0).toNat)))]) (h' := h) f102_55 rfl ?_
        refine y_s (pc' := 57) (L' := [some (vR (some 32)), some (vI x0), some (vI x1), some (vR (some ((125 + 2 * (x0).toNat)))), some (vI (zV h 40 1)), none, none]) (st' := [vI x1, vR (some ((125 + 2 * (x0).toNat)))]) (h' := h) f102_56 rfl ?_
        refine y_cI (pc' := 60) (as := [vR (some ((125 + 2 * (x0).toNat))), vI x1]) (r := []) f102_57 (yzv ym_7_233 rfl (ysT0 w (yp93' ci_16)) rfl rfl) (by omega) rfl ?_
        refine sp104 w (yp93' ci_16) (by omega) (fun c => ?_) (fun c => ?_)
        · replace k := k.1 c
          refine y_ift (pcT := 66) f102_60 rfl rfl ?_
          refine y_s (pc' := 68) (L' := [some (vR (some 32)), some (vI x0), some (vI x1), some (vR (some ((125 + 2 * (x0).toNat)))), some (vI (zV h 40 1)), none, none]) (st' := [vI (zV h 40 1)]) (h' := h) f102_66 rfl ?_
          refine y_s (pc' := 69) (L' := [some (vR (some 32)), some (vI x0), some (vI x1), some (vR (some ((125 + 2 * (x0).toNat)))), some (vI (zV h 40 1)), none, none]) (st' := [vR (some ((125 + 2 * (x0).toNat))), vI (zV h 40 1)]) (h' := h) f102_68 rfl ?_
          refine y_gi (pc' := 72) f102_69 yf_7_236 rfl rfl (ysT0 w (yp93' ci_16)) rfl ?_
          refine y_s (pc' := 73) (L' := [some (vR (some 32)), some (vI x0), some (vI x1), some (vR (some ((125 + 2 * (x0).toNat)))), some (vI (zV h 40 1)), none, none]) (st' := [vI x1, vI (zV h ((125 + 2 * (x0).toNat)) 2), vI (zV h 40 1)]) (h' := h) f102_72 rfl ?_
          refine y_s (pc' := 74) (L' := [some (vR (some 32)), some (vI x0), some (vI x1), some (vR (some ((125 + 2 * (x0).toNat)))), some (vI (zV h 40 1)), none, none]) (st' := [vI (zw ((zV h ((125 + 2 * (x0).toNat)) 2) - x1)), vI (zV h 40 1)]) (h' := h) f102_73 rfl ?_
          refine y_mn (pc' := 77) f102_74 ym_7_238 (by omega) rfl rfl ?_
          refine y_sto (pc' := 79) (k := 5) (L' := [some (vR (some 32)), some (vI x0), some (vI x1), some (vR (some ((125 + 2 * (x0).toNat)))), some (vI (zV h 40 1)), some (vI (ymin (zV h 40 1) (zw ((zV h ((125 + 2 * (x0).toNat)) 2) - x1)))), none]) f102_77 rfl rfl rfl rfl rfl rfl ?_
          refine y_s (pc' := 80) (L' := [some (vR (some 32)), some (vI x0), some (vI x1), some (vR (some ((125 + 2 * (x0).toNat)))), some (vI (zV h 40 1)), some (vI (ymin (zV h 40 1) (zw ((zV h ((125 + 2 * (x0).toNat)) 2) - x1)))), none]) (st' := [vI 0]) (h' := h) f102_79 rfl ?_
          refine y_sto (pc' := 82) (k := 6) (L' := [some (vR (some 32)), some (vI x0), some (vI x1), some (vR (some ((125 + 2 * (x0).toNat)))), some (vI (zV h 40 1)), some (vI (ymin (zV h 40 1) (zw ((zV h ((125 + 2 * (x0).toNat)) 2) - x1)))), some (vI 0)]) f102_80 rfl rfl rfl rfl rfl rfl ?_
          exact k
        · replace k := k.2 c
          refine y_iff (pcT := 66) (pc' := 63) f102_60 rfl rfl rfl ?_
          refine y_s (pc' := 65) (L' := [some (vR (some 32)), some (vI x0), some (vI x1), some (vR (some ((125 + 2 * (x0).toNat)))), some (vI (zV h 40 1)), none, none]) (st' := [vI 100]) (h' := h) f102_63 rfl ?_
          exact y_ri f102_65 ⟨rfl, k⟩
      · replace k := k.2 c
        refine y_s (pc' := 54) (L' := [some (vR (some 32)), some (vI x0), some (vI x1), some (vR (some ((125 + 2 * (x0).toNat)))), some (vI (zV h 40 1)), none, none]) (st' := [vI (-5)]) (h' := h) f102_52 rfl ?_
        exact y_ri f102_54 ⟨rfl, k⟩
  · replace k := k.2 c
    refine y_iff (pcT := 11) (pc' := 9) f102_6 rfl rfl rfl ?_
    refine y_s (pc' := 10) (L' := [some (vR (some 32)), some (vI x0), some (vI x1), none, none, none, none]) (st' := [vI (-1)]) (h' := h) f102_9 rfl ?_
    exact y_ri f102_10 ⟨rfl, k⟩
theorem W102_82 {d : Nat} {K : Int → Hp → Prop} (w : yWF zl nl h) {l1 : Int} {l2 : Int} {q_l3 : Nat} (hq_l3 : yTp q_l3) {l4 : Int} {l5 : Int} {l6 : Int} (hd : 1 ≤ d) (k : ((l5 ≤ l6 → ((l4 ≤ l5 → K (-5) h) ∧ (¬ (l4 ≤ l5) → K (zw (100 + l5)) h))) ∧ (¬ (l5 ≤ l6) → ((0 ≤ (zw (l2 + l6)) ∧ (zw (l2 + l6)) < 60) ∧ (((0 : Int) ≤ l6 ∧ (0 : Int) ≤ 0 ∧ 4 * l6 + 0 < (32 : Int)) ∧ ((((lg_cmp (zJ h (q_l3 + 1) ((zw (l2 + l6))).toNat) ((zi (zV h (40 + 1) (4 * l6 + 0).toNat)).toInt64)).toInt) = 0 → ZW d prog_1_method_31_code 7 82 [some (vR (some 32)), some (vI l1), some (vI l2), some (vR (some q_l3)), some (vI l4), some (vI l5), some (vI (zw (l6 + 1)))] [] h (yq 1 (yqI K))) ∧ (¬ (((lg_cmp (zJ h (q_l3 + 1) ((zw (l2 + l6))).toNat) ((zi (zV h (40 + 1) (4 * l6 + 0).toNat)).toInt64)).toInt) = 0) → K l6 h))))))) : ZW d prog_1_method_31_code 7 82 [some (vR (some 32)), some (vI l1), some (vI l2), some (vR (some q_l3)), some (vI l4), some (vI l5), some (vI l6)] [] h (yq 1 (yqI K)) := by
  refine y_s (pc' := 84) (L' := [some (vR (some 32)), some (vI l1), some (vI l2), some (vR (some q_l3)), some (vI l4), some (vI l5), some (vI l6)]) (st' := [vI l6]) (h' := h) f102_82 rfl ?_
  refine y_s (pc' := 86) (L' := [some (vR (some 32)), some (vI l1), some (vI l2), some (vR (some q_l3)), some (vI l4), some (vI l5), some (vI l6)]) (st' := [vI l5, vI l6]) (h' := h) f102_84 rfl ?_
  refine y_ic (pcT := 125) (pc' := 89) (P := l5 ≤ l6) f102_86 rfl rfl rfl (fun c => ?_) (fun c => ?_)
  · replace k := k.1 c
    refine y_s (pc' := 127) (L' := [some (vR (some 32)), some (vI l1), some (vI l2), some (vR (some q_l3)), some (vI l4), some (vI l5), some (vI l6)]) (st' := [vI l5]) (h' := h) f102_125 rfl ?_
    refine y_s (pc' := 129) (L' := [some (vR (some 32)), some (vI l1), some (vI l2), some (vR (some q_l3)), some (vI l4), some (vI l5), some (vI l6)]) (st' := [vI l4, vI l5]) (h' := h) f102_127 rfl ?_
    refine y_ic (pcT := 140) (pc' := 132) (P := l4 ≤ l5) f102_129 rfl rfl rfl (fun c => ?_) (fun c => ?_)
    · replace k := k.1 c
      refine y_s (pc' := 142) (L' := [some (vR (some 32)), some (vI l1), some (vI l2), some (vR (some q_l3)), some (vI l4), some (vI l5), some (vI l6)]) (st' := [vI (-5)]) (h' := h) f102_140 rfl ?_
      exact y_ri f102_142 ⟨rfl, k⟩
    · replace k := k.2 c
      refine y_s (pc' := 134) (L' := [some (vR (some 32)), some (vI l1), some (vI l2), some (vR (some q_l3)), some (vI l4), some (vI l5), some (vI l6)]) (st' := [vI 100]) (h' := h) f102_132 rfl ?_
      refine y_s (pc' := 136) (L' := [some (vR (some 32)), some (vI l1), some (vI l2), some (vR (some q_l3)), some (vI l4), some (vI l5), some (vI l6)]) (st' := [vI l5, vI 100]) (h' := h) f102_134 rfl ?_
      refine y_s (pc' := 137) (L' := [some (vR (some 32)), some (vI l1), some (vI l2), some (vR (some q_l3)), some (vI l4), some (vI l5), some (vI l6)]) (st' := [vI (zw (100 + l5))]) (h' := h) f102_136 rfl ?_
      refine y_go (pc' := 142) f102_137 rfl ?_
      exact y_ri f102_142 ⟨rfl, k⟩
  · replace k := k.2 c
    refine y_s (pc' := 90) (L' := [some (vR (some 32)), some (vI l1), some (vI l2), some (vR (some q_l3)), some (vI l4), some (vI l5), some (vI l6)]) (st' := [vR (some q_l3)]) (h' := h) f102_89 rfl ?_
    refine y_gr (pc' := 93) f102_90 yf_7_243 rfl rfl (ysT0 w hq_l3) (ypT0 w hq_l3) rfl ?_
    refine y_s (pc' := 94) (L' := [some (vR (some 32)), some (vI l1), some (vI l2), some (vR (some q_l3)), some (vI l4), some (vI l5), some (vI l6)]) (st' := [vI l2, vR (some (q_l3 + 1))]) (h' := h) f102_93 rfl ?_
    refine y_s (pc' := 96) (L' := [some (vR (some 32)), some (vI l1), some (vI l2), some (vR (some q_l3)), some (vI l4), some (vI l5), some (vI l6)]) (st' := [vI l6, vI l2, vR (some (q_l3 + 1))]) (h' := h) f102_94 rfl ?_
    refine y_s (pc' := 97) (L' := [some (vR (some 32)), some (vI l1), some (vI l2), some (vR (some q_l3)), some (vI l4), some (vI l5), some (vI l6)]) (st' := [vI (zw (l2 + l6)), vR (some (q_l3 + 1))]) (h' := h) f102_96 rfl ?_
    refine y_ja (pc' := 98) (x := (zJ h (q_l3 + 1) ((zw (l2 + l6))).toNat)) f102_97 (ysT1 w hq_l3) k.1 rfl rfl ?_
    replace k := k.2
    refine y_s (pc' := 99) (L' := [some (vR (some 32)), some (vI l1), some (vI l2), some (vR (some q_l3)), some (vI l4), some (vI l5), some (vI l6)]) (st' := [vR (some 32), vJ (zJ h (q_l3 + 1) ((zw (l2 + l6))).toNat)]) (h' := h) f102_98 rfl ?_
    refine y_gr (pc' := 102) f102_99 yf_7_14 rfl rfl (ys32 w) (yp32_0 w) rfl ?_
    refine y_gr (pc' := 105) f102_102 yf_7_131 rfl rfl (ys33 w) (yp33_6 w) rfl ?_
    refine y_s (pc' := 107) (L' := [some (vR (some 32)), some (vI l1), some (vI l2), some (vR (some q_l3)), some (vI l4), some (vI l5), some (vI l6)]) (st' := [vI l6, vR (some 40), vJ (zJ h (q_l3 + 1) ((zw (l2 + l6))).toNat)]) (h' := h) f102_105 rfl ?_
    refine y_s (pc' := 108) (L' := [some (vR (some 32)), some (vI l1), some (vI l2), some (vR (some q_l3)), some (vI l4), some (vI l5), some (vI l6)]) (st' := [vI 0, vI l6, vR (some 40), vJ (zJ h (q_l3 + 1) ((zw (l2 + l6))).toNat)]) (h' := h) f102_107 rfl ?_
    refine y_cI (pc' := 111) (as := [vR (some 40), vI l6, vI 0]) (r := [vJ (zJ h (q_l3 + 1) ((zw (l2 + l6))).toNat)]) f102_108 (yzv ym_7_179 rfl (ys40 w) rfl rfl) (by omega) rfl ?_
    have p0 := k.1
    replace k := k.2
    refine sp26 w (yR7 (a := 33) (Or.inl rfl)) p0 ?_
    refine y_s (pc' := 112) (L' := [some (vR (some 32)), some (vI l1), some (vI l2), some (vR (some q_l3)), some (vI l4), some (vI l5), some (vI l6)]) (st' := [vJ ((zi (zV h (40 + 1) (4 * l6 + 0).toNat)).toInt64), vJ (zJ h (q_l3 + 1) ((zw (l2 + l6))).toNat)]) (h' := h) f102_111 rfl ?_
    refine y_s (pc' := 113) (L' := [some (vR (some 32)), some (vI l1), some (vI l2), some (vR (some q_l3)), some (vI l4), some (vI l5), some (vI l6)]) (st' := [vI ((lg_cmp (zJ h (q_l3 + 1) ((zw (l2 + l6))).toNat) ((zi (zV h (40 + 1) (4 * l6 + 0).toNat)).toInt64)).toInt)]) (h' := h) f102_112 rfl ?_
    refine y_if (pcT := 119) (pc' := 116) (P := ((lg_cmp (zJ h (q_l3 + 1) ((zw (l2 + l6))).toNat) ((zi (zV h (40 + 1) (4 * l6 + 0).toNat)).toInt64)).toInt) = 0) f102_113 rfl rfl rfl (fun c => ?_) (fun c => ?_)
    · replace k := k.1 c
      refine y_inc (pc' := 122) (L' := [some (vR (some 32)), some (vI l1), some (vI l2), some (vR (some q_l3)), some (vI l4), some (vI l5), some (vI (zw (l6 + 1)))]) f102_119 rfl rfl rfl rfl ?_
      refine y_go (pc' := 82) f102_122 rfl ?_
      exact k
    · replace k := k.2 c
      refine y_s (pc' := 118) (L' := [some (vR (some 32)), some (vI l1), some (vI l2), some (vR (some q_l3)), some (vI l4), some (vI l5), some (vI l6)]) (st' := [vI l6]) (h' := h) f102_116 rfl ?_
      exact y_ri f102_118 ⟨rfl, k⟩
/-- HatterTunes.see(IIII)I -/
theorem E89 {d : Nat} {K : Int → Hp → Prop} (w : yWF zl nl h) {x0 : Int} {x1 : Int} {x2 : Int} {x3 : Int} (hd : 2 ≤ d) (k : ((x0 ≠ (-1) → ((((0 : Int) ≤ x0 ∧ x0 < zV h 33 10) → ((((0 : Int) ≤ x1 ∧ x1 < 6) → ((((0 : Int) ≤ x2 ∧ x2 < 13) → ((((0 : Int) ≤ x3 ∧ x3 < 10) → (((0 : Int) ≤ zV h 42 1 ∧ zV h 42 1 ≤ 10) ∧ ((((20 : Int) ≤ 4 * zV h 42 1) → K (-4) h) ∧ (¬ (((20 : Int) ≤ 4 * zV h 42 1)) → yI (d - 1) 41 [vR (some 42), vI x0, vI x1, vI x2, vI x3] h (fun x h' => ZW d prog_1_method_20_code 7 90 [some (vR (some 32)), some (vI x0), some (vI x1), some (vI x2), some (vI x3)] [vI x] h' (yq 1 (yqI K))))))) ∧ (¬ (((0 : Int) ≤ x3 ∧ x3 < 10)) → K (-2) h))) ∧ (¬ (((0 : Int) ≤ x2 ∧ x2 < 13)) → K (-2) h))) ∧ (¬ (((0 : Int) ≤ x1 ∧ x1 < 6)) → K (-1) h))) ∧ (¬ (((0 : Int) ≤ x0 ∧ x0 < zV h 33 10)) → K (-1) h))) ∧ (¬ (x0 ≠ (-1)) → K 0 (zsetV h 42 1 0)))) : yI d 89 [vR (some 32), vI x0, vI x1, vI x2, vI x3] h K := by
  refine y_en (L := [some (vR (some 32)), some (vI x0), some (vI x1), some (vI x2), some (vI x3)]) rfl rfl ?_
  refine y_s (pc' := 1) (L' := [some (vR (some 32)), some (vI x0), some (vI x1), some (vI x2), some (vI x3)]) (st' := [vI x0]) (h' := h) f89_0 rfl ?_
  refine y_s (pc' := 2) (L' := [some (vR (some 32)), some (vI x0), some (vI x1), some (vI x2), some (vI x3)]) (st' := [vI (-1), vI x0]) (h' := h) f89_1 rfl ?_
  refine y_ic (pcT := 16) (pc' := 5) (P := x0 ≠ (-1)) f89_2 rfl rfl rfl (fun c => ?_) (fun c => ?_)
  · replace k := k.1 c
    refine y_s (pc' := 17) (L' := [some (vR (some 32)), some (vI x0), some (vI x1), some (vI x2), some (vI x3)]) (st' := [vR (some 32)]) (h' := h) f89_16 rfl ?_
    refine y_s (pc' := 18) (L' := [some (vR (some 32)), some (vI x0), some (vI x1), some (vI x2), some (vI x3)]) (st' := [vI x0, vR (some 32)]) (h' := h) f89_17 rfl ?_
    refine y_cI (pc' := 21) (as := [vR (some 32), vI x0]) (r := []) f89_18 (yzv ym_7_71 rfl (ys32 w) rfl rfl) (by omega) rfl ?_
    refine sp15 w (by omega) (fun c => ?_) (fun c => ?_)
    · replace k := k.1 c
      refine y_iff (pcT := 33) (pc' := 24) f89_21 rfl rfl rfl ?_
      refine y_s (pc' := 25) (L' := [some (vR (some 32)), some (vI x0), some (vI x1), some (vI x2), some (vI x3)]) (st' := [vI x1]) (h' := h) f89_24 rfl ?_
      refine y_s (pc' := 27) (L' := [some (vR (some 32)), some (vI x0), some (vI x1), some (vI x2), some (vI x3)]) (st' := [vI 6, vI x1]) (h' := h) f89_25 rfl ?_
      refine y_cI (pc' := 30) (as := [vI x1, vI 6]) (r := []) f89_27 rfl (by omega) rfl ?_
      refine sp10 w (fun c => ?_) (fun c => ?_)
      · replace k := k.1 c
        refine y_ift (pcT := 35) f89_30 rfl rfl ?_
        refine y_s (pc' := 36) (L' := [some (vR (some 32)), some (vI x0), some (vI x1), some (vI x2), some (vI x3)]) (st' := [vI x2]) (h' := h) f89_35 rfl ?_
        refine y_s (pc' := 38) (L' := [some (vR (some 32)), some (vI x0), some (vI x1), some (vI x2), some (vI x3)]) (st' := [vI 13, vI x2]) (h' := h) f89_36 rfl ?_
        refine y_cI (pc' := 41) (as := [vI x2, vI 13]) (r := []) f89_38 rfl (by omega) rfl ?_
        refine sp10 w (fun c => ?_) (fun c => ?_)
        · replace k := k.1 c
          refine y_iff (pcT := 54) (pc' := 44) f89_41 rfl rfl rfl ?_
          refine y_s (pc' := 46) (L' := [some (vR (some 32)), some (vI x0), some (vI x1), some (vI x2), some (vI x3)]) (st' := [vI x3]) (h' := h) f89_44 rfl ?_
          refine y_s (pc' := 48) (L' := [some (vR (some 32)), some (vI x0), some (vI x1), some (vI x2), some (vI x3)]) (st' := [vI 10, vI x3]) (h' := h) f89_46 rfl ?_
          refine y_cI (pc' := 51) (as := [vI x3, vI 10]) (r := []) f89_48 rfl (by omega) rfl ?_
          refine sp10 w (fun c => ?_) (fun c => ?_)
          · replace k := k.1 c
            refine y_ift (pcT := 57) f89_51 rfl rfl ?_
            refine y_s (pc' := 58) (L' := [some (vR (some 32)), some (vI x0), some (vI x1), some (vI x2), some (vI x3)]) (st' := [vR (some 32)]) (h' := h) f89_57 rfl ?_
            refine y_gr (pc' := 61) f89_58 yf_7_14 rfl rfl (ys32 w) (yp32_0 w) rfl ?_
            refine y_gr (pc' := 64) f89_61 yf_7_203 rfl rfl (ys33 w) (yp33_7 w) rfl ?_
            refine y_cI (pc' := 67) (as := [vR (some 42)]) (r := []) f89_64 (yzv ym_7_141 rfl (ys42 w) rfl rfl) (by omega) rfl ?_
            have p0 := k.1
            replace k := k.2
            refine sp40 w (yR9 (a := 33) (Or.inl rfl)) p0 (fun c => ?_) (fun c => ?_)
            · replace k := k.1 c
              refine y_iff (pcT := 75) (pc' := 70) f89_67 rfl rfl rfl ?_
              refine y_s (pc' := 72) (L' := [some (vR (some 32)), some (vI x0), some (vI x1), some (vI x2), some (vI x3)]) (st' := [vI (-4)]) (h' := h) f89_70 rfl ?_
              refine y_go (pc' := 90) f89_72 rfl ?_
              exact y_ri f89_90 ⟨rfl, k⟩
            · replace k := k.2 c
              refine y_ift (pcT := 75) f89_67 rfl rfl ?_
              refine y_s (pc' := 76) (L' := [some (vR (some 32)), some (vI x0), some (vI x1), some (vI x2), some (vI x3)]) (st' := [vR (some 32)]) (h' := h) f89_75 rfl ?_
              refine y_gr (pc' := 79) f89_76 yf_7_14 rfl rfl (ys32 w) (yp32_0 w) rfl ?_
              refine y_gr (pc' := 82) f89_79 yf_7_203 rfl rfl (ys33 w) (yp33_7 w) rfl ?_
              refine y_s (pc' := 83) (L' := [some (vR (some 32)), some (vI x0), some (vI x1), some (vI x2), some (vI x3)]) (st' := [vI x0, vR (some 42)]) (h' := h) f89_82 rfl ?_
              refine y_s (pc' := 84) (L' := [some (vR (some 32)), some (vI x0), some (vI x1), some (vI x2), some (vI x3)]) (st' := [vI x1, vI x0, vR (some 42)]) (h' := h) f89_83 rfl ?_
              refine y_s (pc' := 85) (L' := [some (vR (some 32)), some (vI x0), some (vI x1), some (vI x2), some (vI x3)]) (st' := [vI x2, vI x1, vI x0, vR (some 42)]) (h' := h) f89_84 rfl ?_
              refine y_s (pc' := 87) (L' := [some (vR (some 32)), some (vI x0), some (vI x1), some (vI x2), some (vI x3)]) (st' := [vI x3, vI x2, vI x1, vI x0, vR (some 42)]) (h' := h) f89_85 rfl ?_
              refine y_cI (pc' := 90) (as := [vR (some 42), vI x0, vI x1, vI x2, vI x3]) (r := []) f89_87 (yzv ym_7_145 rfl (ys42 w) rfl rfl) (by omega) rfl ?_
              exact k
          · replace k := k.2 c
            refine y_iff (pcT := 57) (pc' := 54) f89_51 rfl rfl rfl ?_
            refine y_s (pc' := 56) (L' := [some (vR (some 32)), some (vI x0), some (vI x1), some (vI x2), some (vI x3)]) (st' := [vI (-2)]) (h' := h) f89_54 rfl ?_
            exact y_ri f89_56 ⟨rfl, k⟩
        · replace k := k.2 c
          refine y_ift (pcT := 54) f89_41 rfl rfl ?_
          refine y_s (pc' := 56) (L' := [some (vR (some 32)), some (vI x0), some (vI x1), some (vI x2), some (vI x3)]) (st' := [vI (-2)]) (h' := h) f89_54 rfl ?_
          exact y_ri f89_56 ⟨rfl, k⟩
      · replace k := k.2 c
        refine y_iff (pcT := 35) (pc' := 33) f89_30 rfl rfl rfl ?_
        refine y_s (pc' := 34) (L' := [some (vR (some 32)), some (vI x0), some (vI x1), some (vI x2), some (vI x3)]) (st' := [vI (-1)]) (h' := h) f89_33 rfl ?_
        exact y_ri f89_34 ⟨rfl, k⟩
    · replace k := k.2 c
      refine y_ift (pcT := 33) f89_21 rfl rfl ?_
      refine y_s (pc' := 34) (L' := [some (vR (some 32)), some (vI x0), some (vI x1), some (vI x2), some (vI x3)]) (st' := [vI (-1)]) (h' := h) f89_33 rfl ?_
      exact y_ri f89_34 ⟨rfl, k⟩
  · replace k := k.2 c
    refine y_s (pc' := 6) (L' := [some (vR (some 32)), some (vI x0), some (vI x1), some (vI x2), some (vI x3)]) (st' := [vR (some 32)]) (h' := h) f89_5 rfl ?_
    refine y_gr (pc' := 9) f89_6 yf_7_14 rfl rfl (ys32 w) (yp32_0 w) rfl ?_
    refine y_gr (pc' := 12) f89_9 yf_7_203 rfl rfl (ys33 w) (yp33_7 w) rfl ?_
    refine y_cI (pc' := 15) (as := [vR (some 42)]) (r := []) f89_12 (yzv ym_7_135 rfl (ys42 w) rfl rfl) (by omega) rfl ?_
    refine sp39 w (yR9 (a := 33) (Or.inl rfl)) ?_
    exact y_ri f89_15 ⟨rfl, k⟩
theorem W89_90 {d : Nat} {K : Int → Hp → Prop} (w : yWF zl nl h) {l1 : Int} {l2 : Int} {l3 : Int} {l4 : Int} {s0 : Int} (k : K s0 h) : ZW d prog_1_method_20_code 7 90 [some (vR (some 32)), some (vI l1), some (vI l2), some (vI l3), some (vI l4)] [vI s0] h (yq 1 (yqI K)) := by
  exact y_ri f89_90 ⟨rfl, k⟩
/-- HatterTunes.shop()I -/
theorem E46 {d : Nat} {K : Int → Hp → Prop} (w : yWF zl nl h) (hd : 1 ≤ d) (k : (((zV h 32 6) < 6 → ((0 ≤ (zV h 32 6) ∧ (zV h 32 6) < 6) ∧ yI (d - 1) 47 [vR (some 90), vR (some ((101 + 4 * ((zV h 32 6)).toNat)))] h (fun x h' => ZW d prog_1_method_13_code 7 30 [some (vR (some 32)), some (vR (some ((101 + 4 * ((zV h 32 6)).toNat)))), none] [vI x] h' (yq 1 (yqI K))))) ∧ (¬ ((zV h 32 6) < 6) → K (-4) h))) : yI d 46 [vR (some 32)] h K := by
  refine y_en (L := [some (vR (some 32)), none, none]) rfl rfl ?_
  refine y_s (pc' := 1) (L' := [some (vR (some 32)), none, none]) (st' := [vR (some 32)]) (h' := h) f46_0 rfl ?_
  refine y_gi (pc' := 4) f46_1 yf_7_155 rfl rfl (ys32 w) rfl ?_
  refine y_s (pc' := 6) (L' := [some (vR (some 32)), none, none]) (st' := [vI 6, vI (zV h 32 6)]) (h' := h) f46_4 rfl ?_
  refine y_ic (pcT := 12) (pc' := 9) (P := (zV h 32 6) < 6) f46_6 rfl rfl rfl (fun c => ?_) (fun c => ?_)
  · replace k := k.1 c
    refine y_s (pc' := 13) (L' := [some (vR (some 32)), none, none]) (st' := [vR (some 32)]) (h' := h) f46_12 rfl ?_
    refine y_gr (pc' := 16) f46_13 yf_7_33 rfl rfl (ys32 w) (yp32_5 w) rfl ?_
    refine y_s (pc' := 17) (L' := [some (vR (some 32)), none, none]) (st' := [vR (some 32), vR (some 92)]) (h' := h) f46_16 rfl ?_
    refine y_gi (pc' := 20) f46_17 yf_7_155 rfl rfl (ys32 w) rfl ?_
    have ci_20 := k.1
    replace k := k.2
    refine y_aa (pc' := 21) f46_20 (by decide) (ys92 w) ci_20 (yp92 w ci_20) rfl ?_
    refine y_sto (pc' := 22) (k := 1) (L' := [some (vR (some 32)), some (vR (some ((101 + 4 * ((zV h 32 6)).toNat)))), none]) f46_21 rfl rfl rfl rfl rfl rfl ?_
    refine y_s (pc' := 23) (L' := [some (vR (some 32)), some (vR (some ((101 + 4 * ((zV h 32 6)).toNat)))), none]) (st' := [vR (some 32)]) (h' := h) f46_22 rfl ?_
    refine y_gr (pc' := 26) f46_23 yf_7_27 rfl rfl (ys32 w) (yp32_4 w) rfl ?_
    refine y_s (pc' := 27) (L' := [some (vR (some 32)), some (vR (some ((101 + 4 * ((zV h 32 6)).toNat)))), none]) (st' := [vR (some ((101 + 4 * ((zV h 32 6)).toNat))), vR (some 90)]) (h' := h) f46_26 rfl ?_
    refine y_cI (pc' := 30) (as := [vR (some 90), vR (some ((101 + 4 * ((zV h 32 6)).toNat)))]) (r := []) f46_27 (yzv ym_7_158 rfl (ys90 w) rfl rfl) (by omega) rfl ?_
    exact k
  · replace k := k.2 c
    refine y_s (pc' := 11) (L' := [some (vR (some 32)), none, none]) (st' := [vI (-4)]) (h' := h) f46_9 rfl ?_
    exact y_ri f46_11 ⟨rfl, k⟩
theorem W46_30 {d : Nat} {K : Int → Hp → Prop} (w : yWF zl nl h) {q_l1 : Nat} (hq_l1 : ySh q_l1) {s0 : Int} (k : ((s0 < 0 → (yWF zl nl (zsetP h 33 12 (some q_l1)) ∧ (∀ h_59, (zsetV (zsetP h 33 12 (some q_l1)) 32 6 (zw ((zV (zsetP h 33 12 (some q_l1)) 32 6) + 1))) = h_59 → K (zV (zsetP h 33 12 (some q_l1)) 32 6) h_59))) ∧ (¬ (s0 < 0) → K (zw ((-10) - s0)) h))) : ZW d prog_1_method_13_code 7 30 [some (vR (some 32)), some (vR (some q_l1)), none] [vI s0] h (yq 1 (yqI K)) := by
  refine y_sto (pc' := 31) (k := 2) (L' := [some (vR (some 32)), some (vR (some q_l1)), some (vI s0)]) f46_30 rfl rfl rfl rfl rfl rfl ?_
  refine y_s (pc' := 32) (L' := [some (vR (some 32)), some (vR (some q_l1)), some (vI s0)]) (st' := [vI s0]) (h' := h) f46_31 rfl ?_
  refine y_if (pcT := 40) (pc' := 35) (P := s0 < 0) f46_32 rfl rfl rfl (fun c => ?_) (fun c => ?_)
  · replace k := k.1 c
    refine y_s (pc' := 41) (L' := [some (vR (some 32)), some (vR (some q_l1)), some (vI s0)]) (st' := [vR (some 32)]) (h' := h) f46_40 rfl ?_
    refine y_gr (pc' := 44) f46_41 yf_7_14 rfl rfl (ys32 w) (yp32_0 w) rfl ?_
    refine y_s (pc' := 45) (L' := [some (vR (some 32)), some (vR (some q_l1)), some (vI s0)]) (st' := [vR (some q_l1), vR (some 33)]) (h' := h) f46_44 rfl ?_
    refine y_pr (pc' := 48) f46_45 yf_7_162 rfl rfl (ys33 w) (by decide) rfl rfl ?_
    replace w := k.1
    replace k := k.2
    refine y_s (pc' := 49) (L' := [some (vR (some 32)), some (vR (some q_l1)), some (vI s0)]) (st' := [vR (some 32)]) (h' := (zsetP h 33 12 (some q_l1))) f46_48 rfl ?_
    refine y_s (pc' := 50) (L' := [some (vR (some 32)), some (vR (some q_l1)), some (vI s0)]) (st' := [vR (some 32), vR (some 32)]) (h' := (zsetP h 33 12 (some q_l1))) f46_49 rfl ?_
    refine y_gi (pc' := 53) f46_50 yf_7_155 rfl rfl (ys32 w) rfl ?_
    refine y_s (pc' := 54) (L' := [some (vR (some 32)), some (vR (some q_l1)), some (vI s0)]) (st' := [vI (zV (zsetP h 33 12 (some q_l1)) 32 6), vR (some 32), vI (zV (zsetP h 33 12 (some q_l1)) 32 6)]) (h' := (zsetP h 33 12 (some q_l1))) f46_53 rfl ?_
    refine y_s (pc' := 55) (L' := [some (vR (some 32)), some (vR (some q_l1)), some (vI s0)]) (st' := [vI 1, vI (zV (zsetP h 33 12 (some q_l1)) 32 6), vR (some 32), vI (zV (zsetP h 33 12 (some q_l1)) 32 6)]) (h' := (zsetP h 33 12 (some q_l1))) f46_54 rfl ?_
    refine y_s (pc' := 56) (L' := [some (vR (some 32)), some (vR (some q_l1)), some (vI s0)]) (st' := [vI (zw ((zV (zsetP h 33 12 (some q_l1)) 32 6) + 1)), vR (some 32), vI (zV (zsetP h 33 12 (some q_l1)) 32 6)]) (h' := (zsetP h 33 12 (some q_l1))) f46_55 rfl ?_
    refine y_pi (pc' := 59) f46_56 yf_7_155 rfl rfl (ys32 w) (by decide) (Or.inl rfl) rfl ?_
    generalize e_59 : (zsetV (zsetP h 33 12 (some q_l1)) 32 6 (zw ((zV (zsetP h 33 12 (some q_l1)) 32 6) + 1))) = h_59
    replace k := k _ e_59
    have w : yWF zl nl h_59 := by rw [← e_59]; exact w
    exact y_ri f46_59 ⟨rfl, k⟩
  · replace k := k.2 c
    refine y_s (pc' := 37) (L' := [some (vR (some 32)), some (vR (some q_l1)), some (vI s0)]) (st' := [vI (-10)]) (h' := h) f46_35 rfl ?_
    refine y_s (pc' := 38) (L' := [some (vR (some 32)), some (vR (some q_l1)), some (vI s0)]) (st' := [vI s0, vI (-10)]) (h' := h) f46_37 rfl ?_
    refine y_s (pc' := 39) (L' := [some (vR (some 32)), some (vR (some q_l1)), some (vI s0)]) (st' := [vI (zw ((-10) - s0))]) (h' := h) f46_38 rfl ?_
    exact y_ri f46_39 ⟨rfl, k⟩
/-- HatterTunes.act(III)I -/
theorem E107 {d : Nat} {K : Int → Hp → Prop} (w : yWF zl nl h) {x0 : Int} {x1 : Int} {x2 : Int} (hd : 1 ≤ d) (k : yU (d - 1) 108 [vR (some 94)] h (fun h' => ZW d prog_1_method_34_code 7 7 [some (vR (some 32)), some (vI x0), some (vI x1), some (vI x2)] [] h' (yq 1 (yqI K)))) : yI d 107 [vR (some 32), vI x0, vI x1, vI x2] h K := by
  refine y_en (L := [some (vR (some 32)), some (vI x0), some (vI x1), some (vI x2)]) rfl rfl ?_
  refine y_s (pc' := 1) (L' := [some (vR (some 32)), some (vI x0), some (vI x1), some (vI x2)]) (st' := [vR (some 32)]) (h' := h) f107_0 rfl ?_
  refine y_gr (pc' := 4) f107_1 yf_7_46 rfl rfl (ys32 w) (yp32_8 w) rfl ?_
  refine y_cU (pc' := 7) (as := [vR (some 94)]) (r := []) f107_4 (yzv ym_7_251 rfl (ys94 w) rfl rfl) (by omega) rfl ?_
  exact k
theorem W107_7 {d : Nat} {K : Int → Hp → Prop} (w : yWF zl nl h) {l1 : Int} {l2 : Int} {l3 : Int} (hd : 2 ≤ d) (k : ((((0 : Int) ≤ l1 ∧ l1 < zV h 33 10) → ((((0 : Int) ≤ l2 ∧ l2 < 3) → ((0 ≤ l1 ∧ l1 < 6) ∧ ((0 ≤ l1 ∧ l1 < 6) ∧ yI (d - 1) 109 [vR (some 94), vI l1, vI (zV h 34 (l1).toNat), vI (zV h 35 (l1).toNat), vI l2, vI l3] h (fun x h' => ZW d prog_1_method_34_code 7 53 [some (vR (some 32)), some (vI l1), some (vI l2), some (vI l3)] [vI x] h' (yq 1 (yqI K)))))) ∧ (¬ (((0 : Int) ≤ l2 ∧ l2 < 3)) → K 0 h))) ∧ (¬ (((0 : Int) ≤ l1 ∧ l1 < zV h 33 10)) → K 0 h))) : ZW d prog_1_method_34_code 7 7 [some (vR (some 32)), some (vI l1), some (vI l2), some (vI l3)] [] h (yq 1 (yqI K)) := by
  refine y_s (pc' := 8) (L' := [some (vR (some 32)), some (vI l1), some (vI l2), some (vI l3)]) (st' := [vR (some 32)]) (h' := h) f107_7 rfl ?_
  refine y_s (pc' := 9) (L' := [some (vR (some 32)), some (vI l1), some (vI l2), some (vI l3)]) (st' := [vI l1, vR (some 32)]) (h' := h) f107_8 rfl ?_
  refine y_cI (pc' := 12) (as := [vR (some 32), vI l1]) (r := []) f107_9 (yzv ym_7_71 rfl (ys32 w) rfl rfl) (by omega) rfl ?_
  refine sp15 w (by omega) (fun c => ?_) (fun c => ?_)
  · replace k := k.1 c
    refine y_iff (pcT := 23) (pc' := 15) f107_12 rfl rfl rfl ?_
    refine y_s (pc' := 16) (L' := [some (vR (some 32)), some (vI l1), some (vI l2), some (vI l3)]) (st' := [vI l2]) (h' := h) f107_15 rfl ?_
    refine y_s (pc' := 17) (L' := [some (vR (some 32)), some (vI l1), some (vI l2), some (vI l3)]) (st' := [vI 3, vI l2]) (h' := h) f107_16 rfl ?_
    refine y_cI (pc' := 20) (as := [vI l2, vI 3]) (r := []) f107_17 rfl (by omega) rfl ?_
    refine sp10 w (fun c => ?_) (fun c => ?_)
    · replace k := k.1 c
      refine y_ift (pcT := 25) f107_20 rfl rfl ?_
      refine y_s (pc' := 26) (L' := [some (vR (some 32)), some (vI l1), some (vI l2), some (vI l3)]) (st' := [vR (some 32)]) (h' := h) f107_25 rfl ?_
      refine y_gr (pc' := 29) f107_26 yf_7_46 rfl rfl (ys32 w) (yp32_8 w) rfl ?_
      refine y_s (pc' := 30) (L' := [some (vR (some 32)), some (vI l1), some (vI l2), some (vI l3)]) (st' := [vI l1, vR (some 94)]) (h' := h) f107_29 rfl ?_
      refine y_s (pc' := 31) (L' := [some (vR (some 32)), some (vI l1), some (vI l2), some (vI l3)]) (st' := [vR (some 32), vI l1, vR (some 94)]) (h' := h) f107_30 rfl ?_
      refine y_gr (pc' := 34) f107_31 yf_7_14 rfl rfl (ys32 w) (yp32_0 w) rfl ?_
      refine y_gr (pc' := 37) f107_34 yf_7_75 rfl rfl (ys33 w) (yp33_0 w) rfl ?_
      refine y_s (pc' := 38) (L' := [some (vR (some 32)), some (vI l1), some (vI l2), some (vI l3)]) (st' := [vI l1, vR (some 34), vI l1, vR (some 94)]) (h' := h) f107_37 rfl ?_
      refine y_ia (pc' := 39) (x := (zV h 34 (l1).toNat)) f107_38 (ys34 w) k.1 rfl rfl ?_
      replace k := k.2
      refine y_s (pc' := 40) (L' := [some (vR (some 32)), some (vI l1), some (vI l2), some (vI l3)]) (st' := [vR (some 32), vI (zV h 34 (l1).toNat), vI l1, vR (some 94)]) (h' := h) f107_39 rfl ?_
      refine y_gr (pc' := 43) f107_40 yf_7_14 rfl rfl (ys32 w) (yp32_0 w) rfl ?_
      refine y_gr (pc' := 46) f107_43 yf_7_79 rfl rfl (ys33 w) (yp33_1 w) rfl ?_
      refine y_s (pc' := 47) (L' := [some (vR (some 32)), some (vI l1), some (vI l2), some (vI l3)]) (st' := [vI l1, vR (some 35), vI (zV h 34 (l1).toNat), vI l1, vR (some 94)]) (h' := h) f107_46 rfl ?_
      refine y_ia (pc' := 48) (x := (zV h 35 (l1).toNat)) f107_47 (ys35 w) k.1 rfl rfl ?_
      replace k := k.2
      refine y_s (pc' := 49) (L' := [some (vR (some 32)), some (vI l1), some (vI l2), some (vI l3)]) (st' := [vI l2, vI (zV h 35 (l1).toNat), vI (zV h 34 (l1).toNat), vI l1, vR (some 94)]) (h' := h) f107_48 rfl ?_
      refine y_s (pc' := 50) (L' := [some (vR (some 32)), some (vI l1), some (vI l2), some (vI l3)]) (st' := [vI l3, vI l2, vI (zV h 35 (l1).toNat), vI (zV h 34 (l1).toNat), vI l1, vR (some 94)]) (h' := h) f107_49 rfl ?_
      refine y_cI (pc' := 53) (as := [vR (some 94), vI l1, vI (zV h 34 (l1).toNat), vI (zV h 35 (l1).toNat), vI l2, vI l3]) (r := []) f107_50 (yzv ym_7_254 rfl (ys94 w) rfl rfl) (by omega) rfl ?_
      exact k
    · replace k := k.2 c
      refine y_iff (pcT := 25) (pc' := 23) f107_20 rfl rfl rfl ?_
      refine y_s (pc' := 24) (L' := [some (vR (some 32)), some (vI l1), some (vI l2), some (vI l3)]) (st' := [vI 0]) (h' := h) f107_23 rfl ?_
      exact y_ri f107_24 ⟨rfl, k⟩
  · replace k := k.2 c
    refine y_ift (pcT := 23) f107_12 rfl rfl ?_
    refine y_s (pc' := 24) (L' := [some (vR (some 32)), some (vI l1), some (vI l2), some (vI l3)]) (st' := [vI 0]) (h' := h) f107_23 rfl ?_
    exact y_ri f107_24 ⟨rfl, k⟩
theorem W107_53 {d : Nat} {K : Int → Hp → Prop} (w : yWF zl nl h) {l1 : Int} {l2 : Int} {l3 : Int} {s0 : Int} (k : K s0 h) : ZW d prog_1_method_34_code 7 53 [some (vR (some 32)), some (vI l1), some (vI l2), some (vI l3)] [vI s0] h (yq 1 (yqI K)) := by
  exact y_ri f107_53 ⟨rfl, k⟩
/-- HatterTunes$Actor.perform(IIIII)I -/
theorem E109 {d : Nat} {K : Int → Hp → Prop} (w : yWF zl nl h) {x0 : Int} {x1 : Int} {x2 : Int} {x3 : Int} {x4 : Int} (hd : 1 ≤ d) (k : (∀ h_10, (zsetV (zsetV h 94 2 x0) 94 3 x1) = h_10 → yI (d - 1) 110 [vR (some 94), vI (zV (zsetV h_10 94 4 x2) 94 3), vI x3, vI x4, vI 0] (zsetV h_10 94 4 x2) (fun x h' => ZW d prog_2_method_4_code 0 28 [some (vR (some 94)), some (vI x0), some (vI x1), some (vI x2), some (vI x3), some (vI x4)] [vI x] h' (yq 1 (yqI K))))) : yI d 109 [vR (some 94), vI x0, vI x1, vI x2, vI x3, vI x4] h K := by
  refine y_en (L := [some (vR (some 94)), some (vI x0), some (vI x1), some (vI x2), some (vI x3), some (vI x4)]) rfl rfl ?_
  refine y_s (pc' := 1) (L' := [some (vR (some 94)), some (vI x0), some (vI x1), some (vI x2), some (vI x3), some (vI x4)]) (st' := [vR (some 94)]) (h' := h) f109_0 rfl ?_
  refine y_s (pc' := 2) (L' := [some (vR (some 94)), some (vI x0), some (vI x1), some (vI x2), some (vI x3), some (vI x4)]) (st' := [vI x0, vR (some 94)]) (h' := h) f109_1 rfl ?_
  refine y_pi (pc' := 5) f109_2 yf_0_25 rfl rfl (ys94 w) (by decide) (Or.inl rfl) rfl ?_
  refine y_s (pc' := 6) (L' := [some (vR (some 94)), some (vI x0), some (vI x1), some (vI x2), some (vI x3), some (vI x4)]) (st' := [vR (some 94)]) (h' := (zsetV h 94 2 x0)) f109_5 rfl ?_
  refine y_s (pc' := 7) (L' := [some (vR (some 94)), some (vI x0), some (vI x1), some (vI x2), some (vI x3), some (vI x4)]) (st' := [vI x1, vR (some 94)]) (h' := (zsetV h 94 2 x0)) f109_6 rfl ?_
  refine y_pi (pc' := 10) f109_7 yf_0_28 rfl rfl (ys94 w) (by decide) (Or.inl rfl) rfl ?_
  generalize e_10 : (zsetV (zsetV h 94 2 x0) 94 3 x1) = h_10
  replace k := k _ e_10
  have w : yWF zl nl h_10 := by rw [← e_10]; exact w
  refine y_s (pc' := 11) (L' := [some (vR (some 94)), some (vI x0), some (vI x1), some (vI x2), some (vI x3), some (vI x4)]) (st' := [vR (some 94)]) (h' := h_10) f109_10 rfl ?_
  refine y_s (pc' := 12) (L' := [some (vR (some 94)), some (vI x0), some (vI x1), some (vI x2), some (vI x3), some (vI x4)]) (st' := [vI x2, vR (some 94)]) (h' := h_10) f109_11 rfl ?_
  refine y_pi (pc' := 15) f109_12 yf_0_31 rfl rfl (ys94 w) (by decide) (Or.inl rfl) rfl ?_
  refine y_s (pc' := 16) (L' := [some (vR (some 94)), some (vI x0), some (vI x1), some (vI x2), some (vI x3), some (vI x4)]) (st' := [vR (some 94)]) (h' := (zsetV h_10 94 4 x2)) f109_15 rfl ?_
  refine y_s (pc' := 17) (L' := [some (vR (some 94)), some (vI x0), some (vI x1), some (vI x2), some (vI x3), some (vI x4)]) (st' := [vR (some 94), vR (some 94)]) (h' := (zsetV h_10 94 4 x2)) f109_16 rfl ?_
  refine y_gi (pc' := 20) f109_17 yf_0_28 rfl rfl (ys94 w) rfl ?_
  refine y_s (pc' := 22) (L' := [some (vR (some 94)), some (vI x0), some (vI x1), some (vI x2), some (vI x3), some (vI x4)]) (st' := [vI x3, vI (zV (zsetV h_10 94 4 x2) 94 3), vR (some 94)]) (h' := (zsetV h_10 94 4 x2)) f109_20 rfl ?_
  refine y_s (pc' := 24) (L' := [some (vR (some 94)), some (vI x0), some (vI x1), some (vI x2), some (vI x3), some (vI x4)]) (st' := [vI x4, vI x3, vI (zV (zsetV h_10 94 4 x2) 94 3), vR (some 94)]) (h' := (zsetV h_10 94 4 x2)) f109_22 rfl ?_
  refine y_s (pc' := 25) (L' := [some (vR (some 94)), some (vI x0), some (vI x1), some (vI x2), some (vI x3), some (vI x4)]) (st' := [vI 0, vI x4, vI x3, vI (zV (zsetV h_10 94 4 x2) 94 3), vR (some 94)]) (h' := (zsetV h_10 94 4 x2)) f109_24 rfl ?_
  refine y_cI (pc' := 28) (as := [vR (some 94), vI (zV (zsetV h_10 94 4 x2) 94 3), vI x3, vI x4, vI 0]) (r := []) f109_25 (yzv ym_0_34 rfl (ys94 w) rfl rfl) (by omega) rfl ?_
  exact k
theorem W109_28 {d : Nat} {K : Int → Hp → Prop} (w : yWF zl nl h) {l1 : Int} {l2 : Int} {l3 : Int} {l4 : Int} {l5 : Int} {s0 : Int} (k : K s0 h) : ZW d prog_2_method_4_code 0 28 [some (vR (some 94)), some (vI l1), some (vI l2), some (vI l3), some (vI l4), some (vI l5)] [vI s0] h (yq 1 (yqI K)) := by
  exact y_ri f109_28 ⟨rfl, k⟩
/-- HatterTunes$Actor.does(IIII)I -/
theorem E110 {d : Nat} {K : Int → Hp → Prop} (w : yWF zl nl h) {x0 : Int} {x1 : Int} {x2 : Int} {x3 : Int} (hd : 1 ≤ d) (k : ((x3 < 20 → yI (d - 1) 111 [vI x0, vI x1] h (fun x h' => ZW d prog_2_method_5_code 0 14 [some (vR (some 94)), some (vI x0), some (vI x1), some (vI x2), some (vI x3), none, none] [vI x] h' (yq 1 (yqI K)))) ∧ (¬ (x3 < 20) → K 0 h))) : yI d 110 [vR (some 94), vI x0, vI x1, vI x2, vI x3] h K := by
  refine y_en (L := [some (vR (some 94)), some (vI x0), some (vI x1), some (vI x2), some (vI x3), none, none]) rfl rfl ?_
  refine y_s (pc' := 2) (L' := [some (vR (some 94)), some (vI x0), some (vI x1), some (vI x2), some (vI x3), none, none]) (st' := [vI x3]) (h' := h) f110_0 rfl ?_
  refine y_s (pc' := 4) (L' := [some (vR (some 94)), some (vI x0), some (vI x1), some (vI x2), some (vI x3), none, none]) (st' := [vI 20, vI x3]) (h' := h) f110_2 rfl ?_
  refine y_ic (pcT := 9) (pc' := 7) (P := x3 < 20) f110_4 rfl rfl rfl (fun c => ?_) (fun c => ?_)
  · replace k := k.1 c
    refine y_s (pc' := 10) (L' := [some (vR (some 94)), some (vI x0), some (vI x1), some (vI x2), some (vI x3), none, none]) (st' := [vI x0]) (h' := h) f110_9 rfl ?_
    refine y_s (pc' := 11) (L' := [some (vR (some 94)), some (vI x0), some (vI x1), some (vI x2), some (vI x3), none, none]) (st' := [vI x1, vI x0]) (h' := h) f110_10 rfl ?_
    refine y_cI (pc' := 14) (as := [vI x0, vI x1]) (r := []) f110_11 rfl (by omega) rfl ?_
    exact k
  · replace k := k.2 c
    refine y_s (pc' := 8) (L' := [some (vR (some 94)), some (vI x0), some (vI x1), some (vI x2), some (vI x3), none, none]) (st' := [vI 0]) (h' := h) f110_7 rfl ?_
    exact y_ri f110_8 ⟨rfl, k⟩
theorem W110_14 {d : Nat} {K : Int → Hp → Prop} (w : yWF zl nl h) {l1 : Int} {l2 : Int} {l3 : Int} {l4 : Int} {s0 : Int} (hd : 1 ≤ d) (k : yU (d - 1) 112 [vR (some 94), vI s0] h (fun h' => ZW d prog_2_method_5_code 0 22 [some (vR (some 94)), some (vI l1), some (vI l2), some (vI l3), some (vI l4), some (vI s0), none] [] h' (yq 1 (yqI K)))) : ZW d prog_2_method_5_code 0 14 [some (vR (some 94)), some (vI l1), some (vI l2), some (vI l3), some (vI l4), none, none] [vI s0] h (yq 1 (yqI K)) := by
  refine y_sto (pc' := 16) (k := 5) (L' := [some (vR (some 94)), some (vI l1), some (vI l2), some (vI l3), some (vI l4), some (vI s0), none]) f110_14 rfl rfl rfl rfl rfl rfl ?_
  refine y_s (pc' := 17) (L' := [some (vR (some 94)), some (vI l1), some (vI l2), some (vI l3), some (vI l4), some (vI s0), none]) (st' := [vR (some 94)]) (h' := h) f110_16 rfl ?_
  refine y_s (pc' := 19) (L' := [some (vR (some 94)), some (vI l1), some (vI l2), some (vI l3), some (vI l4), some (vI s0), none]) (st' := [vI s0, vR (some 94)]) (h' := h) f110_17 rfl ?_
  refine y_cU (pc' := 22) (as := [vR (some 94), vI s0]) (r := []) f110_19 (yzv ym_0_41 rfl (ys94 w) rfl rfl) (by omega) rfl ?_
  exact k
theorem W110_22 {d : Nat} {K : Int → Hp → Prop} (w : yWF zl nl h) {l1 : Int} {l2 : Int} {l3 : Int} {l4 : Int} {l5 : Int} (hd : 1 ≤ d) (k : ((l5 = 10 → K (zw (l3 + (zV h 94 2))) h) ∧ (l5 = 11 → yI (d - 1) 110 [vR (some 94), vI (zV h 94 3), vI 0, vI l3, vI (zw (l4 + 1))] h (fun x h' => ZW d prog_2_method_5_code 0 147 [some (vR (some 94)), some (vI l1), some (vI l2), some (vI l3), some (vI l4), some (vI l5), some (vI (zw (l4 + 1)))] [vI x] h' (yq 1 (yqI K)))) ∧ (l5 = 12 → yI (d - 1) 110 [vR (some 94), vI (zV h 94 3), vI 1, vI l3, vI (zw (l4 + 1))] h (fun x h' => ZW d prog_2_method_5_code 0 165 [some (vR (some 94)), some (vI l1), some (vI l2), some (vI l3), some (vI l4), some (vI l5), some (vI (zw (l4 + 1)))] [vI x] h' (yq 1 (yqI K)))) ∧ (l5 = 20 → yI (d - 1) 110 [vR (some 94), vI (zV h 2 1), vI 1, vI l3, vI (zw (l4 + 1))] h (fun x h' => ZW d prog_2_method_5_code 0 181 [some (vR (some 94)), some (vI l1), some (vI l2), some (vI l3), some (vI l4), some (vI l5), some (vI (zw (l4 + 1)))] [vI x] h' (yq 1 (yqI K)))) ∧ (l5 = 30 → yI (d - 1) 110 [vR (some 94), vI (zV h 2 2), vI 0, vI (zw (l3 * 3)), vI (zw (l4 + 1))] h (fun x h' => ZW d prog_2_method_5_code 0 200 [some (vR (some 94)), some (vI l1), some (vI l2), some (vI l3), some (vI l4), some (vI l5), some (vI (zw (l4 + 1)))] [vI x] h' (yq 1 (yqI K)))) ∧ (l5 = 40 → yI (d - 1) 110 [vR (some 94), vI (zV h 2 3), vI 2, vI l3, vI (zw (l4 + 1))] h (fun x h' => ZW d prog_2_method_5_code 0 214 [some (vR (some 94)), some (vI l1), some (vI l2), some (vI l3), some (vI l4), some (vI l5), some (vI (zw (l4 + 1)))] [vI x] h' (yq 1 (yqI K)))) ∧ (l5 = 50 → yI (d - 1) 110 [vR (some 94), vI (zV h 2 4), vI 0, vI l3, vI (zw (l4 + 1))] h (fun x h' => ZW d prog_2_method_5_code 0 241 [some (vR (some 94)), some (vI l1), some (vI l2), some (vI l3), some (vI l4), some (vI l5), some (vI (zw (l4 + 1)))] [vI x] h' (yq 1 (yqI K)))) ∧ (l5 = 51 → yI (d - 1) 110 [vR (some 94), vI (zV h 2 4), vI 1, vI (zw (l3 + 1)), vI (zw (l4 + 1))] h (fun x h' => ZW d prog_2_method_5_code 0 258 [some (vR (some 94)), some (vI l1), some (vI l2), some (vI l3), some (vI l4), some (vI l5), some (vI (zw (l4 + 1)))] [vI x] h' (yq 1 (yqI K)))) ∧ (l5 = 60 → yI (d - 1) 110 [vR (some 94), vI (zV h 2 5), vI 2, vI (zw (l3 - (zV h 94 2))), vI (zw (l4 + 1))] h (fun x h' => ZW d prog_2_method_5_code 0 277 [some (vR (some 94)), some (vI l1), some (vI l2), some (vI l3), some (vI l4), some (vI l5), some (vI (zw (l4 + 1)))] [vI x] h' (yq 1 (yqI K)))) ∧ (l5 = 70 → yI (d - 1) 110 [vR (some 94), vI (zV h 2 6), vI 1, vI l3, vI (zw (l4 + 1))] h (fun x h' => ZW d prog_2_method_5_code 0 292 [some (vR (some 94)), some (vI l1), some (vI l2), some (vI l3), some (vI l4), some (vI l5), some (vI (zw (l4 + 1)))] [vI x] h' (yq 1 (yqI K)))) ∧ (l5 = 71 → yI (d - 1) 110 [vR (some 94), vI (zV h 2 6), vI 0, vI l3, vI (zw (l4 + 1))] h (fun x h' => ZW d prog_2_method_5_code 0 322 [some (vR (some 94)), some (vI l1), some (vI l2), some (vI l3), some (vI l4), some (vI l5), some (vI (zw (l4 + 1)))] [vI x] h' (yq 1 (yqI K)))) ∧ (l5 ≠ 10 ∧ l5 ≠ 11 ∧ l5 ≠ 12 ∧ l5 ≠ 20 ∧ l5 ≠ 30 ∧ l5 ≠ 40 ∧ l5 ≠ 50 ∧ l5 ≠ 51 ∧ l5 ≠ 60 ∧ l5 ≠ 70 ∧ l5 ≠ 71 → K 0 h))) : ZW d prog_2_method_5_code 0 22 [some (vR (some 94)), some (vI l1), some (vI l2), some (vI l3), some (vI l4), some (vI l5), none] [] h (yq 1 (yqI K)) := by
  refine y_s (pc' := 24) (L' := [some (vR (some 94)), some (vI l1), some (vI l2), some (vI l3), some (vI l4), some (vI l5), none]) (st' := [vI l4]) (h' := h) f110_22 rfl ?_
  refine y_s (pc' := 25) (L' := [some (vR (some 94)), some (vI l1), some (vI l2), some (vI l3), some (vI l4), some (vI l5), none]) (st' := [vI 1, vI l4]) (h' := h) f110_24 rfl ?_
  refine y_s (pc' := 26) (L' := [some (vR (some 94)), some (vI l1), some (vI l2), some (vI l3), some (vI l4), some (vI l5), none]) (st' := [vI (zw (l4 + 1))]) (h' := h) f110_25 rfl ?_
  refine y_sto (pc' := 28) (k := 6) (L' := [some (vR (some 94)), some (vI l1), some (vI l2), some (vI l3), some (vI l4), some (vI l5), some (vI (zw (l4 + 1)))]) f110_26 rfl rfl rfl rfl rfl rfl ?_
  refine y_s (pc' := 30) (L' := [some (vR (some 94)), some (vI l1), some (vI l2), some (vI l3), some (vI l4), some (vI l5), some (vI (zw (l4 + 1)))]) (st' := [vI l5]) (h' := h) f110_28 rfl ?_
  by_cases c : l5 = 10
  · refine y_ls (pc' := 128) (off := 98) f110_30 rfl (by rw [c]; rfl) rfl ?_
    replace k := k.1 c
    refine y_s (pc' := 129) (L' := [some (vR (some 94)), some (vI l1), some (vI l2), some (vI l3), some (vI l4), some (vI l5), some (vI (zw (l4 + 1)))]) (st' := [vI l3]) (h' := h) f110_128 rfl ?_
    refine y_s (pc' := 130) (L' := [some (vR (some 94)), some (vI l1), some (vI l2), some (vI l3), some (vI l4), some (vI l5), some (vI (zw (l4 + 1)))]) (st' := [vR (some 94), vI l3]) (h' := h) f110_129 rfl ?_
    refine y_gi (pc' := 133) f110_130 yf_0_25 rfl rfl (ys94 w) rfl ?_
    refine y_s (pc' := 134) (L' := [some (vR (some 94)), some (vI l1), some (vI l2), some (vI l3), some (vI l4), some (vI l5), some (vI (zw (l4 + 1)))]) (st' := [vI (zw (l3 + (zV h 94 2)))]) (h' := h) f110_133 rfl ?_
    exact y_ri f110_134 ⟨rfl, k⟩
  replace k := k.2
  have c0 := c
  by_cases c : l5 = 11
  · refine y_ls (pc' := 135) (off := 105) f110_30 rfl (by rw [c]; rfl) rfl ?_
    replace k := k.1 c
    refine y_s (pc' := 136) (L' := [some (vR (some 94)), some (vI l1), some (vI l2), some (vI l3), some (vI l4), some (vI l5), some (vI (zw (l4 + 1)))]) (st' := [vR (some 94)]) (h' := h) f110_135 rfl ?_
    refine y_s (pc' := 137) (L' := [some (vR (some 94)), some (vI l1), some (vI l2), some (vI l3), some (vI l4), some (vI l5), some (vI (zw (l4 + 1)))]) (st' := [vR (some 94), vR (some 94)]) (h' := h) f110_136 rfl ?_
    refine y_gi (pc' := 140) f110_137 yf_0_28 rfl rfl (ys94 w) rfl ?_
    refine y_s (pc' := 141) (L' := [some (vR (some 94)), some (vI l1), some (vI l2), some (vI l3), some (vI l4), some (vI l5), some (vI (zw (l4 + 1)))]) (st' := [vI 0, vI (zV h 94 3), vR (some 94)]) (h' := h) f110_140 rfl ?_
    refine y_s (pc' := 142) (L' := [some (vR (some 94)), some (vI l1), some (vI l2), some (vI l3), some (vI l4), some (vI l5), some (vI (zw (l4 + 1)))]) (st' := [vI l3, vI 0, vI (zV h 94 3), vR (some 94)]) (h' := h) f110_141 rfl ?_
    refine y_s (pc' := 144) (L' := [some (vR (some 94)), some (vI l1), some (vI l2), some (vI l3), some (vI l4), some (vI l5), some (vI (zw (l4 + 1)))]) (st' := [vI (zw (l4 + 1)), vI l3, vI 0, vI (zV h 94 3), vR (some 94)]) (h' := h) f110_142 rfl ?_
    refine y_cI (pc' := 147) (as := [vR (some 94), vI (zV h 94 3), vI 0, vI l3, vI (zw (l4 + 1))]) (r := []) f110_144 (yzv ym_0_34 rfl (ys94 w) rfl rfl) (by omega) rfl ?_
    exact k
  replace k := k.2
  have c1 := c
  by_cases c : l5 = 12
  · refine y_ls (pc' := 153) (off := 123) f110_30 rfl (by rw [c]; rfl) rfl ?_
    replace k := k.1 c
    refine y_s (pc' := 154) (L' := [some (vR (some 94)), some (vI l1), some (vI l2), some (vI l3), some (vI l4), some (vI l5), some (vI (zw (l4 + 1)))]) (st' := [vR (some 94)]) (h' := h) f110_153 rfl ?_
    refine y_s (pc' := 155) (L' := [some (vR (some 94)), some (vI l1), some (vI l2), some (vI l3), some (vI l4), some (vI l5), some (vI (zw (l4 + 1)))]) (st' := [vR (some 94), vR (some 94)]) (h' := h) f110_154 rfl ?_
    refine y_gi (pc' := 158) f110_155 yf_0_28 rfl rfl (ys94 w) rfl ?_
    refine y_s (pc' := 159) (L' := [some (vR (some 94)), some (vI l1), some (vI l2), some (vI l3), some (vI l4), some (vI l5), some (vI (zw (l4 + 1)))]) (st' := [vI 1, vI (zV h 94 3), vR (some 94)]) (h' := h) f110_158 rfl ?_
    refine y_s (pc' := 160) (L' := [some (vR (some 94)), some (vI l1), some (vI l2), some (vI l3), some (vI l4), some (vI l5), some (vI (zw (l4 + 1)))]) (st' := [vI l3, vI 1, vI (zV h 94 3), vR (some 94)]) (h' := h) f110_159 rfl ?_
    refine y_s (pc' := 162) (L' := [some (vR (some 94)), some (vI l1), some (vI l2), some (vI l3), some (vI l4), some (vI l5), some (vI (zw (l4 + 1)))]) (st' := [vI (zw (l4 + 1)), vI l3, vI 1, vI (zV h 94 3), vR (some 94)]) (h' := h) f110_160 rfl ?_
    refine y_cI (pc' := 165) (as := [vR (some 94), vI (zV h 94 3), vI 1, vI l3, vI (zw (l4 + 1))]) (r := []) f110_162 (yzv ym_0_34 rfl (ys94 w) rfl rfl) (by omega) rfl ?_
    exact k
  replace k := k.2
  have c2 := c
  by_cases c : l5 = 20
  · refine y_ls (pc' := 168) (off := 138) f110_30 rfl (by rw [c]; rfl) rfl ?_
    replace k := k.1 c
    refine y_s (pc' := 169) (L' := [some (vR (some 94)), some (vI l1), some (vI l2), some (vI l3), some (vI l4), some (vI l5), some (vI (zw (l4 + 1)))]) (st' := [vR (some 94)]) (h' := h) f110_168 rfl ?_
    refine y_s (pc' := 172) (L' := [some (vR (some 94)), some (vI l1), some (vI l2), some (vI l3), some (vI l4), some (vI l5), some (vI (zw (l4 + 1)))]) (st' := [vR (some 2), vR (some 94)]) (h' := h) f110_169 rfl ?_
    refine y_s (pc' := 173) (L' := [some (vR (some 94)), some (vI l1), some (vI l2), some (vI l3), some (vI l4), some (vI l5), some (vI (zw (l4 + 1)))]) (st' := [vI 1, vR (some 2), vR (some 94)]) (h' := h) f110_172 rfl ?_
    refine y_ia (pc' := 174) (x := (zV h 2 1)) f110_173 (ysb2 w) (by decide) rfl rfl ?_
    refine y_s (pc' := 175) (L' := [some (vR (some 94)), some (vI l1), some (vI l2), some (vI l3), some (vI l4), some (vI l5), some (vI (zw (l4 + 1)))]) (st' := [vI 1, vI (zV h 2 1), vR (some 94)]) (h' := h) f110_174 rfl ?_
    refine y_s (pc' := 176) (L' := [some (vR (some 94)), some (vI l1), some (vI l2), some (vI l3), some (vI l4), some (vI l5), some (vI (zw (l4 + 1)))]) (st' := [vI l3, vI 1, vI (zV h 2 1), vR (some 94)]) (h' := h) f110_175 rfl ?_
    refine y_s (pc' := 178) (L' := [some (vR (some 94)), some (vI l1), some (vI l2), some (vI l3), some (vI l4), some (vI l5), some (vI (zw (l4 + 1)))]) (st' := [vI (zw (l4 + 1)), vI l3, vI 1, vI (zV h 2 1), vR (some 94)]) (h' := h) f110_176 rfl ?_
    refine y_cI (pc' := 181) (as := [vR (some 94), vI (zV h 2 1), vI 1, vI l3, vI (zw (l4 + 1))]) (r := []) f110_178 (yzv ym_0_34 rfl (ys94 w) rfl rfl) (by omega) rfl ?_
    exact k
  replace k := k.2
  have c3 := c
  by_cases c : l5 = 30
  · refine y_ls (pc' := 185) (off := 155) f110_30 rfl (by rw [c]; rfl) rfl ?_
    replace k := k.1 c
    refine y_s (pc' := 186) (L' := [some (vR (some 94)), some (vI l1), some (vI l2), some (vI l3), some (vI l4), some (vI l5), some (vI (zw (l4 + 1)))]) (st' := [vR (some 94)]) (h' := h) f110_185 rfl ?_
    refine y_s (pc' := 189) (L' := [some (vR (some 94)), some (vI l1), some (vI l2), some (vI l3), some (vI l4), some (vI l5), some (vI (zw (l4 + 1)))]) (st' := [vR (some 2), vR (some 94)]) (h' := h) f110_186 rfl ?_
    refine y_s (pc' := 190) (L' := [some (vR (some 94)), some (vI l1), some (vI l2), some (vI l3), some (vI l4), some (vI l5), some (vI (zw (l4 + 1)))]) (st' := [vI 2, vR (some 2), vR (some 94)]) (h' := h) f110_189 rfl ?_
    refine y_ia (pc' := 191) (x := (zV h 2 2)) f110_190 (ysb2 w) (by decide) rfl rfl ?_
    refine y_s (pc' := 192) (L' := [some (vR (some 94)), some (vI l1), some (vI l2), some (vI l3), some (vI l4), some (vI l5), some (vI (zw (l4 + 1)))]) (st' := [vI 0, vI (zV h 2 2), vR (some 94)]) (h' := h) f110_191 rfl ?_
    refine y_s (pc' := 193) (L' := [some (vR (some 94)), some (vI l1), some (vI l2), some (vI l3), some (vI l4), some (vI l5), some (vI (zw (l4 + 1)))]) (st' := [vI l3, vI 0, vI (zV h 2 2), vR (some 94)]) (h' := h) f110_192 rfl ?_
    refine y_s (pc' := 194) (L' := [some (vR (some 94)), some (vI l1), some (vI l2), some (vI l3), some (vI l4), some (vI l5), some (vI (zw (l4 + 1)))]) (st' := [vI 3, vI l3, vI 0, vI (zV h 2 2), vR (some 94)]) (h' := h) f110_193 rfl ?_
    refine y_s (pc' := 195) (L' := [some (vR (some 94)), some (vI l1), some (vI l2), some (vI l3), some (vI l4), some (vI l5), some (vI (zw (l4 + 1)))]) (st' := [vI (zw (l3 * 3)), vI 0, vI (zV h 2 2), vR (some 94)]) (h' := h) f110_194 rfl ?_
    refine y_s (pc' := 197) (L' := [some (vR (some 94)), some (vI l1), some (vI l2), some (vI l3), some (vI l4), some (vI l5), some (vI (zw (l4 + 1)))]) (st' := [vI (zw (l4 + 1)), vI (zw (l3 * 3)), vI 0, vI (zV h 2 2), vR (some 94)]) (h' := h) f110_195 rfl ?_
    refine y_cI (pc' := 200) (as := [vR (some 94), vI (zV h 2 2), vI 0, vI (zw (l3 * 3)), vI (zw (l4 + 1))]) (r := []) f110_197 (yzv ym_0_34 rfl (ys94 w) rfl rfl) (by omega) rfl ?_
    exact k
  replace k := k.2
  have c4 := c
  by_cases c : l5 = 40
  · refine y_ls (pc' := 201) (off := 171) f110_30 rfl (by rw [c]; rfl) rfl ?_
    replace k := k.1 c
    refine y_s (pc' := 202) (L' := [some (vR (some 94)), some (vI l1), some (vI l2), some (vI l3), some (vI l4), some (vI l5), some (vI (zw (l4 + 1)))]) (st' := [vR (some 94)]) (h' := h) f110_201 rfl ?_
    refine y_s (pc' := 205) (L' := [some (vR (some 94)), some (vI l1), some (vI l2), some (vI l3), some (vI l4), some (vI l5), some (vI (zw (l4 + 1)))]) (st' := [vR (some 2), vR (some 94)]) (h' := h) f110_202 rfl ?_
    refine y_s (pc' := 206) (L' := [some (vR (some 94)), some (vI l1), some (vI l2), some (vI l3), some (vI l4), some (vI l5), some (vI (zw (l4 + 1)))]) (st' := [vI 3, vR (some 2), vR (some 94)]) (h' := h) f110_205 rfl ?_
    refine y_ia (pc' := 207) (x := (zV h 2 3)) f110_206 (ysb2 w) (by decide) rfl rfl ?_
    refine y_s (pc' := 208) (L' := [some (vR (some 94)), some (vI l1), some (vI l2), some (vI l3), some (vI l4), some (vI l5), some (vI (zw (l4 + 1)))]) (st' := [vI 2, vI (zV h 2 3), vR (some 94)]) (h' := h) f110_207 rfl ?_
    refine y_s (pc' := 209) (L' := [some (vR (some 94)), some (vI l1), some (vI l2), some (vI l3), some (vI l4), some (vI l5), some (vI (zw (l4 + 1)))]) (st' := [vI l3, vI 2, vI (zV h 2 3), vR (some 94)]) (h' := h) f110_208 rfl ?_
    refine y_s (pc' := 211) (L' := [some (vR (some 94)), some (vI l1), some (vI l2), some (vI l3), some (vI l4), some (vI l5), some (vI (zw (l4 + 1)))]) (st' := [vI (zw (l4 + 1)), vI l3, vI 2, vI (zV h 2 3), vR (some 94)]) (h' := h) f110_209 rfl ?_
    refine y_cI (pc' := 214) (as := [vR (some 94), vI (zV h 2 3), vI 2, vI l3, vI (zw (l4 + 1))]) (r := []) f110_211 (yzv ym_0_34 rfl (ys94 w) rfl rfl) (by omega) rfl ?_
    exact k
  replace k := k.2
  have c5 := c
  by_cases c : l5 = 50
  · refine y_ls (pc' := 228) (off := 198) f110_30 rfl (by rw [c]; rfl) rfl ?_
    replace k := k.1 c
    refine y_s (pc' := 229) (L' := [some (vR (some 94)), some (vI l1), some (vI l2), some (vI l3), some (vI l4), some (vI l5), some (vI (zw (l4 + 1)))]) (st' := [vR (some 94)]) (h' := h) f110_228 rfl ?_
    refine y_s (pc' := 232) (L' := [some (vR (some 94)), some (vI l1), some (vI l2), some (vI l3), some (vI l4), some (vI l5), some (vI (zw (l4 + 1)))]) (st' := [vR (some 2), vR (some 94)]) (h' := h) f110_229 rfl ?_
    refine y_s (pc' := 233) (L' := [some (vR (some 94)), some (vI l1), some (vI l2), some (vI l3), some (vI l4), some (vI l5), some (vI (zw (l4 + 1)))]) (st' := [vI 4, vR (some 2), vR (some 94)]) (h' := h) f110_232 rfl ?_
    refine y_ia (pc' := 234) (x := (zV h 2 4)) f110_233 (ysb2 w) (by decide) rfl rfl ?_
    refine y_s (pc' := 235) (L' := [some (vR (some 94)), some (vI l1), some (vI l2), some (vI l3), some (vI l4), some (vI l5), some (vI (zw (l4 + 1)))]) (st' := [vI 0, vI (zV h 2 4), vR (some 94)]) (h' := h) f110_234 rfl ?_
    refine y_s (pc' := 236) (L' := [some (vR (some 94)), some (vI l1), some (vI l2), some (vI l3), some (vI l4), some (vI l5), some (vI (zw (l4 + 1)))]) (st' := [vI l3, vI 0, vI (zV h 2 4), vR (some 94)]) (h' := h) f110_235 rfl ?_
    refine y_s (pc' := 238) (L' := [some (vR (some 94)), some (vI l1), some (vI l2), some (vI l3), some (vI l4), some (vI l5), some (vI (zw (l4 + 1)))]) (st' := [vI (zw (l4 + 1)), vI l3, vI 0, vI (zV h 2 4), vR (some 94)]) (h' := h) f110_236 rfl ?_
    refine y_cI (pc' := 241) (as := [vR (some 94), vI (zV h 2 4), vI 0, vI l3, vI (zw (l4 + 1))]) (r := []) f110_238 (yzv ym_0_34 rfl (ys94 w) rfl rfl) (by omega) rfl ?_
    exact k
  replace k := k.2
  have c6 := c
  by_cases c : l5 = 51
  · refine y_ls (pc' := 243) (off := 213) f110_30 rfl (by rw [c]; rfl) rfl ?_
    replace k := k.1 c
    refine y_s (pc' := 244) (L' := [some (vR (some 94)), some (vI l1), some (vI l2), some (vI l3), some (vI l4), some (vI l5), some (vI (zw (l4 + 1)))]) (st' := [vR (some 94)]) (h' := h) f110_243 rfl ?_
    refine y_s (pc' := 247) (L' := [some (vR (some 94)), some (vI l1), some (vI l2), some (vI l3), some (vI l4), some (vI l5), some (vI (zw (l4 + 1)))]) (st' := [vR (some 2), vR (some 94)]) (h' := h) f110_244 rfl ?_
    refine y_s (pc' := 248) (L' := [some (vR (some 94)), some (vI l1), some (vI l2), some (vI l3), some (vI l4), some (vI l5), some (vI (zw (l4 + 1)))]) (st' := [vI 4, vR (some 2), vR (some 94)]) (h' := h) f110_247 rfl ?_
    refine y_ia (pc' := 249) (x := (zV h 2 4)) f110_248 (ysb2 w) (by decide) rfl rfl ?_
    refine y_s (pc' := 250) (L' := [some (vR (some 94)), some (vI l1), some (vI l2), some (vI l3), some (vI l4), some (vI l5), some (vI (zw (l4 + 1)))]) (st' := [vI 1, vI (zV h 2 4), vR (some 94)]) (h' := h) f110_249 rfl ?_
    refine y_s (pc' := 251) (L' := [some (vR (some 94)), some (vI l1), some (vI l2), some (vI l3), some (vI l4), some (vI l5), some (vI (zw (l4 + 1)))]) (st' := [vI l3, vI 1, vI (zV h 2 4), vR (some 94)]) (h' := h) f110_250 rfl ?_
    refine y_s (pc' := 252) (L' := [some (vR (some 94)), some (vI l1), some (vI l2), some (vI l3), some (vI l4), some (vI l5), some (vI (zw (l4 + 1)))]) (st' := [vI 1, vI l3, vI 1, vI (zV h 2 4), vR (some 94)]) (h' := h) f110_251 rfl ?_
    refine y_s (pc' := 253) (L' := [some (vR (some 94)), some (vI l1), some (vI l2), some (vI l3), some (vI l4), some (vI l5), some (vI (zw (l4 + 1)))]) (st' := [vI (zw (l3 + 1)), vI 1, vI (zV h 2 4), vR (some 94)]) (h' := h) f110_252 rfl ?_
    refine y_s (pc' := 255) (L' := [some (vR (some 94)), some (vI l1), some (vI l2), some (vI l3), some (vI l4), some (vI l5), some (vI (zw (l4 + 1)))]) (st' := [vI (zw (l4 + 1)), vI (zw (l3 + 1)), vI 1, vI (zV h 2 4), vR (some 94)]) (h' := h) f110_253 rfl ?_
    refine y_cI (pc' := 258) (as := [vR (some 94), vI (zV h 2 4), vI 1, vI (zw (l3 + 1)), vI (zw (l4 + 1))]) (r := []) f110_255 (yzv ym_0_34 rfl (ys94 w) rfl rfl) (by omega) rfl ?_
    exact k
  replace k := k.2
  have c7 := c
  by_cases c : l5 = 60
  · refine y_ls (pc' := 259) (off := 229) f110_30 rfl (by rw [c]; rfl) rfl ?_
    replace k := k.1 c
    refine y_s (pc' := 260) (L' := [some (vR (some 94)), some (vI l1), some (vI l2), some (vI l3), some (vI l4), some (vI l5), some (vI (zw (l4 + 1)))]) (st' := [vR (some 94)]) (h' := h) f110_259 rfl ?_
    refine y_s (pc' := 263) (L' := [some (vR (some 94)), some (vI l1), some (vI l2), some (vI l3), some (vI l4), some (vI l5), some (vI (zw (l4 + 1)))]) (st' := [vR (some 2), vR (some 94)]) (h' := h) f110_260 rfl ?_
    refine y_s (pc' := 264) (L' := [some (vR (some 94)), some (vI l1), some (vI l2), some (vI l3), some (vI l4), some (vI l5), some (vI (zw (l4 + 1)))]) (st' := [vI 5, vR (some 2), vR (some 94)]) (h' := h) f110_263 rfl ?_
    refine y_ia (pc' := 265) (x := (zV h 2 5)) f110_264 (ysb2 w) (by decide) rfl rfl ?_
    refine y_s (pc' := 266) (L' := [some (vR (some 94)), some (vI l1), some (vI l2), some (vI l3), some (vI l4), some (vI l5), some (vI (zw (l4 + 1)))]) (st' := [vI 2, vI (zV h 2 5), vR (some 94)]) (h' := h) f110_265 rfl ?_
    refine y_s (pc' := 267) (L' := [some (vR (some 94)), some (vI l1), some (vI l2), some (vI l3), some (vI l4), some (vI l5), some (vI (zw (l4 + 1)))]) (st' := [vI l3, vI 2, vI (zV h 2 5), vR (some 94)]) (h' := h) f110_266 rfl ?_
    refine y_s (pc' := 268) (L' := [some (vR (some 94)), some (vI l1), some (vI l2), some (vI l3), some (vI l4), some (vI l5), some (vI (zw (l4 + 1)))]) (st' := [vR (some 94), vI l3, vI 2, vI (zV h 2 5), vR (some 94)]) (h' := h) f110_267 rfl ?_
    refine y_gi (pc' := 271) f110_268 yf_0_25 rfl rfl (ys94 w) rfl ?_
    refine y_s (pc' := 272) (L' := [some (vR (some 94)), some (vI l1), some (vI l2), some (vI l3), some (vI l4), some (vI l5), some (vI (zw (l4 + 1)))]) (st' := [vI (zw (l3 - (zV h 94 2))), vI 2, vI (zV h 2 5), vR (some 94)]) (h' := h) f110_271 rfl ?_
    refine y_s (pc' := 274) (L' := [some (vR (some 94)), some (vI l1), some (vI l2), some (vI l3), some (vI l4), some (vI l5), some (vI (zw (l4 + 1)))]) (st' := [vI (zw (l4 + 1)), vI (zw (l3 - (zV h 94 2))), vI 2, vI (zV h 2 5), vR (some 94)]) (h' := h) f110_272 rfl ?_
    refine y_cI (pc' := 277) (as := [vR (some 94), vI (zV h 2 5), vI 2, vI (zw (l3 - (zV h 94 2))), vI (zw (l4 + 1))]) (r := []) f110_274 (yzv ym_0_34 rfl (ys94 w) rfl rfl) (by omega) rfl ?_
    exact k
  replace k := k.2
  have c8 := c
  by_cases c : l5 = 70
  · refine y_ls (pc' := 278) (off := 248) f110_30 rfl (by rw [c]; rfl) rfl ?_
    replace k := k.1 c
    refine y_s (pc' := 279) (L' := [some (vR (some 94)), some (vI l1), some (vI l2), some (vI l3), some (vI l4), some (vI l5), some (vI (zw (l4 + 1)))]) (st' := [vR (some 94)]) (h' := h) f110_278 rfl ?_
    refine y_s (pc' := 282) (L' := [some (vR (some 94)), some (vI l1), some (vI l2), some (vI l3), some (vI l4), some (vI l5), some (vI (zw (l4 + 1)))]) (st' := [vR (some 2), vR (some 94)]) (h' := h) f110_279 rfl ?_
    refine y_s (pc' := 284) (L' := [some (vR (some 94)), some (vI l1), some (vI l2), some (vI l3), some (vI l4), some (vI l5), some (vI (zw (l4 + 1)))]) (st' := [vI 6, vR (some 2), vR (some 94)]) (h' := h) f110_282 rfl ?_
    refine y_ia (pc' := 285) (x := (zV h 2 6)) f110_284 (ysb2 w) (by decide) rfl rfl ?_
    refine y_s (pc' := 286) (L' := [some (vR (some 94)), some (vI l1), some (vI l2), some (vI l3), some (vI l4), some (vI l5), some (vI (zw (l4 + 1)))]) (st' := [vI 1, vI (zV h 2 6), vR (some 94)]) (h' := h) f110_285 rfl ?_
    refine y_s (pc' := 287) (L' := [some (vR (some 94)), some (vI l1), some (vI l2), some (vI l3), some (vI l4), some (vI l5), some (vI (zw (l4 + 1)))]) (st' := [vI l3, vI 1, vI (zV h 2 6), vR (some 94)]) (h' := h) f110_286 rfl ?_
    refine y_s (pc' := 289) (L' := [some (vR (some 94)), some (vI l1), some (vI l2), some (vI l3), some (vI l4), some (vI l5), some (vI (zw (l4 + 1)))]) (st' := [vI (zw (l4 + 1)), vI l3, vI 1, vI (zV h 2 6), vR (some 94)]) (h' := h) f110_287 rfl ?_
    refine y_cI (pc' := 292) (as := [vR (some 94), vI (zV h 2 6), vI 1, vI l3, vI (zw (l4 + 1))]) (r := []) f110_289 (yzv ym_0_34 rfl (ys94 w) rfl rfl) (by omega) rfl ?_
    exact k
  replace k := k.2
  have c9 := c
  by_cases c : l5 = 71
  · refine y_ls (pc' := 308) (off := 278) f110_30 rfl (by rw [c]; rfl) rfl ?_
    replace k := k.1 c
    refine y_s (pc' := 309) (L' := [some (vR (some 94)), some (vI l1), some (vI l2), some (vI l3), some (vI l4), some (vI l5), some (vI (zw (l4 + 1)))]) (st' := [vR (some 94)]) (h' := h) f110_308 rfl ?_
    refine y_s (pc' := 312) (L' := [some (vR (some 94)), some (vI l1), some (vI l2), some (vI l3), some (vI l4), some (vI l5), some (vI (zw (l4 + 1)))]) (st' := [vR (some 2), vR (some 94)]) (h' := h) f110_309 rfl ?_
    refine y_s (pc' := 314) (L' := [some (vR (some 94)), some (vI l1), some (vI l2), some (vI l3), some (vI l4), some (vI l5), some (vI (zw (l4 + 1)))]) (st' := [vI 6, vR (some 2), vR (some 94)]) (h' := h) f110_312 rfl ?_
    refine y_ia (pc' := 315) (x := (zV h 2 6)) f110_314 (ysb2 w) (by decide) rfl rfl ?_
    refine y_s (pc' := 316) (L' := [some (vR (some 94)), some (vI l1), some (vI l2), some (vI l3), some (vI l4), some (vI l5), some (vI (zw (l4 + 1)))]) (st' := [vI 0, vI (zV h 2 6), vR (some 94)]) (h' := h) f110_315 rfl ?_
    refine y_s (pc' := 317) (L' := [some (vR (some 94)), some (vI l1), some (vI l2), some (vI l3), some (vI l4), some (vI l5), some (vI (zw (l4 + 1)))]) (st' := [vI l3, vI 0, vI (zV h 2 6), vR (some 94)]) (h' := h) f110_316 rfl ?_
    refine y_s (pc' := 319) (L' := [some (vR (some 94)), some (vI l1), some (vI l2), some (vI l3), some (vI l4), some (vI l5), some (vI (zw (l4 + 1)))]) (st' := [vI (zw (l4 + 1)), vI l3, vI 0, vI (zV h 2 6), vR (some 94)]) (h' := h) f110_317 rfl ?_
    refine y_cI (pc' := 322) (as := [vR (some 94), vI (zV h 2 6), vI 0, vI l3, vI (zw (l4 + 1))]) (r := []) f110_319 (yzv ym_0_34 rfl (ys94 w) rfl rfl) (by omega) rfl ?_
    exact k
  replace k := k.2
  have c10 := c
  replace k := k ⟨c0, c1, c2, c3, c4, c5, c6, c7, c8, c9, c10⟩
  refine y_ls (pc' := 328) (off := 298) f110_30 rfl (by show Op.lookupswitch.offset [(10, 98), (11, 105), (12, 123), (20, 138), (30, 155), (40, 171), (50, 198), (51, 213), (60, 229), (70, 248), (71, 278)] 298 l5 = 298; rw [Op.lookupswitch.offset_cons, if_neg (fun q => c0 q.symm), Op.lookupswitch.offset_cons, if_neg (fun q => c1 q.symm), Op.lookupswitch.offset_cons, if_neg (fun q => c2 q.symm), Op.lookupswitch.offset_cons, if_neg (fun q => c3 q.symm), Op.lookupswitch.offset_cons, if_neg (fun q => c4 q.symm), Op.lookupswitch.offset_cons, if_neg (fun q => c5 q.symm), Op.lookupswitch.offset_cons, if_neg (fun q => c6 q.symm), Op.lookupswitch.offset_cons, if_neg (fun q => c7 q.symm), Op.lookupswitch.offset_cons, if_neg (fun q => c8 q.symm), Op.lookupswitch.offset_cons, if_neg (fun q => c9 q.symm), Op.lookupswitch.offset_cons, if_neg (fun q => c10 q.symm)]; rfl) rfl ?_
  refine y_s (pc' := 329) (L' := [some (vR (some 94)), some (vI l1), some (vI l2), some (vI l3), some (vI l4), some (vI l5), some (vI (zw (l4 + 1)))]) (st' := [vI 0]) (h' := h) f110_328 rfl ?_
  exact y_ri f110_329 ⟨rfl, k⟩
theorem W110_147 {d : Nat} {K : Int → Hp → Prop} (w : yWF zl nl h) {l1 : Int} {l2 : Int} {l3 : Int} {l4 : Int} {l5 : Int} {l6 : Int} {s0 : Int} (k : K (zw (s0 - (zV h 94 4))) h) : ZW d prog_2_method_5_code 0 147 [some (vR (some 94)), some (vI l1), some (vI l2), some (vI l3), some (vI l4), some (vI l5), some (vI l6)] [vI s0] h (yq 1 (yqI K)) := by
  refine y_s (pc' := 148) (L' := [some (vR (some 94)), some (vI l1), some (vI l2), some (vI l3), some (vI l4), some (vI l5), some (vI l6)]) (st' := [vR (some 94), vI s0]) (h' := h) f110_147 rfl ?_
  refine y_gi (pc' := 151) f110_148 yf_0_31 rfl rfl (ys94 w) rfl ?_
  refine y_s (pc' := 152) (L' := [some (vR (some 94)), some (vI l1), some (vI l2), some (vI l3), some (vI l4), some (vI l5), some (vI l6)]) (st' := [vI (zw (s0 - (zV h 94 4)))]) (h' := h) f110_151 rfl ?_
  exact y_ri f110_152 ⟨rfl, k⟩
theorem W110_165 {d : Nat} {K : Int → Hp → Prop} (w : yWF zl nl h) {l1 : Int} {l2 : Int} {l3 : Int} {l4 : Int} {l5 : Int} {l6 : Int} {s0 : Int} (k : K (zw (s0 * 2)) h) : ZW d prog_2_method_5_code 0 165 [some (vR (some 94)), some (vI l1), some (vI l2), some (vI l3), some (vI l4), some (vI l5), some (vI l6)] [vI s0] h (yq 1 (yqI K)) := by
  refine y_s (pc' := 166) (L' := [some (vR (some 94)), some (vI l1), some (vI l2), some (vI l3), some (vI l4), some (vI l5), some (vI l6)]) (st' := [vI 2, vI s0]) (h' := h) f110_165 rfl ?_
  refine y_s (pc' := 167) (L' := [some (vR (some 94)), some (vI l1), some (vI l2), some (vI l3), some (vI l4), some (vI l5), some (vI l6)]) (st' := [vI (zw (s0 * 2))]) (h' := h) f110_166 rfl ?_
  exact y_ri f110_167 ⟨rfl, k⟩
theorem W110_181 {d : Nat} {K : Int → Hp → Prop} (w : yWF zl nl h) {l1 : Int} {l2 : Int} {l3 : Int} {l4 : Int} {l5 : Int} {l6 : Int} {s0 : Int} (k : K (zxor s0 6) h) : ZW d prog_2_method_5_code 0 181 [some (vR (some 94)), some (vI l1), some (vI l2), some (vI l3), some (vI l4), some (vI l5), some (vI l6)] [vI s0] h (yq 1 (yqI K)) := by
  refine y_s (pc' := 183) (L' := [some (vR (some 94)), some (vI l1), some (vI l2), some (vI l3), some (vI l4), some (vI l5), some (vI l6)]) (st' := [vI 6, vI s0]) (h' := h) f110_181 rfl ?_
  refine y_s (pc' := 184) (L' := [some (vR (some 94)), some (vI l1), some (vI l2), some (vI l3), some (vI l4), some (vI l5), some (vI l6)]) (st' := [vI (zxor s0 6)]) (h' := h) f110_183 rfl ?_
  exact y_ri f110_184 ⟨rfl, k⟩
theorem W110_200 {d : Nat} {K : Int → Hp → Prop} (w : yWF zl nl h) {l1 : Int} {l2 : Int} {l3 : Int} {l4 : Int} {l5 : Int} {l6 : Int} {s0 : Int} (k : K s0 h) : ZW d prog_2_method_5_code 0 200 [some (vR (some 94)), some (vI l1), some (vI l2), some (vI l3), some (vI l4), some (vI l5), some (vI l6)] [vI s0] h (yq 1 (yqI K)) := by
  exact y_ri f110_200 ⟨rfl, k⟩
theorem W110_214 {d : Nat} {K : Int → Hp → Prop} (w : yWF zl nl h) {l1 : Int} {l2 : Int} {l3 : Int} {l4 : Int} {l5 : Int} {l6 : Int} {s0 : Int} (hd : 1 ≤ d) (k : yI (d - 1) 110 [vR (some 94), vI (zV h 94 3), vI 1, vI 1, vI l6] h (fun x h' => ZW d prog_2_method_5_code 0 226 [some (vR (some 94)), some (vI l1), some (vI l2), some (vI l3), some (vI l4), some (vI l5), some (vI l6)] [vI x, vI s0] h' (yq 1 (yqI K)))) : ZW d prog_2_method_5_code 0 214 [some (vR (some 94)), some (vI l1), some (vI l2), some (vI l3), some (vI l4), some (vI l5), some (vI l6)] [vI s0] h (yq 1 (yqI K)) := by
  refine y_s (pc' := 215) (L' := [some (vR (some 94)), some (vI l1), some (vI l2), some (vI l3), some (vI l4), some (vI l5), some (vI l6)]) (st' := [vR (some 94), vI s0]) (h' := h) f110_214 rfl ?_
  refine y_s (pc' := 216) (L' := [some (vR (some 94)), some (vI l1), some (vI l2), some (vI l3), some (vI l4), some (vI l5), some (vI l6)]) (st' := [vR (some 94), vR (some 94), vI s0]) (h' := h) f110_215 rfl ?_
  refine y_gi (pc' := 219) f110_216 yf_0_28 rfl rfl (ys94 w) rfl ?_
  refine y_s (pc' := 220) (L' := [some (vR (some 94)), some (vI l1), some (vI l2), some (vI l3), some (vI l4), some (vI l5), some (vI l6)]) (st' := [vI 1, vI (zV h 94 3), vR (some 94), vI s0]) (h' := h) f110_219 rfl ?_
  refine y_s (pc' := 221) (L' := [some (vR (some 94)), some (vI l1), some (vI l2), some (vI l3), some (vI l4), some (vI l5), some (vI l6)]) (st' := [vI 1, vI 1, vI (zV h 94 3), vR (some 94), vI s0]) (h' := h) f110_220 rfl ?_
  refine y_s (pc' := 223) (L' := [some (vR (some 94)), some (vI l1), some (vI l2), some (vI l3), some (vI l4), some (vI l5), some (vI l6)]) (st' := [vI l6, vI 1, vI 1, vI (zV h 94 3), vR (some 94), vI s0]) (h' := h) f110_221 rfl ?_
  refine y_cI (pc' := 226) (as := [vR (some 94), vI (zV h 94 3), vI 1, vI 1, vI l6]) (r := [vI s0]) f110_223 (yzv ym_0_34 rfl (ys94 w) rfl rfl) (by omega) rfl ?_
  exact k
theorem W110_226 {d : Nat} {K : Int → Hp → Prop} (w : yWF zl nl h) {l1 : Int} {l2 : Int} {l3 : Int} {l4 : Int} {l5 : Int} {l6 : Int} {s0 : Int} {s1 : Int} (k : K (zw (s0 + s1)) h) : ZW d prog_2_method_5_code 0 226 [some (vR (some 94)), some (vI l1), some (vI l2), some (vI l3), some (vI l4), some (vI l5), some (vI l6)] [vI s1, vI s0] h (yq 1 (yqI K)) := by
  refine y_s (pc' := 227) (L' := [some (vR (some 94)), some (vI l1), some (vI l2), some (vI l3), some (vI l4), some (vI l5), some (vI l6)]) (st' := [vI (zw (s0 + s1))]) (h' := h) f110_226 rfl ?_
  exact y_ri f110_227 ⟨rfl, k⟩
theorem W110_241 {d : Nat} {K : Int → Hp → Prop} (w : yWF zl nl h) {l1 : Int} {l2 : Int} {l3 : Int} {l4 : Int} {l5 : Int} {l6 : Int} {s0 : Int} (k : K (zw (-s0)) h) : ZW d prog_2_method_5_code 0 241 [some (vR (some 94)), some (vI l1), some (vI l2), some (vI l3), some (vI l4), some (vI l5), some (vI l6)] [vI s0] h (yq 1 (yqI K)) := by
  refine y_s (pc' := 242) (L' := [some (vR (some 94)), some (vI l1), some (vI l2), some (vI l3), some (vI l4), some (vI l5), some (vI l6)]) (st' := [vI (zw (-s0))]) (h' := h) f110_241 rfl ?_
  exact y_ri f110_242 ⟨rfl, k⟩
theorem W110_258 {d : Nat} {K : Int → Hp → Prop} (w : yWF zl nl h) {l1 : Int} {l2 : Int} {l3 : Int} {l4 : Int} {l5 : Int} {l6 : Int} {s0 : Int} (k : K s0 h) : ZW d prog_2_method_5_code 0 258 [some (vR (some 94)), some (vI l1), some (vI l2), some (vI l3), some (vI l4), some (vI l5), some (vI l6)] [vI s0] h (yq 1 (yqI K)) := by
  exact y_ri f110_258 ⟨rfl, k⟩
theorem W110_277 {d : Nat} {K : Int → Hp → Prop} (w : yWF zl nl h) {l1 : Int} {l2 : Int} {l3 : Int} {l4 : Int} {l5 : Int} {l6 : Int} {s0 : Int} (k : K s0 h) : ZW d prog_2_method_5_code 0 277 [some (vR (some 94)), some (vI l1), some (vI l2), some (vI l3), some (vI l4), some (vI l5), some (vI l6)] [vI s0] h (yq 1 (yqI K)) := by
  exact y_ri f110_277 ⟨rfl, k⟩
theorem W110_292 {d : Nat} {K : Int → Hp → Prop} (w : yWF zl nl h) {l1 : Int} {l2 : Int} {l3 : Int} {l4 : Int} {l5 : Int} {l6 : Int} {s0 : Int} (hd : 1 ≤ d) (k : yI (d - 1) 110 [vR (some 94), vI (zV h 2 6), vI 0, vI 2, vI l6] h (fun x h' => ZW d prog_2_method_5_code 0 306 [some (vR (some 94)), some (vI l1), some (vI l2), some (vI l3), some (vI l4), some (vI l5), some (vI l6)] [vI x, vI s0] h' (yq 1 (yqI K)))) : ZW d prog_2_method_5_code 0 292 [some (vR (some 94)), some (vI l1), some (vI l2), some (vI l3), some (vI l4), some (vI l5), some (vI l6)] [vI s0] h (yq 1 (yqI K)) := by
  refine y_s (pc' := 293) (L' := [some (vR (some 94)), some (vI l1), some (vI l2), some (vI l3), some (vI l4), some (vI l5), some (vI l6)]) (st' := [vR (some 94), vI s0]) (h' := h) f110_292 rfl ?_
  refine y_s (pc' := 296) (L' := [some (vR (some 94)), some (vI l1), some (vI l2), some (vI l3), some (vI l4), some (vI l5), some (vI l6)]) (st' := [vR (some 2), vR (some 94), vI s0]) (h' := h) f110_293 rfl ?_
  refine y_s (pc' := 298) (L' := [some (vR (some 94)), some (vI l1), some (vI l2), some (vI l3), some (vI l4), some (vI l5), some (vI l6)]) (st' := [vI 6, vR (some 2), vR (some 94), vI s0]) (h' := h) f110_296 rfl ?_
  refine y_ia (pc' := 299) (x := (zV h 2 6)) f110_298 (ysb2 w) (by decide) rfl rfl ?_
  refine y_s (pc' := 300) (L' := [some (vR (some 94)), some (vI l1), some (vI l2), some (vI l3), some (vI l4), some (vI l5), some (vI l6)]) (st' := [vI 0, vI (zV h 2 6), vR (some 94), vI s0]) (h' := h) f110_299 rfl ?_
  refine y_s (pc' := 301) (L' := [some (vR (some 94)), some (vI l1), some (vI l2), some (vI l3), some (vI l4), some (vI l5), some (vI l6)]) (st' := [vI 2, vI 0, vI (zV h 2 6), vR (some 94), vI s0]) (h' := h) f110_300 rfl ?_
  refine y_s (pc' := 303) (L' := [some (vR (some 94)), some (vI l1), some (vI l2), some (vI l3), some (vI l4), some (vI l5), some (vI l6)]) (st' := [vI l6, vI 2, vI 0, vI (zV h 2 6), vR (some 94), vI s0]) (h' := h) f110_301 rfl ?_
  refine y_cI (pc' := 306) (as := [vR (some 94), vI (zV h 2 6), vI 0, vI 2, vI l6]) (r := [vI s0]) f110_303 (yzv ym_0_34 rfl (ys94 w) rfl rfl) (by omega) rfl ?_
  exact k
theorem W110_306 {d : Nat} {K : Int → Hp → Prop} (w : yWF zl nl h) {l1 : Int} {l2 : Int} {l3 : Int} {l4 : Int} {l5 : Int} {l6 : Int} {s0 : Int} {s1 : Int} (k : K (zw (s0 + s1)) h) : ZW d prog_2_method_5_code 0 306 [some (vR (some 94)), some (vI l1), some (vI l2), some (vI l3), some (vI l4), some (vI l5), some (vI l6)] [vI s1, vI s0] h (yq 1 (yqI K)) := by
  refine y_s (pc' := 307) (L' := [some (vR (some 94)), some (vI l1), some (vI l2), some (vI l3), some (vI l4), some (vI l5), some (vI l6)]) (st' := [vI (zw (s0 + s1))]) (h' := h) f110_306 rfl ?_
  exact y_ri f110_307 ⟨rfl, k⟩
theorem W110_322 {d : Nat} {K : Int → Hp → Prop} (w : yWF zl nl h) {l1 : Int} {l2 : Int} {l3 : Int} {l4 : Int} {l5 : Int} {l6 : Int} {s0 : Int} (k : K (zxor s0 (zV h 94 4)) h) : ZW d prog_2_method_5_code 0 322 [some (vR (some 94)), some (vI l1), some (vI l2), some (vI l3), some (vI l4), some (vI l5), some (vI l6)] [vI s0] h (yq 1 (yqI K)) := by
  refine y_s (pc' := 323) (L' := [some (vR (some 94)), some (vI l1), some (vI l2), some (vI l3), some (vI l4), some (vI l5), some (vI l6)]) (st' := [vR (some 94), vI s0]) (h' := h) f110_322 rfl ?_
  refine y_gi (pc' := 326) f110_323 yf_0_31 rfl rfl (ys94 w) rfl ?_
  refine y_s (pc' := 327) (L' := [some (vR (some 94)), some (vI l1), some (vI l2), some (vI l3), some (vI l4), some (vI l5), some (vI l6)]) (st' := [vI (zxor s0 (zV h 94 4))]) (h' := h) f110_326 rfl ?_
  exact y_ri f110_327 ⟨rfl, k⟩
/-- HatterTunes$Choir.keepIfBetter(I)V -/
theorem E87 {d : Nat} {K : Hp → Prop} (w : yWF zl nl h) {x0 : Int} (hd : 1 ≤ d) (k : ((x0 ≤ (zV h 96 5) → K h) ∧ (¬ (x0 ≤ (zV h 96 5)) → (∀ h_28, (zcpV (zsetV h 96 5 x0) 99 0 100 0 6) = h_28 → K h_28)))) : yU d 87 [vR (some 96), vI x0] h K := by
  refine y_en (L := [some (vR (some 96)), some (vI x0)]) rfl rfl ?_
  refine y_s (pc' := 1) (L' := [some (vR (some 96)), some (vI x0)]) (st' := [vI x0]) (h' := h) f87_0 rfl ?_
  refine y_s (pc' := 2) (L' := [some (vR (some 96)), some (vI x0)]) (st' := [vR (some 96), vI x0]) (h' := h) f87_1 rfl ?_
  refine y_gi (pc' := 5) f87_2 yf_1_34 rfl rfl (ys96 w) rfl ?_
  refine y_ic (pcT := 28) (pc' := 8) (P := x0 ≤ (zV h 96 5)) f87_5 rfl rfl rfl (fun c => ?_) (fun c => ?_)
  · replace k := k.1 c
    exact y_ru f87_28 ⟨rfl, k⟩
  · replace k := k.2 c
    refine y_s (pc' := 9) (L' := [some (vR (some 96)), some (vI x0)]) (st' := [vR (some 96)]) (h' := h) f87_8 rfl ?_
    refine y_s (pc' := 10) (L' := [some (vR (some 96)), some (vI x0)]) (st' := [vI x0, vR (some 96)]) (h' := h) f87_9 rfl ?_
    refine y_pi (pc' := 13) f87_10 yf_1_34 rfl rfl (ys96 w) (by decide) (Or.inl rfl) rfl ?_
    refine y_s (pc' := 14) (L' := [some (vR (some 96)), some (vI x0)]) (st' := [vR (some 96)]) (h' := (zsetV h 96 5 x0)) f87_13 rfl ?_
    refine y_gr (pc' := 17) f87_14 yf_1_18 rfl rfl (ys96 w) (yp96_2 w) rfl ?_
    refine y_s (pc' := 18) (L' := [some (vR (some 96)), some (vI x0)]) (st' := [vI 0, vR (some 99)]) (h' := (zsetV h 96 5 x0)) f87_17 rfl ?_
    refine y_s (pc' := 19) (L' := [some (vR (some 96)), some (vI x0)]) (st' := [vR (some 96), vI 0, vR (some 99)]) (h' := (zsetV h 96 5 x0)) f87_18 rfl ?_
    refine y_gr (pc' := 22) f87_19 yf_1_21 rfl rfl (ys96 w) (yp96_3 w) rfl ?_
    refine y_s (pc' := 23) (L' := [some (vR (some 96)), some (vI x0)]) (st' := [vI 0, vR (some 100), vI 0, vR (some 99)]) (h' := (zsetV h 96 5 x0)) f87_22 rfl ?_
    refine y_s (pc' := 25) (L' := [some (vR (some 96)), some (vI x0)]) (st' := [vI 6, vI 0, vR (some 100), vI 0, vR (some 99)]) (h' := (zsetV h 96 5 x0)) f87_23 rfl ?_
    refine y_cp (pc' := 28) (h' := (zcpV (zsetV h 96 5 x0) 99 0 100 0 6)) f87_25 ym_1_55 (by omega) rfl (ys99 w) (ys100 w) (by decide) (by decide) (by decide) rfl rfl ?_
    generalize e_28 : (zcpV (zsetV h 96 5 x0) 99 0 100 0 6) = h_28
    replace k := k _ e_28
    have w : yWF zl nl h_28 := by rw [← e_28]; exact w
    exact y_ru f87_28 ⟨rfl, k⟩
/-- HatterTunes$Choir.extend(III)V -/
theorem E86 {d : Nat} {K : Hp → Prop} (w : yWF zl nl h) {x0 : Int} {x1 : Int} {x2 : Int} (hd : 1 ≤ d) (k : ((x0 = 0 → yU (d - 1) 87 [vR (some 96), vI x2] h (fun h' => ZW d prog_3_method_4_code 1 15 [some (vR (some 96)), some (vI x0), some (vI x1), some (vI x2), none, none] [] h' (yq 0 (yqU K)))) ∧ (¬ (x0 = 0) → ((x1 < 6 → ZW d prog_3_method_4_code 1 19 [some (vR (some 96)), some (vI x0), some (vI x1), some (vI x2), some (vI 0), none] [] h (yq 0 (yqU K))) ∧ (¬ (x1 < 6) → yU (d - 1) 87 [vR (some 96), vI x2] h (fun h' => ZW d prog_3_method_4_code 1 15 [some (vR (some 96)), some (vI x0), some (vI x1), some (vI x2), none, none] [] h' (yq 0 (yqU K)))))))) : yU d 86 [vR (some 96), vI x0, vI x1, vI x2] h K := by
  refine y_en (L := [some (vR (some 96)), some (vI x0), some (vI x1), some (vI x2), none, none]) rfl rfl ?_
  refine y_s (pc' := 1) (L' := [some (vR (some 96)), some (vI x0), some (vI x1), some (vI x2), none, none]) (st' := [vI x0]) (h' := h) f86_0 rfl ?_
  refine y_if (pcT := 10) (pc' := 4) (P := x0 = 0) f86_1 rfl rfl rfl (fun c => ?_) (fun c => ?_)
  · replace k := k.1 c
    refine y_s (pc' := 11) (L' := [some (vR (some 96)), some (vI x0), some (vI x1), some (vI x2), none, none]) (st' := [vR (some 96)]) (h' := h) f86_10 rfl ?_
    refine y_s (pc' := 12) (L' := [some (vR (some 96)), some (vI x0), some (vI x1), some (vI x2), none, none]) (st' := [vI x2, vR (some 96)]) (h' := h) f86_11 rfl ?_
    refine y_cU (pc' := 15) (as := [vR (some 96), vI x2]) (r := []) f86_12 (yzv ym_1_51 rfl (ys96 w) rfl rfl) (by omega) rfl ?_
    exact k
  · replace k := k.2 c
    refine y_s (pc' := 5) (L' := [some (vR (some 96)), some (vI x0), some (vI x1), some (vI x2), none, none]) (st' := [vI x1]) (h' := h) f86_4 rfl ?_
    refine y_s (pc' := 7) (L' := [some (vR (some 96)), some (vI x0), some (vI x1), some (vI x2), none, none]) (st' := [vI 6, vI x1]) (h' := h) f86_5 rfl ?_
    refine y_ic (pcT := 16) (pc' := 10) (P := x1 < 6) f86_7 rfl rfl rfl (fun c => ?_) (fun c => ?_)
    · replace k := k.1 c
      refine y_s (pc' := 17) (L' := [some (vR (some 96)), some (vI x0), some (vI x1), some (vI x2), none, none]) (st' := [vI 0]) (h' := h) f86_16 rfl ?_
      refine y_sto (pc' := 19) (k := 4) (L' := [some (vR (some 96)), some (vI x0), some (vI x1), some (vI x2), some (vI 0), none]) f86_17 rfl rfl rfl rfl rfl rfl ?_
      exact k
    · replace k := k.2 c
      refine y_s (pc' := 11) (L' := [some (vR (some 96)), some (vI x0), some (vI x1), some (vI x2), none, none]) (st' := [vR (some 96)]) (h' := h) f86_10 rfl ?_
      refine y_s (pc' := 12) (L' := [some (vR (some 96)), some (vI x0), some (vI x1), some (vI x2), none, none]) (st' := [vI x2, vR (some 96)]) (h' := h) f86_11 rfl ?_
      refine y_cU (pc' := 15) (as := [vR (some 96), vI x2]) (r := []) f86_12 (yzv ym_1_51 rfl (ys96 w) rfl rfl) (by omega) rfl ?_
      exact k
theorem W86_15 {d : Nat} {K : Hp → Prop} (w : yWF zl nl h) {l1 : Int} {l2 : Int} {l3 : Int} (k : K h) : ZW d prog_3_method_4_code 1 15 [some (vR (some 96)), some (vI l1), some (vI l2), some (vI l3), none, none] [] h (yq 0 (yqU K)) := by
  exact y_ru f86_15 ⟨rfl, k⟩
theorem W86_19 {d : Nat} {K : Hp → Prop} (w : yWF zl nl h) {l1 : Int} {l2 : Int} {l3 : Int} {l4 : Int} {l5 : Option Int} (hd : 1 ≤ d) (k : ((6 ≤ l4 → K h) ∧ (¬ (6 ≤ l4) → (((zand (zshr l1 l4) 1) ≠ 1 → ZW d prog_3_method_4_code 1 19 [some (vR (some 96)), some (vI l1), some (vI l2), some (vI l3), some (vI (zw (l4 + 1))), yo l5] [] h (yq 0 (yqU K))) ∧ (¬ ((zand (zshr l1 l4) 1) ≠ 1) → ((0 ≤ l2 ∧ l2 < 6) ∧ ((l2 ≠ 0 → ((0 ≤ (zw (l2 - 1)) ∧ (zw (l2 - 1)) < 6) ∧ ((0 ≤ (zw ((zw ((zV (zsetV h 99 (l2).toNat l4) 99 ((zw (l2 - 1))).toNat) * 6)) + l4)) ∧ (zw ((zw ((zV (zsetV h 99 (l2).toNat l4) 99 ((zw (l2 - 1))).toNat) * 6)) + l4)) < 36) ∧ yU (d - 1) 86 [vR (some 96), vI (zand l1 (zxor (zshl 1 l4) (-1))), vI (zw (l2 + 1)), vI (zw (l3 + (zV (zsetV h 99 (l2).toNat l4) 97 ((zw ((zw ((zV (zsetV h 99 (l2).toNat l4) 99 ((zw (l2 - 1))).toNat) * 6)) + l4))).toNat)))] (zsetV h 99 (l2).toNat l4) (fun h' => ZW d prog_3_method_4_code 1 92 [some (vR (some 96)), some (vI l1), some (vI l2), some (vI l3), some (vI l4), some (vI (zV (zsetV h 99 (l2).toNat l4) 97 ((zw ((zw ((zV (zsetV h 99 (l2).toNat l4) 99 ((zw (l2 - 1))).toNat) * 6)) + l4))).toNat))] [] h' (yq 0 (yqU K)))))) ∧ (¬ (l2 ≠ 0) → yU (d - 1) 86 [vR (some 96), vI (zand l1 (zxor (zshl 1 l4) (-1))), vI (zw (l2 + 1)), vI (zw (l3 + 0))] (zsetV h 99 (l2).toNat l4) (fun h' => ZW d prog_3_method_4_code 1 92 [some (vR (some 96)), some (vI l1), some (vI l2), some (vI l3), some (vI l4), some (vI 0)] [] h' (yq 0 (yqU K))))))))))) : ZW d prog_3_method_4_code 1 19 [some (vR (some 96)), some (vI l1), some (vI l2), some (vI l3), some (vI l4), yo l5] [] h (yq 0 (yqU K)) := by
  refine y_s (pc' := 21) (L' := [some (vR (some 96)), some (vI l1), some (vI l2), some (vI l3), some (vI l4), yo l5]) (st' := [vI l4]) (h' := h) f86_19 rfl ?_
  refine y_s (pc' := 23) (L' := [some (vR (some 96)), some (vI l1), some (vI l2), some (vI l3), some (vI l4), yo l5]) (st' := [vI 6, vI l4]) (h' := h) f86_21 rfl ?_
  refine y_ic (pcT := 98) (pc' := 26) (P := 6 ≤ l4) f86_23 rfl rfl rfl (fun c => ?_) (fun c => ?_)
  · replace k := k.1 c
    exact y_ru f86_98 ⟨rfl, k⟩
  · replace k := k.2 c
    refine y_s (pc' := 27) (L' := [some (vR (some 96)), some (vI l1), some (vI l2), some (vI l3), some (vI l4), yo l5]) (st' := [vI l1]) (h' := h) f86_26 rfl ?_
    refine y_s (pc' := 29) (L' := [some (vR (some 96)), some (vI l1), some (vI l2), some (vI l3), some (vI l4), yo l5]) (st' := [vI l4, vI l1]) (h' := h) f86_27 rfl ?_
    refine y_s (pc' := 30) (L' := [some (vR (some 96)), some (vI l1), some (vI l2), some (vI l3), some (vI l4), yo l5]) (st' := [vI (zshr l1 l4)]) (h' := h) f86_29 rfl ?_
    refine y_s (pc' := 31) (L' := [some (vR (some 96)), some (vI l1), some (vI l2), some (vI l3), some (vI l4), yo l5]) (st' := [vI 1, vI (zshr l1 l4)]) (h' := h) f86_30 rfl ?_
    refine y_s (pc' := 32) (L' := [some (vR (some 96)), some (vI l1), some (vI l2), some (vI l3), some (vI l4), yo l5]) (st' := [vI (zand (zshr l1 l4) 1)]) (h' := h) f86_31 rfl ?_
    refine y_s (pc' := 33) (L' := [some (vR (some 96)), some (vI l1), some (vI l2), some (vI l3), some (vI l4), yo l5]) (st' := [vI 1, vI (zand (zshr l1 l4) 1)]) (h' := h) f86_32 rfl ?_
    refine y_ic (pcT := 92) (pc' := 36) (P := (zand (zshr l1 l4) 1) ≠ 1) f86_33 rfl rfl rfl (fun c => ?_) (fun c => ?_)
    · replace k := k.1 c
      refine y_inc (pc' := 95) (L' := [some (vR (some 96)), some (vI l1), some (vI l2), some (vI l3), some (vI (zw (l4 + 1))), yo l5]) f86_92 rfl rfl rfl rfl ?_
      refine y_go (pc' := 19) f86_95 rfl ?_
      exact k
    · replace k := k.2 c
      refine y_s (pc' := 37) (L' := [some (vR (some 96)), some (vI l1), some (vI l2), some (vI l3), some (vI l4), yo l5]) (st' := [vR (some 96)]) (h' := h) f86_36 rfl ?_
      refine y_gr (pc' := 40) f86_37 yf_1_18 rfl rfl (ys96 w) (yp96_2 w) rfl ?_
      refine y_s (pc' := 41) (L' := [some (vR (some 96)), some (vI l1), some (vI l2), some (vI l3), some (vI l4), yo l5]) (st' := [vI l2, vR (some 99)]) (h' := h) f86_40 rfl ?_
      refine y_s (pc' := 43) (L' := [some (vR (some 96)), some (vI l1), some (vI l2), some (vI l3), some (vI l4), yo l5]) (st' := [vI l4, vI l2, vR (some 99)]) (h' := h) f86_41 rfl ?_
      refine y_is (pc' := 44) (h' := (zsetV h 99 (l2).toNat l4)) f86_43 (ys99 w) (by decide) k.1 rfl rfl ?_
      replace k := k.2
      refine y_s (pc' := 45) (L' := [some (vR (some 96)), some (vI l1), some (vI l2), some (vI l3), some (vI l4), yo l5]) (st' := [vI l2]) (h' := (zsetV h 99 (l2).toNat l4)) f86_44 rfl ?_
      refine y_if (pcT := 52) (pc' := 48) (P := l2 ≠ 0) f86_45 rfl rfl rfl (fun c => ?_) (fun c => ?_)
      · replace k := k.1 c
        refine y_s (pc' := 53) (L' := [some (vR (some 96)), some (vI l1), some (vI l2), some (vI l3), some (vI l4), yo l5]) (st' := [vR (some 96)]) (h' := (zsetV h 99 (l2).toNat l4)) f86_52 rfl ?_
        refine y_gr (pc' := 56) f86_53 yf_1_9 rfl rfl (ys96 w) (yp96_0 w) rfl ?_
        refine y_s (pc' := 57) (L' := [some (vR (some 96)), some (vI l1), some (vI l2), some (vI l3), some (vI l4), yo l5]) (st' := [vR (some 96), vR (some 97)]) (h' := (zsetV h 99 (l2).toNat l4)) f86_56 rfl ?_
        refine y_gr (pc' := 60) f86_57 yf_1_18 rfl rfl (ys96 w) (yp96_2 w) rfl ?_
        refine y_s (pc' := 61) (L' := [some (vR (some 96)), some (vI l1), some (vI l2), some (vI l3), some (vI l4), yo l5]) (st' := [vI l2, vR (some 99), vR (some 97)]) (h' := (zsetV h 99 (l2).toNat l4)) f86_60 rfl ?_
        refine y_s (pc' := 62) (L' := [some (vR (some 96)), some (vI l1), some (vI l2), some (vI l3), some (vI l4), yo l5]) (st' := [vI 1, vI l2, vR (some 99), vR (some 97)]) (h' := (zsetV h 99 (l2).toNat l4)) f86_61 rfl ?_
        refine y_s (pc' := 63) (L' := [some (vR (some 96)), some (vI l1), some (vI l2), some (vI l3), some (vI l4), yo l5]) (st' := [vI (zw (l2 - 1)), vR (some 99), vR (some 97)]) (h' := (zsetV h 99 (l2).toNat l4)) f86_62 rfl ?_
        refine y_ia (pc' := 64) (x := (zV (zsetV h 99 (l2).toNat l4) 99 ((zw (l2 - 1))).toNat)) f86_63 (ys99 w) k.1 rfl rfl ?_
        replace k := k.2
        refine y_s (pc' := 66) (L' := [some (vR (some 96)), some (vI l1), some (vI l2), some (vI l3), some (vI l4), yo l5]) (st' := [vI 6, vI (zV (zsetV h 99 (l2).toNat l4) 99 ((zw (l2 - 1))).toNat), vR (some 97)]) (h' := (zsetV h 99 (l2).toNat l4)) f86_64 rfl ?_
        refine y_s (pc' := 67) (L' := [some (vR (some 96)), some (vI l1), some (vI l2), some (vI l3), some (vI l4), yo l5]) (st' := [vI (zw ((zV (zsetV h 99 (l2).toNat l4) 99 ((zw (l2 - 1))).toNat) * 6)), vR (some 97)]) (h' := (zsetV h 99 (l2).toNat l4)) f86_66 rfl ?_
        refine y_s (pc' := 69) (L' := [some (vR (some 96)), some (vI l1), some (vI l2), some (vI l3), some (vI l4), yo l5]) (st' := [vI l4, vI (zw ((zV (zsetV h 99 (l2).toNat l4) 99 ((zw (l2 - 1))).toNat) * 6)), vR (some 97)]) (h' := (zsetV h 99 (l2).toNat l4)) f86_67 rfl ?_
        refine y_s (pc' := 70) (L' := [some (vR (some 96)), some (vI l1), some (vI l2), some (vI l3), some (vI l4), yo l5]) (st' := [vI (zw ((zw ((zV (zsetV h 99 (l2).toNat l4) 99 ((zw (l2 - 1))).toNat) * 6)) + l4)), vR (some 97)]) (h' := (zsetV h 99 (l2).toNat l4)) f86_69 rfl ?_
        refine y_ia (pc' := 71) (x := (zV (zsetV h 99 (l2).toNat l4) 97 ((zw ((zw ((zV (zsetV h 99 (l2).toNat l4) 99 ((zw (l2 - 1))).toNat) * 6)) + l4))).toNat)) f86_70 (ys97 w) k.1 rfl rfl ?_
        replace k := k.2
        refine y_sto (pc' := 73) (k := 5) (L' := [some (vR (some 96)), some (vI l1), some (vI l2), some (vI l3), some (vI l4), some (vI (zV (zsetV h 99 (l2).toNat l4) 97 ((zw ((zw ((zV (zsetV h 99 (l2).toNat l4) 99 ((zw (l2 - 1))).toNat) * 6)) + l4))).toNat))]) f86_71 rfl rfl rfl rfl rfl rfl ?_
        refine y_s (pc' := 74) (L' := [some (vR (some 96)), some (vI l1), some (vI l2), some (vI l3), some (vI l4), some (vI (zV (zsetV h 99 (l2).toNat l4) 97 ((zw ((zw ((zV (zsetV h 99 (l2).toNat l4) 99 ((zw (l2 - 1))).toNat) * 6)) + l4))).toNat))]) (st' := [vR (some 96)]) (h' := (zsetV h 99 (l2).toNat l4)) f86_73 rfl ?_
        refine y_s (pc' := 75) (L' := [some (vR (some 96)), some (vI l1), some (vI l2), some (vI l3), some (vI l4), some (vI (zV (zsetV h 99 (l2).toNat l4) 97 ((zw ((zw ((zV (zsetV h 99 (l2).toNat l4) 99 ((zw (l2 - 1))).toNat) * 6)) + l4))).toNat))]) (st' := [vI l1, vR (some 96)]) (h' := (zsetV h 99 (l2).toNat l4)) f86_74 rfl ?_
        refine y_s (pc' := 76) (L' := [some (vR (some 96)), some (vI l1), some (vI l2), some (vI l3), some (vI l4), some (vI (zV (zsetV h 99 (l2).toNat l4) 97 ((zw ((zw ((zV (zsetV h 99 (l2).toNat l4) 99 ((zw (l2 - 1))).toNat) * 6)) + l4))).toNat))]) (st' := [vI 1, vI l1, vR (some 96)]) (h' := (zsetV h 99 (l2).toNat l4)) f86_75 rfl ?_
        refine y_s (pc' := 78) (L' := [some (vR (some 96)), some (vI l1), some (vI l2), some (vI l3), some (vI l4), some (vI (zV (zsetV h 99 (l2).toNat l4) 97 ((zw ((zw ((zV (zsetV h 99 (l2).toNat l4) 99 ((zw (l2 - 1))).toNat) * 6)) + l4))).toNat))]) (st' := [vI l4, vI 1, vI l1, vR (some 96)]) (h' := (zsetV h 99 (l2).toNat l4)) f86_76 rfl ?_
        refine y_s (pc' := 79) (L' := [some (vR (some 96)), some (vI l1), some (vI l2), some (vI l3), some (vI l4), some (vI (zV (zsetV h 99 (l2).toNat l4) 97 ((zw ((zw ((zV (zsetV h 99 (l2).toNat l4) 99 ((zw (l2 - 1))).toNat) * 6)) + l4))).toNat))]) (st' := [vI (zshl 1 l4), vI l1, vR (some 96)]) (h' := (zsetV h 99 (l2).toNat l4)) f86_78 rfl ?_
        refine y_s (pc' := 80) (L' := [some (vR (some 96)), some (vI l1), some (vI l2), some (vI l3), some (vI l4), some (vI (zV (zsetV h 99 (l2).toNat l4) 97 ((zw ((zw ((zV (zsetV h 99 (l2).toNat l4) 99 ((zw (l2 - 1))).toNat) * 6)) + l4))).toNat))]) (st' := [vI (-1), vI (zshl 1 l4), vI l1, vR (some 96)]) (h' := (zsetV h 99 (l2).toNat l4)) f86_79 rfl ?_
        refine y_s (pc' := 81) (L' := [some (vR (some 96)), some (vI l1), some (vI l2), some (vI l3), some (vI l4), some (vI (zV (zsetV h 99 (l2).toNat l4) 97 ((zw ((zw ((zV (zsetV h 99 (l2).toNat l4) 99 ((zw (l2 - 1))).toNat) * 6)) + l4))).toNat))]) (st' := [vI (zxor (zshl 1 l4) (-1)), vI l1, vR (some 96)]) (h' := (zsetV h 99 (l2).toNat l4)) f86_80 rfl ?_
        refine y_s (pc' := 82) (L' := [some (vR (some 96)), some (vI l1), some (vI l2), some (vI l3), some (vI l4), some (vI (zV (zsetV h 99 (l2).toNat l4) 97 ((zw ((zw ((zV (zsetV h 99 (l2).toNat l4) 99 ((zw (l2 - 1))).toNat) * 6)) + l4))).toNat))]) (st' := [vI (zand l1 (zxor (zshl 1 l4) (-1))), vR (some 96)]) (h' := (zsetV h 99 (l2).toNat l4)) f86_81 rfl ?_
        refine y_s (pc' := 83) (L' := [some (vR (some 96)), some (vI l1), some (vI l2), some (vI l3), some (vI l4), some (vI (zV (zsetV h 99 (l2).toNat l4) 97 ((zw ((zw ((zV (zsetV h 99 (l2).toNat l4) 99 ((zw (l2 - 1))).toNat) * 6)) + l4))).toNat))]) (st' := [vI l2, vI (zand l1 (zxor (zshl 1 l4) (-1))), vR (some 96)]) (h' := (zsetV h 99 (l2).toNat l4)) f86_82 rfl ?_
        refine y_s (pc' := 84) (L' := [some (vR (some 96)), some (vI l1), some (vI l2), some (vI l3), some (vI l4), some (vI (zV (zsetV h 99 (l2).toNat l4) 97 ((zw ((zw ((zV (zsetV h 99 (l2).toNat l4) 99 ((zw (l2 - 1))).toNat) * 6)) + l4))).toNat))]) (st' := [vI 1, vI l2, vI (zand l1 (zxor (zshl 1 l4) (-1))), vR (some 96)]) (h' := (zsetV h 99 (l2).toNat l4)) f86_83 rfl ?_
        refine y_s (pc' := 85) (L' := [some (vR (some 96)), some (vI l1), some (vI l2), some (vI l3), some (vI l4), some (vI (zV (zsetV h 99 (l2).toNat l4) 97 ((zw ((zw ((zV (zsetV h 99 (l2).toNat l4) 99 ((zw (l2 - 1))).toNat) * 6)) + l4))).toNat))]) (st' := [vI (zw (l2 + 1)), vI (zand l1 (zxor (zshl 1 l4) (-1))), vR (some 96)]) (h' := (zsetV h 99 (l2).toNat l4)) f86_84 rfl ?_
        refine y_s (pc' := 86) (L' := [some (vR (some 96)), some (vI l1), some (vI l2), some (vI l3), some (vI l4), some (vI (zV (zsetV h 99 (l2).toNat l4) 97 ((zw ((zw ((zV (zsetV h 99 (l2).toNat l4) 99 ((zw (l2 - 1))).toNat) * 6)) + l4))).toNat))]) (st' := [vI l3, vI (zw (l2 + 1)), vI (zand l1 (zxor (zshl 1 l4) (-1))), vR (some 96)]) (h' := (zsetV h 99 (l2).toNat l4)) f86_85 rfl ?_
        refine y_s (pc' := 88) (L' := [some (vR (some 96)), some (vI l1), some (vI l2), some (vI l3), some (vI l4), some (vI (zV (zsetV h 99 (l2).toNat l4) 97 ((zw ((zw ((zV (zsetV h 99 (l2).toNat l4) 99 ((zw (l2 - 1))).toNat) * 6)) + l4))).toNat))]) (st' := [vI (zV (zsetV h 99 (l2).toNat l4) 97 ((zw ((zw ((zV (zsetV h 99 (l2).toNat l4) 99 ((zw (l2 - 1))).toNat) * 6)) + l4))).toNat), vI l3, vI (zw (l2 + 1)), vI (zand l1 (zxor (zshl 1 l4) (-1))), vR (some 96)]) (h' := (zsetV h 99 (l2).toNat l4)) f86_86 rfl ?_
        refine y_s (pc' := 89) (L' := [some (vR (some 96)), some (vI l1), some (vI l2), some (vI l3), some (vI l4), some (vI (zV (zsetV h 99 (l2).toNat l4) 97 ((zw ((zw ((zV (zsetV h 99 (l2).toNat l4) 99 ((zw (l2 - 1))).toNat) * 6)) + l4))).toNat))]) (st' := [vI (zw (l3 + (zV (zsetV h 99 (l2).toNat l4) 97 ((zw ((zw ((zV (zsetV h 99 (l2).toNat l4) 99 ((zw (l2 - 1))).toNat) * 6)) + l4))).toNat))), vI (zw (l2 + 1)), vI (zand l1 (zxor (zshl 1 l4) (-1))), vR (some 96)]) (h' := (zsetV h 99 (l2).toNat l4)) f86_88 rfl ?_
        refine y_cU (pc' := 92) (as := [vR (some 96), vI (zand l1 (zxor (zshl 1 l4) (-1))), vI (zw (l2 + 1)), vI (zw (l3 + (zV (zsetV h 99 (l2).toNat l4) 97 ((zw ((zw ((zV (zsetV h 99 (l2).toNat l4) 99 ((zw (l2 - 1))).toNat) * 6)) + l4))).toNat)))]) (r := []) f86_89 (yzv ym_1_47 rfl (ys96 w) rfl rfl) (by omega) rfl ?_
        exact k
      · replace k := k.2 c
        refine y_s (pc' := 49) (L' := [some (vR (some 96)), some (vI l1), some (vI l2), some (vI l3), some (vI l4), yo l5]) (st' := [vI 0]) (h' := (zsetV h 99 (l2).toNat l4)) f86_48 rfl ?_
        refine y_go (pc' := 71) f86_49 rfl ?_
        refine y_sto (pc' := 73) (k := 5) (L' := [some (vR (some 96)), some (vI l1), some (vI l2), some (vI l3), some (vI l4), some (vI 0)]) f86_71 rfl rfl rfl rfl rfl rfl ?_
        refine y_s (pc' := 74) (L' := [some (vR (some 96)), some (vI l1), some (vI l2), some (vI l3), some (vI l4), some (vI 0)]) (st' := [vR (some 96)]) (h' := (zsetV h 99 (l2).toNat l4)) f86_73 rfl ?_
        refine y_s (pc' := 75) (L' := [some (vR (some 96)), some (vI l1), some (vI l2), some (vI l3), some (vI l4), some (vI 0)]) (st' := [vI l1, vR (some 96)]) (h' := (zsetV h 99 (l2).toNat l4)) f86_74 rfl ?_
        refine y_s (pc' := 76) (L' := [some (vR (some 96)), some (vI l1), some (vI l2), some (vI l3), some (vI l4), some (vI 0)]) (st' := [vI 1, vI l1, vR (some 96)]) (h' := (zsetV h 99 (l2).toNat l4)) f86_75 rfl ?_
        refine y_s (pc' := 78) (L' := [some (vR (some 96)), some (vI l1), some (vI l2), some (vI l3), some (vI l4), some (vI 0)]) (st' := [vI l4, vI 1, vI l1, vR (some 96)]) (h' := (zsetV h 99 (l2).toNat l4)) f86_76 rfl ?_
        refine y_s (pc' := 79) (L' := [some (vR (some 96)), some (vI l1), some (vI l2), some (vI l3), some (vI l4), some (vI 0)]) (st' := [vI (zshl 1 l4), vI l1, vR (some 96)]) (h' := (zsetV h 99 (l2).toNat l4)) f86_78 rfl ?_
        refine y_s (pc' := 80) (L' := [some (vR (some 96)), some (vI l1), some (vI l2), some (vI l3), some (vI l4), some (vI 0)]) (st' := [vI (-1), vI (zshl 1 l4), vI l1, vR (some 96)]) (h' := (zsetV h 99 (l2).toNat l4)) f86_79 rfl ?_
        refine y_s (pc' := 81) (L' := [some (vR (some 96)), some (vI l1), some (vI l2), some (vI l3), some (vI l4), some (vI 0)]) (st' := [vI (zxor (zshl 1 l4) (-1)), vI l1, vR (some 96)]) (h' := (zsetV h 99 (l2).toNat l4)) f86_80 rfl ?_
        refine y_s (pc' := 82) (L' := [some (vR (some 96)), some (vI l1), some (vI l2), some (vI l3), some (vI l4), some (vI 0)]) (st' := [vI (zand l1 (zxor (zshl 1 l4) (-1))), vR (some 96)]) (h' := (zsetV h 99 (l2).toNat l4)) f86_81 rfl ?_
        refine y_s (pc' := 83) (L' := [some (vR (some 96)), some (vI l1), some (vI l2), some (vI l3), some (vI l4), some (vI 0)]) (st' := [vI l2, vI (zand l1 (zxor (zshl 1 l4) (-1))), vR (some 96)]) (h' := (zsetV h 99 (l2).toNat l4)) f86_82 rfl ?_
        refine y_s (pc' := 84) (L' := [some (vR (some 96)), some (vI l1), some (vI l2), some (vI l3), some (vI l4), some (vI 0)]) (st' := [vI 1, vI l2, vI (zand l1 (zxor (zshl 1 l4) (-1))), vR (some 96)]) (h' := (zsetV h 99 (l2).toNat l4)) f86_83 rfl ?_
        refine y_s (pc' := 85) (L' := [some (vR (some 96)), some (vI l1), some (vI l2), some (vI l3), some (vI l4), some (vI 0)]) (st' := [vI (zw (l2 + 1)), vI (zand l1 (zxor (zshl 1 l4) (-1))), vR (some 96)]) (h' := (zsetV h 99 (l2).toNat l4)) f86_84 rfl ?_
        refine y_s (pc' := 86) (L' := [some (vR (some 96)), some (vI l1), some (vI l2), some (vI l3), some (vI l4), some (vI 0)]) (st' := [vI l3, vI (zw (l2 + 1)), vI (zand l1 (zxor (zshl 1 l4) (-1))), vR (some 96)]) (h' := (zsetV h 99 (l2).toNat l4)) f86_85 rfl ?_
        refine y_s (pc' := 88) (L' := [some (vR (some 96)), some (vI l1), some (vI l2), some (vI l3), some (vI l4), some (vI 0)]) (st' := [vI 0, vI l3, vI (zw (l2 + 1)), vI (zand l1 (zxor (zshl 1 l4) (-1))), vR (some 96)]) (h' := (zsetV h 99 (l2).toNat l4)) f86_86 rfl ?_
        refine y_s (pc' := 89) (L' := [some (vR (some 96)), some (vI l1), some (vI l2), some (vI l3), some (vI l4), some (vI 0)]) (st' := [vI (zw (l3 + 0)), vI (zw (l2 + 1)), vI (zand l1 (zxor (zshl 1 l4) (-1))), vR (some 96)]) (h' := (zsetV h 99 (l2).toNat l4)) f86_88 rfl ?_
        refine y_cU (pc' := 92) (as := [vR (some 96), vI (zand l1 (zxor (zshl 1 l4) (-1))), vI (zw (l2 + 1)), vI (zw (l3 + 0))]) (r := []) f86_89 (yzv ym_1_47 rfl (ys96 w) rfl rfl) (by omega) rfl ?_
        exact k
theorem W86_92 {d : Nat} {K : Hp → Prop} (w : yWF zl nl h) {l1 : Int} {l2 : Int} {l3 : Int} {l4 : Int} {l5 : Int} (k : ZW d prog_3_method_4_code 1 19 [some (vR (some 96)), some (vI l1), some (vI l2), some (vI l3), some (vI (zw (l4 + 1))), some (vI l5)] [] h (yq 0 (yqU K))) : ZW d prog_3_method_4_code 1 92 [some (vR (some 96)), some (vI l1), some (vI l2), some (vI l3), some (vI l4), some (vI l5)] [] h (yq 0 (yqU K)) := by
  refine y_inc (pc' := 95) (L' := [some (vR (some 96)), some (vI l1), some (vI l2), some (vI l3), some (vI (zw (l4 + 1))), some (vI l5)]) f86_92 rfl rfl rfl rfl ?_
  refine y_go (pc' := 19) f86_95 rfl ?_
  exact k
/-- HatterTunes$Choir.seek(LHatterTunes$House;I)V -/
theorem E84 {d : Nat} {K : Hp → Prop} (w : yWF zl nl h) {b : Nat} (hb : yHs b) {x1 : Int} (hd : 1 ≤ d) (k : yI (d - 1) 85 [vI x1] h (fun x h' => ZW d prog_3_method_2_code 1 5 [some (vR (some 96)), some (vR (some b)), some (vI x1), none, none] [vI x, vR (some 96)] h' (yq 0 (yqU K)))) : yU d 84 [vR (some 96), vR (some b), vI x1] h K := by
  refine y_en (L := [some (vR (some 96)), some (vR (some b)), some (vI x1), none, none]) rfl rfl ?_
  refine y_s (pc' := 1) (L' := [some (vR (some 96)), some (vR (some b)), some (vI x1), none, none]) (st' := [vR (some 96)]) (h' := h) f84_0 rfl ?_
  refine y_s (pc' := 2) (L' := [some (vR (some 96)), some (vR (some b)), some (vI x1), none, none]) (st' := [vI x1, vR (some 96)]) (h' := h) f84_1 rfl ?_
  refine y_cI (pc' := 5) (as := [vI x1]) (r := [vR (some 96)]) f84_2 rfl (by omega) rfl ?_
  exact k
theorem W84_5 {d : Nat} {K : Hp → Prop} (w : yWF zl nl h) {b : Nat} (hb : yHs b) {l2 : Int} {s1 : Int} (k : (∀ h_13, (zsetV (zsetV h 96 4 s1) 96 5 (-1)) = h_13 → ZW d prog_3_method_2_code 1 15 [some (vR (some 96)), some (vR (some b)), some (vI l2), some (vI 0), none] [] h_13 (yq 0 (yqU K)))) : ZW d prog_3_method_2_code 1 5 [some (vR (some 96)), some (vR (some b)), some (vI l2), none, none] [vI s1, vR (some 96)] h (yq 0 (yqU K)) := by
  refine y_pi (pc' := 8) f84_5 yf_1_30 rfl rfl (ys96 w) (by decide) (Or.inl rfl) rfl ?_
  refine y_s (pc' := 9) (L' := [some (vR (some 96)), some (vR (some b)), some (vI l2), none, none]) (st' := [vR (some 96)]) (h' := (zsetV h 96 4 s1)) f84_8 rfl ?_
  refine y_s (pc' := 10) (L' := [some (vR (some 96)), some (vR (some b)), some (vI l2), none, none]) (st' := [vI (-1), vR (some 96)]) (h' := (zsetV h 96 4 s1)) f84_9 rfl ?_
  refine y_pi (pc' := 13) f84_10 yf_1_34 rfl rfl (ys96 w) (by decide) (Or.inl rfl) rfl ?_
  generalize e_13 : (zsetV (zsetV h 96 4 s1) 96 5 (-1)) = h_13
  replace k := k _ e_13
  have w : yWF zl nl h_13 := by rw [← e_13]; exact w
  refine y_s (pc' := 14) (L' := [some (vR (some 96)), some (vR (some b)), some (vI l2), none, none]) (st' := [vI 0]) (h' := h_13) f84_13 rfl ?_
  refine y_sto (pc' := 15) (k := 3) (L' := [some (vR (some 96)), some (vR (some b)), some (vI l2), some (vI 0), none]) f84_14 rfl rfl rfl rfl rfl rfl ?_
  exact k
theorem W84_15 {d : Nat} {K : Hp → Prop} (w : yWF zl nl h) {b : Nat} (hb : yHs b) {l2 : Int} {l3 : Int} (hd : 6 ≤ d) (k : (((zV h b 10) ≤ l3 → ZW d prog_3_method_2_code 1 42 [some (vR (some 96)), some (vR (some b)), some (vI l2), some (vI 0), none] [] h (yq 0 (yqU K))) ∧ (¬ ((zV h b 10) ≤ l3) → ((yHOk h b) ∧ (((0 : Int) ≤ l3 ∧ l3 < 6) ∧ (∀ h_33, ySm h h_33 → ((0 ≤ l3 ∧ l3 < 6) ∧ ZW d prog_3_method_2_code 1 15 [some (vR (some 96)), some (vR (some b)), some (vI l2), some (vI (zw (l3 + 1))), none] [] (zsetV h_33 98 (l3).toNat (ysound h b l3)) (yq 0 (yqU K))))))))) : ZW d prog_3_method_2_code 1 15 [some (vR (some 96)), some (vR (some b)), some (vI l2), some (vI l3), none] [] h (yq 0 (yqU K)) := by
  refine y_s (pc' := 16) (L' := [some (vR (some 96)), some (vR (some b)), some (vI l2), some (vI l3), none]) (st' := [vI l3]) (h' := h) f84_15 rfl ?_
  refine y_s (pc' := 17) (L' := [some (vR (some 96)), some (vR (some b)), some (vI l2), some (vI l3), none]) (st' := [vR (some b), vI l3]) (h' := h) f84_16 rfl ?_
  refine y_gi (pc' := 20) f84_17 yf_1_37 rfl rfl (ysH0 w hb) rfl ?_
  refine y_ic (pcT := 40) (pc' := 23) (P := (zV h b 10) ≤ l3) f84_20 rfl rfl rfl (fun c => ?_) (fun c => ?_)
  · replace k := k.1 c
    refine y_s (pc' := 41) (L' := [some (vR (some 96)), some (vR (some b)), some (vI l2), some (vI l3), none]) (st' := [vI 0]) (h' := h) f84_40 rfl ?_
    refine y_sto (pc' := 42) (k := 3) (L' := [some (vR (some 96)), some (vR (some b)), some (vI l2), some (vI 0), none]) f84_41 rfl rfl rfl rfl rfl rfl ?_
    exact k
  · replace k := k.2 c
    refine y_s (pc' := 24) (L' := [some (vR (some 96)), some (vR (some b)), some (vI l2), some (vI l3), none]) (st' := [vR (some 96)]) (h' := h) f84_23 rfl ?_
    refine y_gr (pc' := 27) f84_24 yf_1_15 rfl rfl (ys96 w) (yp96_1 w) rfl ?_
    refine y_s (pc' := 28) (L' := [some (vR (some 96)), some (vR (some b)), some (vI l2), some (vI l3), none]) (st' := [vI l3, vR (some 98)]) (h' := h) f84_27 rfl ?_
    refine y_s (pc' := 29) (L' := [some (vR (some 96)), some (vR (some b)), some (vI l2), some (vI l3), none]) (st' := [vR (some b), vI l3, vR (some 98)]) (h' := h) f84_28 rfl ?_
    refine y_s (pc' := 30) (L' := [some (vR (some 96)), some (vR (some b)), some (vI l2), some (vI l3), none]) (st' := [vI l3, vR (some b), vI l3, vR (some 98)]) (h' := h) f84_29 rfl ?_
    refine y_cI (pc' := 33) (as := [vR (some b), vI l3]) (r := [vI l3, vR (some 98)]) f84_30 (yzv ym_1_40 rfl (ysH0 w hb) rfl rfl) (by omega) rfl ?_
    have p0 := k.1
    replace k := k.2
    have p1 := k.1
    replace k := k.2
    refine sp16 w hb (by omega) p0 p1 (fun h_33 m_33 => ?_)
    replace k := k h_33 m_33
    have w := m_33.wf w
    refine y_is (pc' := 34) (h' := (zsetV h_33 98 (l3).toNat (ysound h b l3))) f84_33 (ys98 w) (by decide) k.1 rfl rfl ?_
    replace k := k.2
    refine y_inc (pc' := 37) (L' := [some (vR (some 96)), some (vR (some b)), some (vI l2), some (vI (zw (l3 + 1))), none]) f84_34 rfl rfl rfl rfl ?_
    refine y_go (pc' := 15) f84_37 rfl ?_
    exact k
theorem W84_42 {d : Nat} {K : Hp → Prop} (w : yWF zl nl h) {b : Nat} (hb : yHs b) {l2 : Int} {l3 : Int} {l4 : Option Int} (hd : 1 ≤ d) (k : (((zV h b 10) ≤ l3 → yU (d - 1) 86 [vR (some 96), vI l2, vI 0, vI 0] h (fun h' => ZW d prog_3_method_2_code 1 109 [some (vR (some 96)), some (vR (some b)), some (vI l2), some (vI l3), yo l4] [] h' (yq 0 (yqU K)))) ∧ (¬ ((zV h b 10) ≤ l3) → ZW d prog_3_method_2_code 1 53 [some (vR (some 96)), some (vR (some b)), some (vI l2), some (vI l3), some (vI 0)] [] h (yq 0 (yqU K))))) : ZW d prog_3_method_2_code 1 42 [some (vR (some 96)), some (vR (some b)), some (vI l2), some (vI l3), yo l4] [] h (yq 0 (yqU K)) := by
  refine y_s (pc' := 43) (L' := [some (vR (some 96)), some (vR (some b)), some (vI l2), some (vI l3), yo l4]) (st' := [vI l3]) (h' := h) f84_42 rfl ?_
  refine y_s (pc' := 44) (L' := [some (vR (some 96)), some (vR (some b)), some (vI l2), some (vI l3), yo l4]) (st' := [vR (some b), vI l3]) (h' := h) f84_43 rfl ?_
  refine y_gi (pc' := 47) f84_44 yf_1_37 rfl rfl (ysH0 w hb) rfl ?_
  refine y_ic (pcT := 102) (pc' := 50) (P := (zV h b 10) ≤ l3) f84_47 rfl rfl rfl (fun c => ?_) (fun c => ?_)
  · replace k := k.1 c
    refine y_s (pc' := 103) (L' := [some (vR (some 96)), some (vR (some b)), some (vI l2), some (vI l3), yo l4]) (st' := [vR (some 96)]) (h' := h) f84_102 rfl ?_
    refine y_s (pc' := 104) (L' := [some (vR (some 96)), some (vR (some b)), some (vI l2), some (vI l3), yo l4]) (st' := [vI l2, vR (some 96)]) (h' := h) f84_103 rfl ?_
    refine y_s (pc' := 105) (L' := [some (vR (some 96)), some (vR (some b)), some (vI l2), some (vI l3), yo l4]) (st' := [vI 0, vI l2, vR (some 96)]) (h' := h) f84_104 rfl ?_
    refine y_s (pc' := 106) (L' := [some (vR (some 96)), some (vR (some b)), some (vI l2), some (vI l3), yo l4]) (st' := [vI 0, vI 0, vI l2, vR (some 96)]) (h' := h) f84_105 rfl ?_
    refine y_cU (pc' := 109) (as := [vR (some 96), vI l2, vI 0, vI 0]) (r := []) f84_106 (yzv ym_1_47 rfl (ys96 w) rfl rfl) (by omega) rfl ?_
    exact k
  · replace k := k.2 c
    refine y_s (pc' := 51) (L' := [some (vR (some 96)), some (vR (some b)), some (vI l2), some (vI l3), yo l4]) (st' := [vI 0]) (h' := h) f84_50 rfl ?_
    refine y_sto (pc' := 53) (k := 4) (L' := [some (vR (some 96)), some (vR (some b)), some (vI l2), some (vI l3), some (vI 0)]) f84_51 rfl rfl rfl rfl rfl rfl ?_
    exact k
theorem W84_53 {d : Nat} {K : Hp → Prop} (w : yWF zl nl h) {b : Nat} (hb : yHs b) {l2 : Int} {l3 : Int} {l4 : Int} (hd : 1 ≤ d) (k : (((zV h b 10) ≤ l4 → ZW d prog_3_method_2_code 1 42 [some (vR (some 96)), some (vR (some b)), some (vI l2), some (vI (zw (l3 + 1))), some (vI l4)] [] h (yq 0 (yqU K))) ∧ (¬ ((zV h b 10) ≤ l4) → ((0 ≤ l3 ∧ l3 < 6) ∧ ((0 ≤ l4 ∧ l4 < 6) ∧ yI (d - 1) 82 [vI (zV h 98 (l3).toNat), vI (zV h 98 (l4).toNat)] h (fun x h' => ZW d prog_3_method_2_code 1 89 [some (vR (some 96)), some (vR (some b)), some (vI l2), some (vI l3), some (vI l4)] [vI x, vI (zw ((zw (l3 * 6)) + l4)), vR (some 97)] h' (yq 0 (yqU K)))))))) : ZW d prog_3_method_2_code 1 53 [some (vR (some 96)), some (vR (some b)), some (vI l2), some (vI l3), some (vI l4)] [] h (yq 0 (yqU K)) := by
  refine y_s (pc' := 55) (L' := [some (vR (some 96)), some (vR (some b)), some (vI l2), some (vI l3), some (vI l4)]) (st' := [vI l4]) (h' := h) f84_53 rfl ?_
  refine y_s (pc' := 56) (L' := [some (vR (some 96)), some (vR (some b)), some (vI l2), some (vI l3), some (vI l4)]) (st' := [vR (some b), vI l4]) (h' := h) f84_55 rfl ?_
  refine y_gi (pc' := 59) f84_56 yf_1_37 rfl rfl (ysH0 w hb) rfl ?_
  refine y_ic (pcT := 96) (pc' := 62) (P := (zV h b 10) ≤ l4) f84_59 rfl rfl rfl (fun c => ?_) (fun c => ?_)
  · replace k := k.1 c
    refine y_inc (pc' := 99) (L' := [some (vR (some 96)), some (vR (some b)), some (vI l2), some (vI (zw (l3 + 1))), some (vI l4)]) f84_96 rfl rfl rfl rfl ?_
    refine y_go (pc' := 42) f84_99 rfl ?_
    exact k
  · replace k := k.2 c
    refine y_s (pc' := 63) (L' := [some (vR (some 96)), some (vR (some b)), some (vI l2), some (vI l3), some (vI l4)]) (st' := [vR (some 96)]) (h' := h) f84_62 rfl ?_
    refine y_gr (pc' := 66) f84_63 yf_1_9 rfl rfl (ys96 w) (yp96_0 w) rfl ?_
    refine y_s (pc' := 67) (L' := [some (vR (some 96)), some (vR (some b)), some (vI l2), some (vI l3), some (vI l4)]) (st' := [vI l3, vR (some 97)]) (h' := h) f84_66 rfl ?_
    refine y_s (pc' := 69) (L' := [some (vR (some 96)), some (vR (some b)), some (vI l2), some (vI l3), some (vI l4)]) (st' := [vI 6, vI l3, vR (some 97)]) (h' := h) f84_67 rfl ?_
    refine y_s (pc' := 70) (L' := [some (vR (some 96)), some (vR (some b)), some (vI l2), some (vI l3), some (vI l4)]) (st' := [vI (zw (l3 * 6)), vR (some 97)]) (h' := h) f84_69 rfl ?_
    refine y_s (pc' := 72) (L' := [some (vR (some 96)), some (vR (some b)), some (vI l2), some (vI l3), some (vI l4)]) (st' := [vI l4, vI (zw (l3 * 6)), vR (some 97)]) (h' := h) f84_70 rfl ?_
    refine y_s (pc' := 73) (L' := [some (vR (some 96)), some (vR (some b)), some (vI l2), some (vI l3), some (vI l4)]) (st' := [vI (zw ((zw (l3 * 6)) + l4)), vR (some 97)]) (h' := h) f84_72 rfl ?_
    refine y_s (pc' := 74) (L' := [some (vR (some 96)), some (vR (some b)), some (vI l2), some (vI l3), some (vI l4)]) (st' := [vR (some 96), vI (zw ((zw (l3 * 6)) + l4)), vR (some 97)]) (h' := h) f84_73 rfl ?_
    refine y_gr (pc' := 77) f84_74 yf_1_15 rfl rfl (ys96 w) (yp96_1 w) rfl ?_
    refine y_s (pc' := 78) (L' := [some (vR (some 96)), some (vR (some b)), some (vI l2), some (vI l3), some (vI l4)]) (st' := [vI l3, vR (some 98), vI (zw ((zw (l3 * 6)) + l4)), vR (some 97)]) (h' := h) f84_77 rfl ?_
    refine y_ia (pc' := 79) (x := (zV h 98 (l3).toNat)) f84_78 (ys98 w) k.1 rfl rfl ?_
    replace k := k.2
    refine y_s (pc' := 80) (L' := [some (vR (some 96)), some (vR (some b)), some (vI l2), some (vI l3), some (vI l4)]) (st' := [vR (some 96), vI (zV h 98 (l3).toNat), vI (zw ((zw (l3 * 6)) + l4)), vR (some 97)]) (h' := h) f84_79 rfl ?_
    refine y_gr (pc' := 83) f84_80 yf_1_15 rfl rfl (ys96 w) (yp96_1 w) rfl ?_
    refine y_s (pc' := 85) (L' := [some (vR (some 96)), some (vR (some b)), some (vI l2), some (vI l3), some (vI l4)]) (st' := [vI l4, vR (some 98), vI (zV h 98 (l3).toNat), vI (zw ((zw (l3 * 6)) + l4)), vR (some 97)]) (h' := h) f84_83 rfl ?_
    refine y_ia (pc' := 86) (x := (zV h 98 (l4).toNat)) f84_85 (ys98 w) k.1 rfl rfl ?_
    replace k := k.2
    refine y_cI (pc' := 89) (as := [vI (zV h 98 (l3).toNat), vI (zV h 98 (l4).toNat)]) (r := [vI (zw ((zw (l3 * 6)) + l4)), vR (some 97)]) f84_86 rfl (by omega) rfl ?_
    exact k
theorem W84_89 {d : Nat} {K : Hp → Prop} (w : yWF zl nl h) {b : Nat} (hb : yHs b) {l2 : Int} {l3 : Int} {l4 : Int} {s1 : Int} {s2 : Int} (k : ((0 ≤ s1 ∧ s1 < 36) ∧ ZW d prog_3_method_2_code 1 53 [some (vR (some 96)), some (vR (some b)), some (vI l2), some (vI l3), some (vI (zw (l4 + 1)))] [] (zsetV h 97 (s1).toNat s2) (yq 0 (yqU K)))) : ZW d prog_3_method_2_code 1 89 [some (vR (some 96)), some (vR (some b)), some (vI l2), some (vI l3), some (vI l4)] [vI s2, vI s1, vR (some 97)] h (yq 0 (yqU K)) := by
  refine y_is (pc' := 90) (h' := (zsetV h 97 (s1).toNat s2)) f84_89 (ys97 w) (by decide) k.1 rfl rfl ?_
  replace k := k.2
  refine y_inc (pc' := 93) (L' := [some (vR (some 96)), some (vR (some b)), some (vI l2), some (vI l3), some (vI (zw (l4 + 1)))]) f84_90 rfl rfl rfl rfl ?_
  refine y_go (pc' := 53) f84_93 rfl ?_
  exact k
theorem W84_109 {d : Nat} {K : Hp → Prop} (w : yWF zl nl h) {b : Nat} (hb : yHs b) {l2 : Int} {l3 : Int} {l4 : Option Int} (k : K h) : ZW d prog_3_method_2_code 1 109 [some (vR (some 96)), some (vR (some b)), some (vI l2), some (vI l3), yo l4] [] h (yq 0 (yqU K)) := by
  exact y_ru f84_109 ⟨rfl, k⟩
/-- HatterTunes$Text.isBend(I)Z -/
theorem E64 {d : Nat} {K : Int → Hp → Prop} (w : yWF zl nl h) {x0 : Int} (hd : 1 ≤ d) (k : yI (d - 1) 65 [vR (some 90)] h (fun x h' => ZW d prog_8_method_6_code 6 4 [some (vR (some 90)), some (vI x0), none] [vI x] h' (yq 2 (yqI K)))) : yI d 64 [vR (some 90), vI x0] h K := by
  refine y_en (L := [some (vR (some 90)), some (vI x0), none]) rfl rfl ?_
  refine y_s (pc' := 1) (L' := [some (vR (some 90)), some (vI x0), none]) (st' := [vR (some 90)]) (h' := h) f64_0 rfl ?_
  refine y_cI (pc' := 4) (as := [vR (some 90)]) (r := []) f64_1 (yzv ym_6_59 rfl (ys90 w) rfl rfl) (by omega) rfl ?_
  exact k
theorem W64_4 {d : Nat} {K : Int → Hp → Prop} (w : yWF zl nl h) {l1 : Int} {s0 : Int} (hd : 1 ≤ d) (k : ((s0 ≠ 0 → yI (d - 1) 63 [vR (some 90), vI 32] h (fun x h' => ZW d prog_8_method_6_code 6 22 [some (vR (some 90)), some (vI l1), some (vI (zw (l1 * (zV h 90 3))))] [vI x] h' (yq 2 (yqI K)))) ∧ (¬ (s0 ≠ 0) → K 0 h))) : ZW d prog_8_method_6_code 6 4 [some (vR (some 90)), some (vI l1), none] [vI s0] h (yq 2 (yqI K)) := by
  refine y_if (pcT := 9) (pc' := 7) (P := s0 ≠ 0) f64_4 rfl rfl rfl (fun c => ?_) (fun c => ?_)
  · replace k := k.1 c
    refine y_s (pc' := 10) (L' := [some (vR (some 90)), some (vI l1), none]) (st' := [vI l1]) (h' := h) f64_9 rfl ?_
    refine y_s (pc' := 11) (L' := [some (vR (some 90)), some (vI l1), none]) (st' := [vR (some 90), vI l1]) (h' := h) f64_10 rfl ?_
    refine y_gi (pc' := 14) f64_11 yf_6_62 rfl rfl (ys90 w) rfl ?_
    refine y_s (pc' := 15) (L' := [some (vR (some 90)), some (vI l1), none]) (st' := [vI (zw (l1 * (zV h 90 3)))]) (h' := h) f64_14 rfl ?_
    refine y_sto (pc' := 16) (k := 2) (L' := [some (vR (some 90)), some (vI l1), some (vI (zw (l1 * (zV h 90 3))))]) f64_15 rfl rfl rfl rfl rfl rfl ?_
    refine y_s (pc' := 17) (L' := [some (vR (some 90)), some (vI l1), some (vI (zw (l1 * (zV h 90 3))))]) (st' := [vR (some 90)]) (h' := h) f64_16 rfl ?_
    refine y_s (pc' := 19) (L' := [some (vR (some 90)), some (vI l1), some (vI (zw (l1 * (zV h 90 3))))]) (st' := [vI 32, vR (some 90)]) (h' := h) f64_17 rfl ?_
    refine y_cI (pc' := 22) (as := [vR (some 90), vI 32]) (r := []) f64_19 (yzv ym_6_35 rfl (ys90 w) rfl rfl) (by omega) rfl ?_
    exact k
  · replace k := k.2 c
    refine y_s (pc' := 8) (L' := [some (vR (some 90)), some (vI l1), none]) (st' := [vI 0]) (h' := h) f64_7 rfl ?_
    exact y_ri f64_8 ⟨rfl, k⟩
theorem W64_22 {d : Nat} {K : Int → Hp → Prop} (w : yWF zl nl h) {l1 : Int} {l2 : Int} {s0 : Int} (hd : 1 ≤ d) (k : ((s0 = 0 → K 0 h) ∧ (¬ (s0 = 0) → yI (d - 1) 67 [vR (some 90), vI 0] h (fun x h' => ZW d prog_8_method_6_code 6 30 [some (vR (some 90)), some (vI l1), some (vI l2)] [vI x] h' (yq 2 (yqI K)))))) : ZW d prog_8_method_6_code 6 22 [some (vR (some 90)), some (vI l1), some (vI l2)] [vI s0] h (yq 2 (yqI K)) := by
  refine y_if (pcT := 33) (pc' := 25) (P := s0 = 0) f64_22 rfl rfl rfl (fun c => ?_) (fun c => ?_)
  · replace k := k.1 c
    refine y_s (pc' := 34) (L' := [some (vR (some 90)), some (vI l1), some (vI l2)]) (st' := [vI 0]) (h' := h) f64_33 rfl ?_
    exact y_ri f64_34 ⟨rfl, k⟩
  · replace k := k.2 c
    refine y_s (pc' := 26) (L' := [some (vR (some 90)), some (vI l1), some (vI l2)]) (st' := [vR (some 90)]) (h' := h) f64_25 rfl ?_
    refine y_s (pc' := 27) (L' := [some (vR (some 90)), some (vI l1), some (vI l2)]) (st' := [vI 0, vR (some 90)]) (h' := h) f64_26 rfl ?_
    refine y_cI (pc' := 30) (as := [vR (some 90), vI 0]) (r := []) f64_27 (yzv ym_6_65 rfl (ys90 w) rfl rfl) (by omega) rfl ?_
    exact k
theorem W64_30 {d : Nat} {K : Int → Hp → Prop} (w : yWF zl nl h) {l1 : Int} {l2 : Int} {s0 : Int} (hd : 1 ≤ d) (k : ((s0 ≠ 0 → (∃ s, zP h 90 4 = some s ∧ ySh s ∧ yU (d - 1) 70 [vR (some s), vI 7, vI 0, vI l2] h (fun h' => ZW d prog_8_method_6_code 6 46 [some (vR (some 90)), some (vI l1), some (vI l2)] [] h' (yq 2 (yqI K))))) ∧ (¬ (s0 ≠ 0) → K 0 h))) : ZW d prog_8_method_6_code 6 30 [some (vR (some 90)), some (vI l1), some (vI l2)] [vI s0] h (yq 2 (yqI K)) := by
  refine y_if (pcT := 35) (pc' := 33) (P := s0 ≠ 0) f64_30 rfl rfl rfl (fun c => ?_) (fun c => ?_)
  · replace k := k.1 c
    refine y_s (pc' := 36) (L' := [some (vR (some 90)), some (vI l1), some (vI l2)]) (st' := [vR (some 90)]) (h' := h) f64_35 rfl ?_
    obtain ⟨s, es, hs, k⟩ := k
    refine y_gr (pc' := 39) f64_36 yf_6_24 rfl rfl (ys90 w) es rfl ?_
    refine y_s (pc' := 41) (L' := [some (vR (some 90)), some (vI l1), some (vI l2)]) (st' := [vI 7, vR (some s)]) (h' := h) f64_39 rfl ?_
    refine y_s (pc' := 42) (L' := [some (vR (some 90)), some (vI l1), some (vI l2)]) (st' := [vI 0, vI 7, vR (some s)]) (h' := h) f64_41 rfl ?_
    refine y_s (pc' := 43) (L' := [some (vR (some 90)), some (vI l1), some (vI l2)]) (st' := [vI l2, vI 0, vI 7, vR (some s)]) (h' := h) f64_42 rfl ?_
    refine y_cU (pc' := 46) (as := [vR (some s), vI 7, vI 0, vI l2]) (r := []) f64_43 (yzv ym_6_68 rfl (ysS0 w hs) rfl rfl) (by omega) rfl ?_
    exact k
  · replace k := k.2 c
    refine y_s (pc' := 34) (L' := [some (vR (some 90)), some (vI l1), some (vI l2)]) (st' := [vI 0]) (h' := h) f64_33 rfl ?_
    exact y_ri f64_34 ⟨rfl, k⟩
theorem W64_46 {d : Nat} {K : Int → Hp → Prop} (w : yWF zl nl h) {l1 : Int} {l2 : Int} (k : K 1 h) : ZW d prog_8_method_6_code 6 46 [some (vR (some 90)), some (vI l1), some (vI l2)] [] h (yq 2 (yqI K)) := by
  refine y_s (pc' := 47) (L' := [some (vR (some 90)), some (vI l1), some (vI l2)]) (st' := [vI 1]) (h' := h) f64_46 rfl ?_
  exact y_ri f64_47 ⟨rfl, k⟩
/-- HatterTunes$Text.isEither(I)Z -/
theorem E67 {d : Nat} {K : Int → Hp → Prop} (w : yWF zl nl h) {x0 : Int} (hd : 1 ≤ d) (k : yI (d - 1) 68 [vR (some 90), vI x0] h (fun x h' => ZW d prog_8_method_8_code 6 5 [some (vR (some 90)), some (vI x0), none] [vI x] h' (yq 2 (yqI K)))) : yI d 67 [vR (some 90), vI x0] h K := by
  refine y_en (L := [some (vR (some 90)), some (vI x0), none]) rfl rfl ?_
  refine y_s (pc' := 1) (L' := [some (vR (some 90)), some (vI x0), none]) (st' := [vR (some 90)]) (h' := h) f67_0 rfl ?_
  refine y_s (pc' := 2) (L' := [some (vR (some 90)), some (vI x0), none]) (st' := [vI x0, vR (some 90)]) (h' := h) f67_1 rfl ?_
  refine y_cI (pc' := 5) (as := [vR (some 90), vI x0]) (r := []) f67_2 (yzv ym_6_75 rfl (ys90 w) rfl rfl) (by omega) rfl ?_
  exact k
theorem W67_5 {d : Nat} {K : Int → Hp → Prop} (w : yWF zl nl h) {l1 : Int} {s0 : Int} (k : ((s0 ≠ 0 → ZW d prog_8_method_8_code 6 12 [some (vR (some 90)), some (vI l1), some (vI 0)] [] h (yq 2 (yqI K))) ∧ (¬ (s0 ≠ 0) → K 0 h))) : ZW d prog_8_method_8_code 6 5 [some (vR (some 90)), some (vI l1), none] [vI s0] h (yq 2 (yqI K)) := by
  refine y_if (pcT := 10) (pc' := 8) (P := s0 ≠ 0) f67_5 rfl rfl rfl (fun c => ?_) (fun c => ?_)
  · replace k := k.1 c
    refine y_s (pc' := 11) (L' := [some (vR (some 90)), some (vI l1), none]) (st' := [vI 0]) (h' := h) f67_10 rfl ?_
    refine y_sto (pc' := 12) (k := 2) (L' := [some (vR (some 90)), some (vI l1), some (vI 0)]) f67_11 rfl rfl rfl rfl rfl rfl ?_
    exact k
  · replace k := k.2 c
    refine y_s (pc' := 9) (L' := [some (vR (some 90)), some (vI l1), none]) (st' := [vI 0]) (h' := h) f67_8 rfl ?_
    exact y_ri f67_9 ⟨rfl, k⟩
theorem W67_12 {d : Nat} {K : Int → Hp → Prop} (w : yWF zl nl h) {l1 : Int} {l2 : Int} (hd : 1 ≤ d) (k : ((100 ≤ l2 → K 1 h) ∧ (¬ (100 ≤ l2) → yI (d - 1) 63 [vR (some 90), vI 124] h (fun x h' => ZW d prog_8_method_8_code 6 24 [some (vR (some 90)), some (vI l1), some (vI l2)] [vI x] h' (yq 2 (yqI K)))))) : ZW d prog_8_method_8_code 6 12 [some (vR (some 90)), some (vI l1), some (vI l2)] [] h (yq 2 (yqI K)) := by
  refine y_s (pc' := 13) (L' := [some (vR (some 90)), some (vI l1), some (vI l2)]) (st' := [vI l2]) (h' := h) f67_12 rfl ?_
  refine y_s (pc' := 15) (L' := [some (vR (some 90)), some (vI l1), some (vI l2)]) (st' := [vI 100, vI l2]) (h' := h) f67_13 rfl ?_
  refine y_ic (pcT := 54) (pc' := 18) (P := 100 ≤ l2) f67_15 rfl rfl rfl (fun c => ?_) (fun c => ?_)
  · replace k := k.1 c
    refine y_s (pc' := 55) (L' := [some (vR (some 90)), some (vI l1), some (vI l2)]) (st' := [vI 1]) (h' := h) f67_54 rfl ?_
    exact y_ri f67_55 ⟨rfl, k⟩
  · replace k := k.2 c
    refine y_s (pc' := 19) (L' := [some (vR (some 90)), some (vI l1), some (vI l2)]) (st' := [vR (some 90)]) (h' := h) f67_18 rfl ?_
    refine y_s (pc' := 21) (L' := [some (vR (some 90)), some (vI l1), some (vI l2)]) (st' := [vI 124, vR (some 90)]) (h' := h) f67_19 rfl ?_
    refine y_cI (pc' := 24) (as := [vR (some 90), vI 124]) (r := []) f67_21 (yzv ym_6_35 rfl (ys90 w) rfl rfl) (by omega) rfl ?_
    exact k
theorem W67_24 {d : Nat} {K : Int → Hp → Prop} (w : yWF zl nl h) {l1 : Int} {l2 : Int} {s0 : Int} (hd : 1 ≤ d) (k : ((s0 = 0 → K 1 h) ∧ (¬ (s0 = 0) → yI (d - 1) 68 [vR (some 90), vI l1] h (fun x h' => ZW d prog_8_method_8_code 6 32 [some (vR (some 90)), some (vI l1), some (vI l2)] [vI x] h' (yq 2 (yqI K)))))) : ZW d prog_8_method_8_code 6 24 [some (vR (some 90)), some (vI l1), some (vI l2)] [vI s0] h (yq 2 (yqI K)) := by
  refine y_if (pcT := 54) (pc' := 27) (P := s0 = 0) f67_24 rfl rfl rfl (fun c => ?_) (fun c => ?_)
  · replace k := k.1 c
    refine y_s (pc' := 55) (L' := [some (vR (some 90)), some (vI l1), some (vI l2)]) (st' := [vI 1]) (h' := h) f67_54 rfl ?_
    exact y_ri f67_55 ⟨rfl, k⟩
  · replace k := k.2 c
    refine y_s (pc' := 28) (L' := [some (vR (some 90)), some (vI l1), some (vI l2)]) (st' := [vR (some 90)]) (h' := h) f67_27 rfl ?_
    refine y_s (pc' := 29) (L' := [some (vR (some 90)), some (vI l1), some (vI l2)]) (st' := [vI l1, vR (some 90)]) (h' := h) f67_28 rfl ?_
    refine y_cI (pc' := 32) (as := [vR (some 90), vI l1]) (r := []) f67_29 (yzv ym_6_75 rfl (ys90 w) rfl rfl) (by omega) rfl ?_
    exact k
theorem W67_32 {d : Nat} {K : Int → Hp → Prop} (w : yWF zl nl h) {l1 : Int} {l2 : Int} {s0 : Int} (hd : 1 ≤ d) (k : ((s0 ≠ 0 → (∃ s, zP h 90 4 = some s ∧ ySh s ∧ yU (d - 1) 70 [vR (some s), vI 6, vI 0, vI 0] h (fun h' => ZW d prog_8_method_8_code 6 48 [some (vR (some 90)), some (vI l1), some (vI l2)] [] h' (yq 2 (yqI K))))) ∧ (¬ (s0 ≠ 0) → K 0 h))) : ZW d prog_8_method_8_code 6 32 [some (vR (some 90)), some (vI l1), some (vI l2)] [vI s0] h (yq 2 (yqI K)) := by
  refine y_if (pcT := 37) (pc' := 35) (P := s0 ≠ 0) f67_32 rfl rfl rfl (fun c => ?_) (fun c => ?_)
  · replace k := k.1 c
    refine y_s (pc' := 38) (L' := [some (vR (some 90)), some (vI l1), some (vI l2)]) (st' := [vR (some 90)]) (h' := h) f67_37 rfl ?_
    obtain ⟨s, es, hs, k⟩ := k
    refine y_gr (pc' := 41) f67_38 yf_6_24 rfl rfl (ys90 w) es rfl ?_
    refine y_s (pc' := 43) (L' := [some (vR (some 90)), some (vI l1), some (vI l2)]) (st' := [vI 6, vR (some s)]) (h' := h) f67_41 rfl ?_
    refine y_s (pc' := 44) (L' := [some (vR (some 90)), some (vI l1), some (vI l2)]) (st' := [vI 0, vI 6, vR (some s)]) (h' := h) f67_43 rfl ?_
    refine y_s (pc' := 45) (L' := [some (vR (some 90)), some (vI l1), some (vI l2)]) (st' := [vI 0, vI 0, vI 6, vR (some s)]) (h' := h) f67_44 rfl ?_
    refine y_cU (pc' := 48) (as := [vR (some s), vI 6, vI 0, vI 0]) (r := []) f67_45 (yzv ym_6_68 rfl (ysS0 w hs) rfl rfl) (by omega) rfl ?_
    exact k
  · replace k := k.2 c
    refine y_s (pc' := 36) (L' := [some (vR (some 90)), some (vI l1), some (vI l2)]) (st' := [vI 0]) (h' := h) f67_35 rfl ?_
    exact y_ri f67_36 ⟨rfl, k⟩
theorem W67_48 {d : Nat} {K : Int → Hp → Prop} (w : yWF zl nl h) {l1 : Int} {l2 : Int} (k : ZW d prog_8_method_8_code 6 12 [some (vR (some 90)), some (vI l1), some (vI (zw (l2 + 1)))] [] h (yq 2 (yqI K))) : ZW d prog_8_method_8_code 6 48 [some (vR (some 90)), some (vI l1), some (vI l2)] [] h (yq 2 (yqI K)) := by
  refine y_inc (pc' := 51) (L' := [some (vR (some 90)), some (vI l1), some (vI (zw (l2 + 1)))]) f67_48 rfl rfl rfl rfl ?_
  refine y_go (pc' := 12) f67_51 rfl ?_
  exact k
/-- HatterTunes$Text.isBoth(I)Z -/
theorem E68 {d : Nat} {K : Int → Hp → Prop} (w : yWF zl nl h) {x0 : Int} (hd : 1 ≤ d) (k : yI (d - 1) 69 [vR (some 90), vI x0] h (fun x h' => ZW d prog_8_method_9_code 6 5 [some (vR (some 90)), some (vI x0), none] [vI x] h' (yq 2 (yqI K)))) : yI d 68 [vR (some 90), vI x0] h K := by
  refine y_en (L := [some (vR (some 90)), some (vI x0), none]) rfl rfl ?_
  refine y_s (pc' := 1) (L' := [some (vR (some 90)), some (vI x0), none]) (st' := [vR (some 90)]) (h' := h) f68_0 rfl ?_
  refine y_s (pc' := 2) (L' := [some (vR (some 90)), some (vI x0), none]) (st' := [vI x0, vR (some 90)]) (h' := h) f68_1 rfl ?_
  refine y_cI (pc' := 5) (as := [vR (some 90), vI x0]) (r := []) f68_2 (yzv ym_6_78 rfl (ys90 w) rfl rfl) (by omega) rfl ?_
  exact k
theorem W68_5 {d : Nat} {K : Int → Hp → Prop} (w : yWF zl nl h) {l1 : Int} {s0 : Int} (k : ((s0 ≠ 0 → ZW d prog_8_method_9_code 6 12 [some (vR (some 90)), some (vI l1), some (vI 0)] [] h (yq 2 (yqI K))) ∧ (¬ (s0 ≠ 0) → K 0 h))) : ZW d prog_8_method_9_code 6 5 [some (vR (some 90)), some (vI l1), none] [vI s0] h (yq 2 (yqI K)) := by
  refine y_if (pcT := 10) (pc' := 8) (P := s0 ≠ 0) f68_5 rfl rfl rfl (fun c => ?_) (fun c => ?_)
  · replace k := k.1 c
    refine y_s (pc' := 11) (L' := [some (vR (some 90)), some (vI l1), none]) (st' := [vI 0]) (h' := h) f68_10 rfl ?_
    refine y_sto (pc' := 12) (k := 2) (L' := [some (vR (some 90)), some (vI l1), some (vI 0)]) f68_11 rfl rfl rfl rfl rfl rfl ?_
    exact k
  · replace k := k.2 c
    refine y_s (pc' := 9) (L' := [some (vR (some 90)), some (vI l1), none]) (st' := [vI 0]) (h' := h) f68_8 rfl ?_
    exact y_ri f68_9 ⟨rfl, k⟩
theorem W68_12 {d : Nat} {K : Int → Hp → Prop} (w : yWF zl nl h) {l1 : Int} {l2 : Int} (hd : 1 ≤ d) (k : ((100 ≤ l2 → K 1 h) ∧ (¬ (100 ≤ l2) → yI (d - 1) 63 [vR (some 90), vI 38] h (fun x h' => ZW d prog_8_method_9_code 6 24 [some (vR (some 90)), some (vI l1), some (vI l2)] [vI x] h' (yq 2 (yqI K)))))) : ZW d prog_8_method_9_code 6 12 [some (vR (some 90)), some (vI l1), some (vI l2)] [] h (yq 2 (yqI K)) := by
  refine y_s (pc' := 13) (L' := [some (vR (some 90)), some (vI l1), some (vI l2)]) (st' := [vI l2]) (h' := h) f68_12 rfl ?_
  refine y_s (pc' := 15) (L' := [some (vR (some 90)), some (vI l1), some (vI l2)]) (st' := [vI 100, vI l2]) (h' := h) f68_13 rfl ?_
  refine y_ic (pcT := 53) (pc' := 18) (P := 100 ≤ l2) f68_15 rfl rfl rfl (fun c => ?_) (fun c => ?_)
  · replace k := k.1 c
    refine y_s (pc' := 54) (L' := [some (vR (some 90)), some (vI l1), some (vI l2)]) (st' := [vI 1]) (h' := h) f68_53 rfl ?_
    exact y_ri f68_54 ⟨rfl, k⟩
  · replace k := k.2 c
    refine y_s (pc' := 19) (L' := [some (vR (some 90)), some (vI l1), some (vI l2)]) (st' := [vR (some 90)]) (h' := h) f68_18 rfl ?_
    refine y_s (pc' := 21) (L' := [some (vR (some 90)), some (vI l1), some (vI l2)]) (st' := [vI 38, vR (some 90)]) (h' := h) f68_19 rfl ?_
    refine y_cI (pc' := 24) (as := [vR (some 90), vI 38]) (r := []) f68_21 (yzv ym_6_35 rfl (ys90 w) rfl rfl) (by omega) rfl ?_
    exact k
theorem W68_24 {d : Nat} {K : Int → Hp → Prop} (w : yWF zl nl h) {l1 : Int} {l2 : Int} {s0 : Int} (hd : 1 ≤ d) (k : ((s0 = 0 → K 1 h) ∧ (¬ (s0 = 0) → yI (d - 1) 69 [vR (some 90), vI l1] h (fun x h' => ZW d prog_8_method_9_code 6 32 [some (vR (some 90)), some (vI l1), some (vI l2)] [vI x] h' (yq 2 (yqI K)))))) : ZW d prog_8_method_9_code 6 24 [some (vR (some 90)), some (vI l1), some (vI l2)] [vI s0] h (yq 2 (yqI K)) := by
  refine y_if (pcT := 53) (pc' := 27) (P := s0 = 0) f68_24 rfl rfl rfl (fun c => ?_) (fun c => ?_)
  · replace k := k.1 c
    refine y_s (pc' := 54) (L' := [some (vR (some 90)), some (vI l1), some (vI l2)]) (st' := [vI 1]) (h' := h) f68_53 rfl ?_
    exact y_ri f68_54 ⟨rfl, k⟩
  · replace k := k.2 c
    refine y_s (pc' := 28) (L' := [some (vR (some 90)), some (vI l1), some (vI l2)]) (st' := [vR (some 90)]) (h' := h) f68_27 rfl ?_
    refine y_s (pc' := 29) (L' := [some (vR (some 90)), some (vI l1), some (vI l2)]) (st' := [vI l1, vR (some 90)]) (h' := h) f68_28 rfl ?_
    refine y_cI (pc' := 32) (as := [vR (some 90), vI l1]) (r := []) f68_29 (yzv ym_6_78 rfl (ys90 w) rfl rfl) (by omega) rfl ?_
    exact k
theorem W68_32 {d : Nat} {K : Int → Hp → Prop} (w : yWF zl nl h) {l1 : Int} {l2 : Int} {s0 : Int} (hd : 1 ≤ d) (k : ((s0 ≠ 0 → (∃ s, zP h 90 4 = some s ∧ ySh s ∧ yU (d - 1) 70 [vR (some s), vI 5, vI 0, vI 0] h (fun h' => ZW d prog_8_method_9_code 6 47 [some (vR (some 90)), some (vI l1), some (vI l2)] [] h' (yq 2 (yqI K))))) ∧ (¬ (s0 ≠ 0) → K 0 h))) : ZW d prog_8_method_9_code 6 32 [some (vR (some 90)), some (vI l1), some (vI l2)] [vI s0] h (yq 2 (yqI K)) := by
  refine y_if (pcT := 37) (pc' := 35) (P := s0 ≠ 0) f68_32 rfl rfl rfl (fun c => ?_) (fun c => ?_)
  · replace k := k.1 c
    refine y_s (pc' := 38) (L' := [some (vR (some 90)), some (vI l1), some (vI l2)]) (st' := [vR (some 90)]) (h' := h) f68_37 rfl ?_
    obtain ⟨s, es, hs, k⟩ := k
    refine y_gr (pc' := 41) f68_38 yf_6_24 rfl rfl (ys90 w) es rfl ?_
    refine y_s (pc' := 42) (L' := [some (vR (some 90)), some (vI l1), some (vI l2)]) (st' := [vI 5, vR (some s)]) (h' := h) f68_41 rfl ?_
    refine y_s (pc' := 43) (L' := [some (vR (some 90)), some (vI l1), some (vI l2)]) (st' := [vI 0, vI 5, vR (some s)]) (h' := h) f68_42 rfl ?_
    refine y_s (pc' := 44) (L' := [some (vR (some 90)), some (vI l1), some (vI l2)]) (st' := [vI 0, vI 0, vI 5, vR (some s)]) (h' := h) f68_43 rfl ?_
    refine y_cU (pc' := 47) (as := [vR (some s), vI 5, vI 0, vI 0]) (r := []) f68_44 (yzv ym_6_68 rfl (ysS0 w hs) rfl rfl) (by omega) rfl ?_
    exact k
  · replace k := k.2 c
    refine y_s (pc' := 36) (L' := [some (vR (some 90)), some (vI l1), some (vI l2)]) (st' := [vI 0]) (h' := h) f68_35 rfl ?_
    exact y_ri f68_36 ⟨rfl, k⟩
theorem W68_47 {d : Nat} {K : Int → Hp → Prop} (w : yWF zl nl h) {l1 : Int} {l2 : Int} (k : ZW d prog_8_method_9_code 6 12 [some (vR (some 90)), some (vI l1), some (vI (zw (l2 + 1)))] [] h (yq 2 (yqI K))) : ZW d prog_8_method_9_code 6 47 [some (vR (some 90)), some (vI l1), some (vI l2)] [] h (yq 2 (yqI K)) := by
  refine y_inc (pc' := 50) (L' := [some (vR (some 90)), some (vI l1), some (vI (zw (l2 + 1)))]) f68_47 rfl rfl rfl rfl ?_
  refine y_go (pc' := 12) f68_50 rfl ?_
  exact k
/-- HatterTunes$Text.isFactor(I)Z -/
theorem E69 {d : Nat} {K : Int → Hp → Prop} (w : yWF zl nl h) {x0 : Int} (hd : 1 ≤ d) (k : ((4 ≤ x0 → ((4 ≤ x0 → yI (d - 1) 71 [vR (some 90)] h (fun x h' => ZW d prog_8_method_10_code 6 77 [some (vR (some 90)), some (vI x0), none] [vI x] h' (yq 2 (yqI K)))) ∧ (¬ (4 ≤ x0) → yI (d - 1) 63 [vR (some 90), vI 40] h (fun x h' => ZW d prog_8_method_10_code 6 45 [some (vR (some 90)), some (vI x0), none] [vI x] h' (yq 2 (yqI K)))))) ∧ (¬ (4 ≤ x0) → yI (d - 1) 63 [vR (some 90), vI 33] h (fun x h' => ZW d prog_8_method_10_code 6 11 [some (vR (some 90)), some (vI x0), none] [vI x] h' (yq 2 (yqI K)))))) : yI d 69 [vR (some 90), vI x0] h K := by
  refine y_en (L := [some (vR (some 90)), some (vI x0), none]) rfl rfl ?_
  refine y_s (pc' := 1) (L' := [some (vR (some 90)), some (vI x0), none]) (st' := [vI x0]) (h' := h) f69_0 rfl ?_
  refine y_s (pc' := 2) (L' := [some (vR (some 90)), some (vI x0), none]) (st' := [vI 4, vI x0]) (h' := h) f69_1 rfl ?_
  refine y_ic (pcT := 34) (pc' := 5) (P := 4 ≤ x0) f69_2 rfl rfl rfl (fun c => ?_) (fun c => ?_)
  · replace k := k.1 c
    refine y_s (pc' := 35) (L' := [some (vR (some 90)), some (vI x0), none]) (st' := [vI x0]) (h' := h) f69_34 rfl ?_
    refine y_s (pc' := 36) (L' := [some (vR (some 90)), some (vI x0), none]) (st' := [vI 4, vI x0]) (h' := h) f69_35 rfl ?_
    refine y_ic (pcT := 73) (pc' := 39) (P := 4 ≤ x0) f69_36 rfl rfl rfl (fun c => ?_) (fun c => ?_)
    · replace k := k.1 c
      refine y_s (pc' := 74) (L' := [some (vR (some 90)), some (vI x0), none]) (st' := [vR (some 90)]) (h' := h) f69_73 rfl ?_
      refine y_cI (pc' := 77) (as := [vR (some 90)]) (r := []) f69_74 (yzv ym_6_81 rfl (ys90 w) rfl rfl) (by omega) rfl ?_
      exact k
    · replace k := k.2 c
      refine y_s (pc' := 40) (L' := [some (vR (some 90)), some (vI x0), none]) (st' := [vR (some 90)]) (h' := h) f69_39 rfl ?_
      refine y_s (pc' := 42) (L' := [some (vR (some 90)), some (vI x0), none]) (st' := [vI 40, vR (some 90)]) (h' := h) f69_40 rfl ?_
      refine y_cI (pc' := 45) (as := [vR (some 90), vI 40]) (r := []) f69_42 (yzv ym_6_35 rfl (ys90 w) rfl rfl) (by omega) rfl ?_
      exact k
  · replace k := k.2 c
    refine y_s (pc' := 6) (L' := [some (vR (some 90)), some (vI x0), none]) (st' := [vR (some 90)]) (h' := h) f69_5 rfl ?_
    refine y_s (pc' := 8) (L' := [some (vR (some 90)), some (vI x0), none]) (st' := [vI 33, vR (some 90)]) (h' := h) f69_6 rfl ?_
    refine y_cI (pc' := 11) (as := [vR (some 90), vI 33]) (r := []) f69_8 (yzv ym_6_35 rfl (ys90 w) rfl rfl) (by omega) rfl ?_
    exact k
theorem W69_11 {d : Nat} {K : Int → Hp → Prop} (w : yWF zl nl h) {l1 : Int} {s0 : Int} (hd : 1 ≤ d) (k : ((s0 = 0 → ((4 ≤ l1 → yI (d - 1) 71 [vR (some 90)] h (fun x h' => ZW d prog_8_method_10_code 6 77 [some (vR (some 90)), some (vI l1), none] [vI x] h' (yq 2 (yqI K)))) ∧ (¬ (4 ≤ l1) → yI (d - 1) 63 [vR (some 90), vI 40] h (fun x h' => ZW d prog_8_method_10_code 6 45 [some (vR (some 90)), some (vI l1), none] [vI x] h' (yq 2 (yqI K)))))) ∧ (¬ (s0 = 0) → yI (d - 1) 69 [vR (some 90), vI (zw (l1 + 1))] h (fun x h' => ZW d prog_8_method_10_code 6 21 [some (vR (some 90)), some (vI l1), none] [vI x] h' (yq 2 (yqI K)))))) : ZW d prog_8_method_10_code 6 11 [some (vR (some 90)), some (vI l1), none] [vI s0] h (yq 2 (yqI K)) := by
  refine y_if (pcT := 34) (pc' := 14) (P := s0 = 0) f69_11 rfl rfl rfl (fun c => ?_) (fun c => ?_)
  · replace k := k.1 c
    refine y_s (pc' := 35) (L' := [some (vR (some 90)), some (vI l1), none]) (st' := [vI l1]) (h' := h) f69_34 rfl ?_
    refine y_s (pc' := 36) (L' := [some (vR (some 90)), some (vI l1), none]) (st' := [vI 4, vI l1]) (h' := h) f69_35 rfl ?_
    refine y_ic (pcT := 73) (pc' := 39) (P := 4 ≤ l1) f69_36 rfl rfl rfl (fun c => ?_) (fun c => ?_)
    · replace k := k.1 c
      refine y_s (pc' := 74) (L' := [some (vR (some 90)), some (vI l1), none]) (st' := [vR (some 90)]) (h' := h) f69_73 rfl ?_
      refine y_cI (pc' := 77) (as := [vR (some 90)]) (r := []) f69_74 (yzv ym_6_81 rfl (ys90 w) rfl rfl) (by omega) rfl ?_
      exact k
    · replace k := k.2 c
      refine y_s (pc' := 40) (L' := [some (vR (some 90)), some (vI l1), none]) (st' := [vR (some 90)]) (h' := h) f69_39 rfl ?_
      refine y_s (pc' := 42) (L' := [some (vR (some 90)), some (vI l1), none]) (st' := [vI 40, vR (some 90)]) (h' := h) f69_40 rfl ?_
      refine y_cI (pc' := 45) (as := [vR (some 90), vI 40]) (r := []) f69_42 (yzv ym_6_35 rfl (ys90 w) rfl rfl) (by omega) rfl ?_
      exact k
  · replace k := k.2 c
    refine y_s (pc' := 15) (L' := [some (vR (some 90)), some (vI l1), none]) (st' := [vR (some 90)]) (h' := h) f69_14 rfl ?_
    refine y_s (pc' := 16) (L' := [some (vR (some 90)), some (vI l1), none]) (st' := [vI l1, vR (some 90)]) (h' := h) f69_15 rfl ?_
    refine y_s (pc' := 17) (L' := [some (vR (some 90)), some (vI l1), none]) (st' := [vI 1, vI l1, vR (some 90)]) (h' := h) f69_16 rfl ?_
    refine y_s (pc' := 18) (L' := [some (vR (some 90)), some (vI l1), none]) (st' := [vI (zw (l1 + 1)), vR (some 90)]) (h' := h) f69_17 rfl ?_
    refine y_cI (pc' := 21) (as := [vR (some 90), vI (zw (l1 + 1))]) (r := []) f69_18 (yzv ym_6_78 rfl (ys90 w) rfl rfl) (by omega) rfl ?_
    exact k
theorem W69_21 {d : Nat} {K : Int → Hp → Prop} (w : yWF zl nl h) {l1 : Int} {s0 : Int} (hd : 1 ≤ d) (k : (∃ s, zP h 90 4 = some s ∧ ySh s ∧ yU (d - 1) 70 [vR (some s), vI 4, vI 0, vI 0] h (fun h' => ZW d prog_8_method_10_code 6 32 [some (vR (some 90)), some (vI l1), some (vI s0)] [] h' (yq 2 (yqI K))))) : ZW d prog_8_method_10_code 6 21 [some (vR (some 90)), some (vI l1), none] [vI s0] h (yq 2 (yqI K)) := by
  refine y_sto (pc' := 22) (k := 2) (L' := [some (vR (some 90)), some (vI l1), some (vI s0)]) f69_21 rfl rfl rfl rfl rfl rfl ?_
  refine y_s (pc' := 23) (L' := [some (vR (some 90)), some (vI l1), some (vI s0)]) (st' := [vR (some 90)]) (h' := h) f69_22 rfl ?_
  obtain ⟨s, es, hs, k⟩ := k
  refine y_gr (pc' := 26) f69_23 yf_6_24 rfl rfl (ys90 w) es rfl ?_
  refine y_s (pc' := 27) (L' := [some (vR (some 90)), some (vI l1), some (vI s0)]) (st' := [vI 4, vR (some s)]) (h' := h) f69_26 rfl ?_
  refine y_s (pc' := 28) (L' := [some (vR (some 90)), some (vI l1), some (vI s0)]) (st' := [vI 0, vI 4, vR (some s)]) (h' := h) f69_27 rfl ?_
  refine y_s (pc' := 29) (L' := [some (vR (some 90)), some (vI l1), some (vI s0)]) (st' := [vI 0, vI 0, vI 4, vR (some s)]) (h' := h) f69_28 rfl ?_
  refine y_cU (pc' := 32) (as := [vR (some s), vI 4, vI 0, vI 0]) (r := []) f69_29 (yzv ym_6_68 rfl (ysS0 w hs) rfl rfl) (by omega) rfl ?_
  exact k
theorem W69_32 {d : Nat} {K : Int → Hp → Prop} (w : yWF zl nl h) {l1 : Int} {l2 : Int} (k : ((l2 = 0 ∨ l2 = 1) ∧ K l2 h)) : ZW d prog_8_method_10_code 6 32 [some (vR (some 90)), some (vI l1), some (vI l2)] [] h (yq 2 (yqI K)) := by
  refine y_s (pc' := 33) (L' := [some (vR (some 90)), some (vI l1), some (vI l2)]) (st' := [vI l2]) (h' := h) f69_32 rfl ?_
  exact y_ri f69_33 ⟨decide_eq_true k.1, k.2⟩
theorem W69_45 {d : Nat} {K : Int → Hp → Prop} (w : yWF zl nl h) {l1 : Int} {s0 : Int} (hd : 1 ≤ d) (k : ((s0 = 0 → yI (d - 1) 71 [vR (some 90)] h (fun x h' => ZW d prog_8_method_10_code 6 77 [some (vR (some 90)), some (vI l1), none] [vI x] h' (yq 2 (yqI K)))) ∧ (¬ (s0 = 0) → yI (d - 1) 67 [vR (some 90), vI (zw (l1 + 1))] h (fun x h' => ZW d prog_8_method_10_code 6 55 [some (vR (some 90)), some (vI l1), none] [vI x] h' (yq 2 (yqI K)))))) : ZW d prog_8_method_10_code 6 45 [some (vR (some 90)), some (vI l1), none] [vI s0] h (yq 2 (yqI K)) := by
  refine y_if (pcT := 73) (pc' := 48) (P := s0 = 0) f69_45 rfl rfl rfl (fun c => ?_) (fun c => ?_)
  · replace k := k.1 c
    refine y_s (pc' := 74) (L' := [some (vR (some 90)), some (vI l1), none]) (st' := [vR (some 90)]) (h' := h) f69_73 rfl ?_
    refine y_cI (pc' := 77) (as := [vR (some 90)]) (r := []) f69_74 (yzv ym_6_81 rfl (ys90 w) rfl rfl) (by omega) rfl ?_
    exact k
  · replace k := k.2 c
    refine y_s (pc' := 49) (L' := [some (vR (some 90)), some (vI l1), none]) (st' := [vR (some 90)]) (h' := h) f69_48 rfl ?_
    refine y_s (pc' := 50) (L' := [some (vR (some 90)), some (vI l1), none]) (st' := [vI l1, vR (some 90)]) (h' := h) f69_49 rfl ?_
    refine y_s (pc' := 51) (L' := [some (vR (some 90)), some (vI l1), none]) (st' := [vI 1, vI l1, vR (some 90)]) (h' := h) f69_50 rfl ?_
    refine y_s (pc' := 52) (L' := [some (vR (some 90)), some (vI l1), none]) (st' := [vI (zw (l1 + 1)), vR (some 90)]) (h' := h) f69_51 rfl ?_
    refine y_cI (pc' := 55) (as := [vR (some 90), vI (zw (l1 + 1))]) (r := []) f69_52 (yzv ym_6_65 rfl (ys90 w) rfl rfl) (by omega) rfl ?_
    exact k
theorem W69_55 {d : Nat} {K : Int → Hp → Prop} (w : yWF zl nl h) {l1 : Int} {s0 : Int} (hd : 1 ≤ d) (k : ((s0 = 0 → K 0 h) ∧ (¬ (s0 = 0) → yI (d - 1) 63 [vR (some 90), vI 41] h (fun x h' => ZW d prog_8_method_10_code 6 64 [some (vR (some 90)), some (vI l1), none] [vI x] h' (yq 2 (yqI K)))))) : ZW d prog_8_method_10_code 6 55 [some (vR (some 90)), some (vI l1), none] [vI s0] h (yq 2 (yqI K)) := by
  refine y_if (pcT := 71) (pc' := 58) (P := s0 = 0) f69_55 rfl rfl rfl (fun c => ?_) (fun c => ?_)
  · replace k := k.1 c
    refine y_s (pc' := 72) (L' := [some (vR (some 90)), some (vI l1), none]) (st' := [vI 0]) (h' := h) f69_71 rfl ?_
    exact y_ri f69_72 ⟨rfl, k⟩
  · replace k := k.2 c
    refine y_s (pc' := 59) (L' := [some (vR (some 90)), some (vI l1), none]) (st' := [vR (some 90)]) (h' := h) f69_58 rfl ?_
    refine y_s (pc' := 61) (L' := [some (vR (some 90)), some (vI l1), none]) (st' := [vI 41, vR (some 90)]) (h' := h) f69_59 rfl ?_
    refine y_cI (pc' := 64) (as := [vR (some 90), vI 41]) (r := []) f69_61 (yzv ym_6_35 rfl (ys90 w) rfl rfl) (by omega) rfl ?_
    exact k
theorem W69_64 {d : Nat} {K : Int → Hp → Prop} (w : yWF zl nl h) {l1 : Int} {s0 : Int} (k : ((s0 = 0 → K 0 h) ∧ (¬ (s0 = 0) → K 1 h))) : ZW d prog_8_method_10_code 6 64 [some (vR (some 90)), some (vI l1), none] [vI s0] h (yq 2 (yqI K)) := by
  refine y_if (pcT := 71) (pc' := 67) (P := s0 = 0) f69_64 rfl rfl rfl (fun c => ?_) (fun c => ?_)
  · replace k := k.1 c
    refine y_s (pc' := 72) (L' := [some (vR (some 90)), some (vI l1), none]) (st' := [vI 0]) (h' := h) f69_71 rfl ?_
    exact y_ri f69_72 ⟨rfl, k⟩
  · replace k := k.2 c
    refine y_s (pc' := 68) (L' := [some (vR (some 90)), some (vI l1), none]) (st' := [vI 1]) (h' := h) f69_67 rfl ?_
    refine y_go (pc' := 72) f69_68 rfl ?_
    exact y_ri f69_72 ⟨rfl, k⟩
theorem W69_77 {d : Nat} {K : Int → Hp → Prop} (w : yWF zl nl h) {l1 : Int} {s0 : Int} (k : ((s0 = 0 ∨ s0 = 1) ∧ K s0 h)) : ZW d prog_8_method_10_code 6 77 [some (vR (some 90)), some (vI l1), none] [vI s0] h (yq 2 (yqI K)) := by
  exact y_ri f69_77 ⟨decide_eq_true k.1, k.2⟩
/-- HatterTunes$Text.isTest()Z -/
theorem E71 {d : Nat} {K : Int → Hp → Prop} (w : yWF zl nl h) (hd : 1 ≤ d) (k : ((zV h 90 1 ≤ 100) ∧ ((0 ≤ (ylet (ypeek h)) → ((zV (zsetV h 90 2 (zw ((zV h 90 2) + 1))) 90 1 ≤ 100) ∧ ((0 ≤ (yrel (ypeek (zsetV h 90 2 (zw ((zV h 90 2) + 1))))) → (∀ h_48, (zsetV (zsetV h 90 2 (zw ((zV h 90 2) + 1))) 90 2 (zw ((zV (zsetV h 90 2 (zw ((zV h 90 2) + 1))) 90 2) + 1))) = h_48 → yI (d - 1) 65 [vR (some 90)] h_48 (fun x h' => ZW d prog_8_method_11_code 6 52 [some (vR (some 90)), some (vI (ylet (ypeek h))), some (vI (yrel (ypeek (zsetV h 90 2 (zw ((zV h 90 2) + 1))))))] [vI x] h' (yq 2 (yqI K))))) ∧ (¬ (0 ≤ (yrel (ypeek (zsetV h 90 2 (zw ((zV h 90 2) + 1)))))) → K 0 (zsetV h 90 2 (zw ((zV h 90 2) + 1))))))) ∧ (¬ (0 ≤ (ylet (ypeek h))) → K 0 h)))) : yI d 71 [vR (some 90)] h K := by
  refine y_en (L := [some (vR (some 90)), none, none]) rfl rfl ?_
  refine y_s (pc' := 1) (L' := [some (vR (some 90)), none, none]) (st' := [vR (some 90)]) (h' := h) f71_0 rfl ?_
  refine y_cI (pc' := 4) (as := [vR (some 90)]) (r := []) f71_1 (yzv ym_6_39 rfl (ys90 w) rfl rfl) (by omega) rfl ?_
  have p0 := k.1
  replace k := k.2
  refine sp50 w p0 ?_
  refine y_cI (pc' := 7) (as := [vI (ypeek h)]) (r := []) f71_4 rfl (by omega) rfl ?_
  refine sp72 w ?_
  refine y_sto (pc' := 8) (k := 1) (L' := [some (vR (some 90)), some (vI (ylet (ypeek h))), none]) f71_7 rfl rfl rfl rfl rfl rfl ?_
  refine y_s (pc' := 9) (L' := [some (vR (some 90)), some (vI (ylet (ypeek h))), none]) (st' := [vI (ylet (ypeek h))]) (h' := h) f71_8 rfl ?_
  refine y_if (pcT := 14) (pc' := 12) (P := 0 ≤ (ylet (ypeek h))) f71_9 rfl rfl rfl (fun c => ?_) (fun c => ?_)
  · replace k := k.1 c
    refine y_s (pc' := 15) (L' := [some (vR (some 90)), some (vI (ylet (ypeek h))), none]) (st' := [vR (some 90)]) (h' := h) f71_14 rfl ?_
    refine y_s (pc' := 16) (L' := [some (vR (some 90)), some (vI (ylet (ypeek h))), none]) (st' := [vR (some 90), vR (some 90)]) (h' := h) f71_15 rfl ?_
    refine y_gi (pc' := 19) f71_16 yf_6_28 rfl rfl (ys90 w) rfl ?_
    refine y_s (pc' := 20) (L' := [some (vR (some 90)), some (vI (ylet (ypeek h))), none]) (st' := [vI 1, vI (zV h 90 2), vR (some 90)]) (h' := h) f71_19 rfl ?_
    refine y_s (pc' := 21) (L' := [some (vR (some 90)), some (vI (ylet (ypeek h))), none]) (st' := [vI (zw ((zV h 90 2) + 1)), vR (some 90)]) (h' := h) f71_20 rfl ?_
    refine y_pi (pc' := 24) f71_21 yf_6_28 rfl rfl (ys90 w) (by decide) (Or.inl rfl) rfl ?_
    refine y_s (pc' := 25) (L' := [some (vR (some 90)), some (vI (ylet (ypeek h))), none]) (st' := [vR (some 90)]) (h' := (zsetV h 90 2 (zw ((zV h 90 2) + 1)))) f71_24 rfl ?_
    refine y_cI (pc' := 28) (as := [vR (some 90)]) (r := []) f71_25 (yzv ym_6_39 rfl (ys90 w) rfl rfl) (by omega) rfl ?_
    have p0 := k.1
    replace k := k.2
    refine sp50 w p0 ?_
    refine y_cI (pc' := 31) (as := [vI (ypeek (zsetV h 90 2 (zw ((zV h 90 2) + 1))))]) (r := []) f71_28 rfl (by omega) rfl ?_
    refine sp73 w ?_
    refine y_sto (pc' := 32) (k := 2) (L' := [some (vR (some 90)), some (vI (ylet (ypeek h))), some (vI (yrel (ypeek (zsetV h 90 2 (zw ((zV h 90 2) + 1))))))]) f71_31 rfl rfl rfl rfl rfl rfl ?_
    refine y_s (pc' := 33) (L' := [some (vR (some 90)), some (vI (ylet (ypeek h))), some (vI (yrel (ypeek (zsetV h 90 2 (zw ((zV h 90 2) + 1))))))]) (st' := [vI (yrel (ypeek (zsetV h 90 2 (zw ((zV h 90 2) + 1)))))]) (h' := (zsetV h 90 2 (zw ((zV h 90 2) + 1)))) f71_32 rfl ?_
    refine y_if (pcT := 38) (pc' := 36) (P := 0 ≤ (yrel (ypeek (zsetV h 90 2 (zw ((zV h 90 2) + 1)))))) f71_33 rfl rfl rfl (fun c => ?_) (fun c => ?_)
    · replace k := k.1 c
      refine y_s (pc' := 39) (L' := [some (vR (some 90)), some (vI (ylet (ypeek h))), some (vI (yrel (ypeek (zsetV h 90 2 (zw ((zV h 90 2) + 1))))))]) (st' := [vR (some 90)]) (h' := (zsetV h 90 2 (zw ((zV h 90 2) + 1)))) f71_38 rfl ?_
      refine y_s (pc' := 40) (L' := [some (vR (some 90)), some (vI (ylet (ypeek h))), some (vI (yrel (ypeek (zsetV h 90 2 (zw ((zV h 90 2) + 1))))))]) (st' := [vR (some 90), vR (some 90)]) (h' := (zsetV h 90 2 (zw ((zV h 90 2) + 1)))) f71_39 rfl ?_
      refine y_gi (pc' := 43) f71_40 yf_6_28 rfl rfl (ys90 w) rfl ?_
      refine y_s (pc' := 44) (L' := [some (vR (some 90)), some (vI (ylet (ypeek h))), some (vI (yrel (ypeek (zsetV h 90 2 (zw ((zV h 90 2) + 1))))))]) (st' := [vI 1, vI (zV (zsetV h 90 2 (zw ((zV h 90 2) + 1))) 90 2), vR (some 90)]) (h' := (zsetV h 90 2 (zw ((zV h 90 2) + 1)))) f71_43 rfl ?_
      refine y_s (pc' := 45) (L' := [some (vR (some 90)), some (vI (ylet (ypeek h))), some (vI (yrel (ypeek (zsetV h 90 2 (zw ((zV h 90 2) + 1))))))]) (st' := [vI (zw ((zV (zsetV h 90 2 (zw ((zV h 90 2) + 1))) 90 2) + 1)), vR (some 90)]) (h' := (zsetV h 90 2 (zw ((zV h 90 2) + 1)))) f71_44 rfl ?_
      refine y_pi (pc' := 48) f71_45 yf_6_28 rfl rfl (ys90 w) (by decide) (Or.inl rfl) rfl ?_
      generalize e_48 : (zsetV (zsetV h 90 2 (zw ((zV h 90 2) + 1))) 90 2 (zw ((zV (zsetV h 90 2 (zw ((zV h 90 2) + 1))) 90 2) + 1))) = h_48
      replace k := k _ e_48
      have w : yWF zl nl h_48 := by rw [← e_48]; exact w
      refine y_s (pc' := 49) (L' := [some (vR (some 90)), some (vI (ylet (ypeek h))), some (vI (yrel (ypeek (zsetV h 90 2 (zw ((zV h 90 2) + 1))))))]) (st' := [vR (some 90)]) (h' := h_48) f71_48 rfl ?_
      refine y_cI (pc' := 52) (as := [vR (some 90)]) (r := []) f71_49 (yzv ym_6_59 rfl (ys90 w) rfl rfl) (by omega) rfl ?_
      exact k
    · replace k := k.2 c
      refine y_s (pc' := 37) (L' := [some (vR (some 90)), some (vI (ylet (ypeek h))), some (vI (yrel (ypeek (zsetV h 90 2 (zw ((zV h 90 2) + 1))))))]) (st' := [vI 0]) (h' := (zsetV h 90 2 (zw ((zV h 90 2) + 1)))) f71_36 rfl ?_
      exact y_ri f71_37 ⟨rfl, k⟩
  · replace k := k.2 c
    refine y_s (pc' := 13) (L' := [some (vR (some 90)), some (vI (ylet (ypeek h))), none]) (st' := [vI 0]) (h' := h) f71_12 rfl ?_
    exact y_ri f71_13 ⟨rfl, k⟩
theorem W71_52 {d : Nat} {K : Int → Hp → Prop} (w : yWF zl nl h) {l1 : Int} {l2 : Int} {s0 : Int} (hd : 1 ≤ d) (k : ((s0 ≠ 0 → (∃ s, zP h 90 4 = some s ∧ ySh s ∧ yU (d - 1) 70 [vR (some s), vI l2, vI l1, vI (zV h 90 3)] h (fun h' => ZW d prog_8_method_11_code 6 70 [some (vR (some 90)), some (vI l1), some (vI l2)] [] h' (yq 2 (yqI K))))) ∧ (¬ (s0 ≠ 0) → K 0 h))) : ZW d prog_8_method_11_code 6 52 [some (vR (some 90)), some (vI l1), some (vI l2)] [vI s0] h (yq 2 (yqI K)) := by
  refine y_if (pcT := 57) (pc' := 55) (P := s0 ≠ 0) f71_52 rfl rfl rfl (fun c => ?_) (fun c => ?_)
  · replace k := k.1 c
    refine y_s (pc' := 58) (L' := [some (vR (some 90)), some (vI l1), some (vI l2)]) (st' := [vR (some 90)]) (h' := h) f71_57 rfl ?_
    obtain ⟨s, es, hs, k⟩ := k
    refine y_gr (pc' := 61) f71_58 yf_6_24 rfl rfl (ys90 w) es rfl ?_
    refine y_s (pc' := 62) (L' := [some (vR (some 90)), some (vI l1), some (vI l2)]) (st' := [vI l2, vR (some s)]) (h' := h) f71_61 rfl ?_
    refine y_s (pc' := 63) (L' := [some (vR (some 90)), some (vI l1), some (vI l2)]) (st' := [vI l1, vI l2, vR (some s)]) (h' := h) f71_62 rfl ?_
    refine y_s (pc' := 64) (L' := [some (vR (some 90)), some (vI l1), some (vI l2)]) (st' := [vR (some 90), vI l1, vI l2, vR (some s)]) (h' := h) f71_63 rfl ?_
    refine y_gi (pc' := 67) f71_64 yf_6_62 rfl rfl (ys90 w) rfl ?_
    refine y_cU (pc' := 70) (as := [vR (some s), vI l2, vI l1, vI (zV h 90 3)]) (r := []) f71_67 (yzv ym_6_68 rfl (ysS0 w hs) rfl rfl) (by omega) rfl ?_
    exact k
  · replace k := k.2 c
    refine y_s (pc' := 56) (L' := [some (vR (some 90)), some (vI l1), some (vI l2)]) (st' := [vI 0]) (h' := h) f71_55 rfl ?_
    exact y_ri f71_56 ⟨rfl, k⟩
theorem W71_70 {d : Nat} {K : Int → Hp → Prop} (w : yWF zl nl h) {l1 : Int} {l2 : Int} (k : K 1 h) : ZW d prog_8_method_11_code 6 70 [some (vR (some 90)), some (vI l1), some (vI l2)] [] h (yq 2 (yqI K)) := by
  refine y_s (pc' := 71) (L' := [some (vR (some 90)), some (vI l1), some (vI l2)]) (st' := [vI 1]) (h' := h) f71_70 rfl ?_
  exact y_ri f71_71 ⟨rfl, k⟩
/-- HatterTunes$Text.isGrowth()Z -/
theorem E74 {d : Nat} {K : Int → Hp → Prop} (w : yWF zl nl h) (hd : 1 ≤ d) (k : yI (d - 1) 65 [vR (some 90)] h (fun x h' => ZW d prog_8_method_7_code 6 4 [some (vR (some 90))] [vI x] h' (yq 2 (yqI K)))) : yI d 74 [vR (some 90)] h K := by
  refine y_en (L := [some (vR (some 90))]) rfl rfl ?_
  refine y_s (pc' := 1) (L' := [some (vR (some 90))]) (st' := [vR (some 90)]) (h' := h) f74_0 rfl ?_
  refine y_cI (pc' := 4) (as := [vR (some 90)]) (r := []) f74_1 (yzv ym_6_59 rfl (ys90 w) rfl rfl) (by omega) rfl ?_
  exact k
theorem W74_4 {d : Nat} {K : Int → Hp → Prop} (w : yWF zl nl h) {s0 : Int} (k : ((s0 ≠ 0 → (∃ s, zP h 90 4 = some s ∧ ySh s ∧ K 1 (zsetV h s 4 (zV h 90 3)))) ∧ (¬ (s0 ≠ 0) → K 0 h))) : ZW d prog_8_method_7_code 6 4 [some (vR (some 90))] [vI s0] h (yq 2 (yqI K)) := by
  refine y_if (pcT := 9) (pc' := 7) (P := s0 ≠ 0) f74_4 rfl rfl rfl (fun c => ?_) (fun c => ?_)
  · replace k := k.1 c
    refine y_s (pc' := 10) (L' := [some (vR (some 90))]) (st' := [vR (some 90)]) (h' := h) f74_9 rfl ?_
    obtain ⟨s, es, hs, k⟩ := k
    refine y_gr (pc' := 13) f74_10 yf_6_24 rfl rfl (ys90 w) es rfl ?_
    refine y_s (pc' := 14) (L' := [some (vR (some 90))]) (st' := [vR (some 90), vR (some s)]) (h' := h) f74_13 rfl ?_
    refine y_gi (pc' := 17) f74_14 yf_6_62 rfl rfl (ys90 w) rfl ?_
    refine y_pi (pc' := 20) f74_17 yf_6_72 rfl rfl (ysS0 w hs) (yS_32 hs) (Or.inl rfl) rfl ?_
    refine y_s (pc' := 21) (L' := [some (vR (some 90))]) (st' := [vI 1]) (h' := (zsetV h s 4 (zV h 90 3))) f74_20 rfl ?_
    exact y_ri f74_21 ⟨rfl, k⟩
  · replace k := k.2 c
    refine y_s (pc' := 8) (L' := [some (vR (some 90))]) (st' := [vI 0]) (h' := h) f74_7 rfl ?_
    exact y_ri f74_8 ⟨rfl, k⟩
end YD
