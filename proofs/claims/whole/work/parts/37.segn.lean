/-! SEGMENTS N: the model, callers (printed by wip/whole/gen_dec.py) -/
theorem yf_8_85 : zfld 8 85 = some (8, 40) := rfl
theorem yf_8_94 : zfld 8 94 = some (8, 43) := rfl
theorem yf_8_97 : zfld 8 97 = some (8, 44) := rfl
theorem yf_8_279 : zfld 8 279 = some (8, 45) := rfl
theorem ym_8_135 : zmth 8 135 = some (0, 138) := rfl
theorem ym_8_138 : zmth 8 138 = some (0, 144) := rfl
theorem ym_8_145 : zmth 8 145 = some (0, 148) := rfl
theorem ym_8_148 : zmth 8 148 = some (0, 149) := rfl
theorem ym_8_173 : zmth 8 173 = some (0, 52) := rfl
theorem ym_8_178 : zmth 8 178 = some (0, 54) := rfl
theorem ym_8_190 : zmth 8 190 = some (0, 167) := rfl
theorem ym_8_195 : zmth 8 195 = some (0, 159) := rfl
theorem ym_8_221 : zmth 8 221 = some (0, 157) := rfl
theorem ym_8_232 : zmth 8 232 = some (0, 156) := rfl
theorem ym_8_260 : zmth 8 260 = some (0, 184) := rfl
theorem ym_8_263 : zmth 8 263 = some (0, 185) := rfl
theorem ym_8_266 : zmth 8 266 = some (0, 142) := rfl
theorem ym_8_276 : zmth 8 276 = some (0, 188) := rfl
theorem ym_8_282 : zmth 8 282 = some (0, 190) := rfl
theorem ym_8_289 : zmth 8 289 = some (0, 140) := rfl
theorem ym_8_292 : zmth 8 292 = some (0, 139) := rfl
theorem ym_8_303 : zmth 8 303 = some (2, 194) := rfl
theorem ym_10_505 : zmth 10 505 = some (0, 52) := rfl
theorem ym_10_633 : zmth 10 633 = some (0, 168) := rfl
theorem ym_10_637 : zmth 10 637 = some (2, 169) := rfl
theorem ym_10_640 : zmth 10 640 = some (2, 173) := rfl
theorem ym_11_38 : zmth 11 38 = some (11, 22) := rfl
theorem ym_11_88 : zmth 11 88 = some (2, 170) := rfl
theorem ym_11_92 : zmth 11 92 = some (12, 171) := rfl
theorem ym_11_95 : zmth 11 95 = some (2, 172) := rfl
theorem f130_0 : decode prog_10_method_7_code 0 = .ok (.aload_n 0, 1) := by decide +kernel
theorem f130_1 : decode prog_10_method_7_code 1 = .ok (.iload_n 1, 1) := by decide +kernel
theorem f130_2 : decode prog_10_method_7_code 2 = .ok (.invokevirtual 121, 3) := by decide +kernel
theorem f130_5 : decode prog_10_method_7_code 5 = .ok (.ifCond .ne 7, 3) := by decide +kernel
theorem f130_8 : decode prog_10_method_7_code 8 = .ok (.sipush (-10001), 3) := by decide +kernel
theorem f130_11 : decode prog_10_method_7_code 11 = .ok (.ireturn, 1) := by decide +kernel
theorem f130_12 : decode prog_10_method_7_code 12 = .ok (.iload_n 2, 1) := by decide +kernel
theorem f130_13 : decode prog_10_method_7_code 13 = .ok (.bipush 10, 2) := by decide +kernel
theorem f130_15 : decode prog_10_method_7_code 15 = .ok (.isub, 1) := by decide +kernel
theorem f130_16 : decode prog_10_method_7_code 16 = .ok (.invokestatic 125, 3) := by decide +kernel
theorem f130_19 : decode prog_10_method_7_code 19 = .ok (.ifCond .eq 18, 3) := by decide +kernel
theorem f130_22 : decode prog_10_method_7_code 22 = .ok (.aload_n 0, 1) := by decide +kernel
theorem f130_23 : decode prog_10_method_7_code 23 = .ok (.getfield 18, 3) := by decide +kernel
theorem f130_26 : decode prog_10_method_7_code 26 = .ok (.bipush 6, 2) := by decide +kernel
theorem f130_28 : decode prog_10_method_7_code 28 = .ok (.iload_n 1, 1) := by decide +kernel
theorem f130_29 : decode prog_10_method_7_code 29 = .ok (.imul, 1) := by decide +kernel
theorem f130_30 : decode prog_10_method_7_code 30 = .ok (.iload_n 2, 1) := by decide +kernel
theorem f130_31 : decode prog_10_method_7_code 31 = .ok (.iadd, 1) := by decide +kernel
theorem f130_32 : decode prog_10_method_7_code 32 = .ok (.bipush 10, 2) := by decide +kernel
theorem f130_34 : decode prog_10_method_7_code 34 = .ok (.isub, 1) := by decide +kernel
theorem f130_35 : decode prog_10_method_7_code 35 = .ok (.iaload, 1) := by decide +kernel
theorem f130_36 : decode prog_10_method_7_code 36 = .ok (.ireturn, 1) := by decide +kernel
theorem f130_37 : decode prog_10_method_7_code 37 = .ok (.iload_n 2, 1) := by decide +kernel
theorem f130_38 : decode prog_10_method_7_code 38 = .ok (.bipush 20, 2) := by decide +kernel
theorem f130_40 : decode prog_10_method_7_code 40 = .ok (.isub, 1) := by decide +kernel
theorem f130_41 : decode prog_10_method_7_code 41 = .ok (.invokestatic 125, 3) := by decide +kernel
theorem f130_44 : decode prog_10_method_7_code 44 = .ok (.ifCond .eq 13, 3) := by decide +kernel
theorem f130_47 : decode prog_10_method_7_code 47 = .ok (.aload_n 0, 1) := by decide +kernel
theorem f130_48 : decode prog_10_method_7_code 48 = .ok (.iload_n 1, 1) := by decide +kernel
theorem f130_49 : decode prog_10_method_7_code 49 = .ok (.iload_n 2, 1) := by decide +kernel
theorem f130_50 : decode prog_10_method_7_code 50 = .ok (.bipush 20, 2) := by decide +kernel
theorem f130_52 : decode prog_10_method_7_code 52 = .ok (.isub, 1) := by decide +kernel
theorem f130_53 : decode prog_10_method_7_code 53 = .ok (.invokevirtual 128, 3) := by decide +kernel
theorem f130_56 : decode prog_10_method_7_code 56 = .ok (.ireturn, 1) := by decide +kernel
theorem f130_57 : decode prog_10_method_7_code 57 = .ok (.iload_n 2, 1) := by decide +kernel
theorem f130_58 : decode prog_10_method_7_code 58 = .ok (.bipush 30, 2) := by decide +kernel
theorem f130_60 : decode prog_10_method_7_code 60 = .ok (.isub, 1) := by decide +kernel
theorem f130_61 : decode prog_10_method_7_code 61 = .ok (.invokestatic 125, 3) := by decide +kernel
theorem f130_64 : decode prog_10_method_7_code 64 = .ok (.ifCond .eq 13, 3) := by decide +kernel
theorem f130_67 : decode prog_10_method_7_code 67 = .ok (.aload_n 0, 1) := by decide +kernel
theorem f130_68 : decode prog_10_method_7_code 68 = .ok (.iload_n 1, 1) := by decide +kernel
theorem f130_69 : decode prog_10_method_7_code 69 = .ok (.iload_n 2, 1) := by decide +kernel
theorem f130_70 : decode prog_10_method_7_code 70 = .ok (.bipush 30, 2) := by decide +kernel
theorem f130_72 : decode prog_10_method_7_code 72 = .ok (.isub, 1) := by decide +kernel
theorem f130_73 : decode prog_10_method_7_code 73 = .ok (.invokevirtual 132, 3) := by decide +kernel
theorem f130_76 : decode prog_10_method_7_code 76 = .ok (.ireturn, 1) := by decide +kernel
theorem f130_77 : decode prog_10_method_7_code 77 = .ok (.iload_n 2, 1) := by decide +kernel
theorem f130_78 : decode prog_10_method_7_code 78 = .ok (.bipush 40, 2) := by decide +kernel
theorem f130_80 : decode prog_10_method_7_code 80 = .ok (.isub, 1) := by decide +kernel
theorem f130_81 : decode prog_10_method_7_code 81 = .ok (.invokestatic 125, 3) := by decide +kernel
theorem f130_84 : decode prog_10_method_7_code 84 = .ok (.ifCond .eq 13, 3) := by decide +kernel
theorem f130_87 : decode prog_10_method_7_code 87 = .ok (.aload_n 0, 1) := by decide +kernel
theorem f130_88 : decode prog_10_method_7_code 88 = .ok (.iload_n 1, 1) := by decide +kernel
theorem f130_89 : decode prog_10_method_7_code 89 = .ok (.iload_n 2, 1) := by decide +kernel
theorem f130_90 : decode prog_10_method_7_code 90 = .ok (.bipush 40, 2) := by decide +kernel
theorem f130_92 : decode prog_10_method_7_code 92 = .ok (.isub, 1) := by decide +kernel
theorem f130_93 : decode prog_10_method_7_code 93 = .ok (.invokevirtual 135, 3) := by decide +kernel
theorem f130_96 : decode prog_10_method_7_code 96 = .ok (.ireturn, 1) := by decide +kernel
theorem f130_97 : decode prog_10_method_7_code 97 = .ok (.iload_n 2, 1) := by decide +kernel
theorem f130_98 : decode prog_10_method_7_code 98 = .ok (.tableswitch 87 0 6 #[42, 49, 56, 63, 69, 75, 81], 42) := by decide +kernel
theorem f130_140 : decode prog_10_method_7_code 140 = .ok (.aload_n 0, 1) := by decide +kernel
theorem f130_141 : decode prog_10_method_7_code 141 = .ok (.getfield 9, 3) := by decide +kernel
theorem f130_144 : decode prog_10_method_7_code 144 = .ok (.iload_n 1, 1) := by decide +kernel
theorem f130_145 : decode prog_10_method_7_code 145 = .ok (.iaload, 1) := by decide +kernel
theorem f130_146 : decode prog_10_method_7_code 146 = .ok (.ireturn, 1) := by decide +kernel
theorem f130_147 : decode prog_10_method_7_code 147 = .ok (.aload_n 0, 1) := by decide +kernel
theorem f130_148 : decode prog_10_method_7_code 148 = .ok (.getfield 15, 3) := by decide +kernel
theorem f130_151 : decode prog_10_method_7_code 151 = .ok (.iload_n 1, 1) := by decide +kernel
theorem f130_152 : decode prog_10_method_7_code 152 = .ok (.iaload, 1) := by decide +kernel
theorem f130_153 : decode prog_10_method_7_code 153 = .ok (.ireturn, 1) := by decide +kernel
theorem f130_154 : decode prog_10_method_7_code 154 = .ok (.aload_n 0, 1) := by decide +kernel
theorem f130_155 : decode prog_10_method_7_code 155 = .ok (.getfield 21, 3) := by decide +kernel
theorem f130_158 : decode prog_10_method_7_code 158 = .ok (.iload_n 1, 1) := by decide +kernel
theorem f130_159 : decode prog_10_method_7_code 159 = .ok (.iaload, 1) := by decide +kernel
theorem f130_160 : decode prog_10_method_7_code 160 = .ok (.ireturn, 1) := by decide +kernel
theorem f130_161 : decode prog_10_method_7_code 161 = .ok (.aload_n 0, 1) := by decide +kernel
theorem f130_162 : decode prog_10_method_7_code 162 = .ok (.iload_n 1, 1) := by decide +kernel
theorem f130_163 : decode prog_10_method_7_code 163 = .ok (.invokevirtual 138, 3) := by decide +kernel
theorem f130_166 : decode prog_10_method_7_code 166 = .ok (.ireturn, 1) := by decide +kernel
theorem f130_167 : decode prog_10_method_7_code 167 = .ok (.aload_n 0, 1) := by decide +kernel
theorem f130_168 : decode prog_10_method_7_code 168 = .ok (.iload_n 1, 1) := by decide +kernel
theorem f130_169 : decode prog_10_method_7_code 169 = .ok (.invokevirtual 142, 3) := by decide +kernel
theorem f130_172 : decode prog_10_method_7_code 172 = .ok (.ireturn, 1) := by decide +kernel
theorem f130_173 : decode prog_10_method_7_code 173 = .ok (.aload_n 0, 1) := by decide +kernel
theorem f130_174 : decode prog_10_method_7_code 174 = .ok (.iload_n 1, 1) := by decide +kernel
theorem f130_175 : decode prog_10_method_7_code 175 = .ok (.invokevirtual 145, 3) := by decide +kernel
theorem f130_178 : decode prog_10_method_7_code 178 = .ok (.ireturn, 1) := by decide +kernel
theorem f130_179 : decode prog_10_method_7_code 179 = .ok (.aload_n 0, 1) := by decide +kernel
theorem f130_180 : decode prog_10_method_7_code 180 = .ok (.iload_n 1, 1) := by decide +kernel
theorem f130_181 : decode prog_10_method_7_code 181 = .ok (.invokevirtual 148, 3) := by decide +kernel
theorem f130_184 : decode prog_10_method_7_code 184 = .ok (.ireturn, 1) := by decide +kernel
theorem f130_185 : decode prog_10_method_7_code 185 = .ok (.sipush (-10001), 3) := by decide +kernel
theorem f130_188 : decode prog_10_method_7_code 188 = .ok (.ireturn, 1) := by decide +kernel
theorem f138_0 : decode prog_10_method_47_code 0 = .ok (.aload_n 0, 1) := by decide +kernel
theorem f138_1 : decode prog_10_method_47_code 1 = .ok (.getfield 18, 3) := by decide +kernel
theorem f138_4 : decode prog_10_method_47_code 4 = .ok (.bipush 6, 2) := by decide +kernel
theorem f138_6 : decode prog_10_method_47_code 6 = .ok (.iload_n 1, 1) := by decide +kernel
theorem f138_7 : decode prog_10_method_47_code 7 = .ok (.imul, 1) := by decide +kernel
theorem f138_8 : decode prog_10_method_47_code 8 = .ok (.iload_n 2, 1) := by decide +kernel
theorem f138_9 : decode prog_10_method_47_code 9 = .ok (.iadd, 1) := by decide +kernel
theorem f138_10 : decode prog_10_method_47_code 10 = .ok (.iaload, 1) := by decide +kernel
theorem f138_11 : decode prog_10_method_47_code 11 = .ok (.istore_n 3, 1) := by decide +kernel
theorem f138_12 : decode prog_10_method_47_code 12 = .ok (.iconst 0, 1) := by decide +kernel
theorem f138_13 : decode prog_10_method_47_code 13 = .ok (.istore 4, 2) := by decide +kernel
theorem f138_15 : decode prog_10_method_47_code 15 = .ok (.iconst 0, 1) := by decide +kernel
theorem f138_16 : decode prog_10_method_47_code 16 = .ok (.istore 5, 2) := by decide +kernel
theorem f138_18 : decode prog_10_method_47_code 18 = .ok (.iload 5, 2) := by decide +kernel
theorem f138_20 : decode prog_10_method_47_code 20 = .ok (.bipush 10, 2) := by decide +kernel
theorem f138_22 : decode prog_10_method_47_code 22 = .ok (.if_icmp .ge 39, 3) := by decide +kernel
theorem f138_25 : decode prog_10_method_47_code 25 = .ok (.aload_n 0, 1) := by decide +kernel
theorem f138_26 : decode prog_10_method_47_code 26 = .ok (.getfield 18, 3) := by decide +kernel
theorem f138_29 : decode prog_10_method_47_code 29 = .ok (.bipush 6, 2) := by decide +kernel
theorem f138_31 : decode prog_10_method_47_code 31 = .ok (.iload_n 1, 1) := by decide +kernel
theorem f138_32 : decode prog_10_method_47_code 32 = .ok (.imul, 1) := by decide +kernel
theorem f138_33 : decode prog_10_method_47_code 33 = .ok (.iload_n 2, 1) := by decide +kernel
theorem f138_34 : decode prog_10_method_47_code 34 = .ok (.iadd, 1) := by decide +kernel
theorem f138_35 : decode prog_10_method_47_code 35 = .ok (.iload 5, 2) := by decide +kernel
theorem f138_37 : decode prog_10_method_47_code 37 = .ok (.iastore, 1) := by decide +kernel
theorem f138_38 : decode prog_10_method_47_code 38 = .ok (.aload_n 0, 1) := by decide +kernel
theorem f138_39 : decode prog_10_method_47_code 39 = .ok (.iload_n 1, 1) := by decide +kernel
theorem f138_40 : decode prog_10_method_47_code 40 = .ok (.invokevirtual 292, 3) := by decide +kernel
theorem f138_43 : decode prog_10_method_47_code 43 = .ok (.ifCond .eq 12, 3) := by decide +kernel
theorem f138_46 : decode prog_10_method_47_code 46 = .ok (.iload 4, 2) := by decide +kernel
theorem f138_48 : decode prog_10_method_47_code 48 = .ok (.iconst 1, 1) := by decide +kernel
theorem f138_49 : decode prog_10_method_47_code 49 = .ok (.iload 5, 2) := by decide +kernel
theorem f138_51 : decode prog_10_method_47_code 51 = .ok (.ishl, 1) := by decide +kernel
theorem f138_52 : decode prog_10_method_47_code 52 = .ok (.ior, 1) := by decide +kernel
theorem f138_53 : decode prog_10_method_47_code 53 = .ok (.istore 4, 2) := by decide +kernel
theorem f138_55 : decode prog_10_method_47_code 55 = .ok (.iinc 5 1, 3) := by decide +kernel
theorem f138_58 : decode prog_10_method_47_code 58 = .ok (.goto (-40), 3) := by decide +kernel
theorem f138_61 : decode prog_10_method_47_code 61 = .ok (.aload_n 0, 1) := by decide +kernel
theorem f138_62 : decode prog_10_method_47_code 62 = .ok (.getfield 18, 3) := by decide +kernel
theorem f138_65 : decode prog_10_method_47_code 65 = .ok (.bipush 6, 2) := by decide +kernel
theorem f138_67 : decode prog_10_method_47_code 67 = .ok (.iload_n 1, 1) := by decide +kernel
theorem f138_68 : decode prog_10_method_47_code 68 = .ok (.imul, 1) := by decide +kernel
theorem f138_69 : decode prog_10_method_47_code 69 = .ok (.iload_n 2, 1) := by decide +kernel
theorem f138_70 : decode prog_10_method_47_code 70 = .ok (.iadd, 1) := by decide +kernel
theorem f138_71 : decode prog_10_method_47_code 71 = .ok (.iload_n 3, 1) := by decide +kernel
theorem f138_72 : decode prog_10_method_47_code 72 = .ok (.iastore, 1) := by decide +kernel
theorem f138_73 : decode prog_10_method_47_code 73 = .ok (.iload 4, 2) := by decide +kernel
theorem f138_75 : decode prog_10_method_47_code 75 = .ok (.ireturn, 1) := by decide +kernel
theorem f139_0 : decode prog_10_method_46_code 0 = .ok (.iconst 0, 1) := by decide +kernel
theorem f139_1 : decode prog_10_method_46_code 1 = .ok (.istore_n 2, 1) := by decide +kernel
theorem f139_2 : decode prog_10_method_46_code 2 = .ok (.iload_n 2, 1) := by decide +kernel
theorem f139_3 : decode prog_10_method_46_code 3 = .ok (.aload_n 0, 1) := by decide +kernel
theorem f139_4 : decode prog_10_method_46_code 4 = .ok (.getfield 286, 3) := by decide +kernel
theorem f139_7 : decode prog_10_method_46_code 7 = .ok (.if_icmp .ge 47, 3) := by decide +kernel
theorem f139_10 : decode prog_10_method_46_code 10 = .ok (.aload_n 0, 1) := by decide +kernel
theorem f139_11 : decode prog_10_method_46_code 11 = .ok (.getfield 55, 3) := by decide +kernel
theorem f139_14 : decode prog_10_method_46_code 14 = .ok (.iload_n 2, 1) := by decide +kernel
theorem f139_15 : decode prog_10_method_46_code 15 = .ok (.iaload, 1) := by decide +kernel
theorem f139_16 : decode prog_10_method_46_code 16 = .ok (.iload_n 1, 1) := by decide +kernel
theorem f139_17 : decode prog_10_method_46_code 17 = .ok (.if_icmp .ne 31, 3) := by decide +kernel
theorem f139_20 : decode prog_10_method_46_code 20 = .ok (.aload_n 0, 1) := by decide +kernel
theorem f139_21 : decode prog_10_method_46_code 21 = .ok (.aload_n 0, 1) := by decide +kernel
theorem f139_22 : decode prog_10_method_46_code 22 = .ok (.getfield 61, 3) := by decide +kernel
theorem f139_25 : decode prog_10_method_46_code 25 = .ok (.iload_n 2, 1) := by decide +kernel
theorem f139_26 : decode prog_10_method_46_code 26 = .ok (.iaload, 1) := by decide +kernel
theorem f139_27 : decode prog_10_method_46_code 27 = .ok (.iload_n 1, 1) := by decide +kernel
theorem f139_28 : decode prog_10_method_46_code 28 = .ok (.aload_n 0, 1) := by decide +kernel
theorem f139_29 : decode prog_10_method_46_code 29 = .ok (.getfield 58, 3) := by decide +kernel
theorem f139_32 : decode prog_10_method_46_code 32 = .ok (.iload_n 2, 1) := by decide +kernel
theorem f139_33 : decode prog_10_method_46_code 33 = .ok (.iaload, 1) := by decide +kernel
theorem f139_34 : decode prog_10_method_46_code 34 = .ok (.invokevirtual 289, 3) := by decide +kernel
theorem f139_37 : decode prog_10_method_46_code 37 = .ok (.aload_n 0, 1) := by decide +kernel
theorem f139_38 : decode prog_10_method_46_code 38 = .ok (.getfield 64, 3) := by decide +kernel
theorem f139_41 : decode prog_10_method_46_code 41 = .ok (.iload_n 2, 1) := by decide +kernel
theorem f139_42 : decode prog_10_method_46_code 42 = .ok (.iaload, 1) := by decide +kernel
theorem f139_43 : decode prog_10_method_46_code 43 = .ok (.if_icmp .eq 5, 3) := by decide +kernel
theorem f139_46 : decode prog_10_method_46_code 46 = .ok (.iconst 0, 1) := by decide +kernel
theorem f139_47 : decode prog_10_method_46_code 47 = .ok (.ireturn, 1) := by decide +kernel
theorem f139_48 : decode prog_10_method_46_code 48 = .ok (.iinc 2 1, 3) := by decide +kernel
theorem f139_51 : decode prog_10_method_46_code 51 = .ok (.goto (-49), 3) := by decide +kernel
theorem f139_54 : decode prog_10_method_46_code 54 = .ok (.iconst 1, 1) := by decide +kernel
theorem f139_55 : decode prog_10_method_46_code 55 = .ok (.ireturn, 1) := by decide +kernel
theorem f140_0 : decode prog_10_method_38_code 0 = .ok (.aload_n 0, 1) := by decide +kernel
theorem f140_1 : decode prog_10_method_38_code 1 = .ok (.iload_n 2, 1) := by decide +kernel
theorem f140_2 : decode prog_10_method_38_code 2 = .ok (.invokevirtual 121, 3) := by decide +kernel
theorem f140_5 : decode prog_10_method_38_code 5 = .ok (.ifCond .eq 26, 3) := by decide +kernel
theorem f140_8 : decode prog_10_method_38_code 8 = .ok (.iload_n 3, 1) := by decide +kernel
theorem f140_9 : decode prog_10_method_38_code 9 = .ok (.invokestatic 125, 3) := by decide +kernel
theorem f140_12 : decode prog_10_method_38_code 12 = .ok (.ifCond .ne 21, 3) := by decide +kernel
theorem f140_15 : decode prog_10_method_38_code 15 = .ok (.iload_n 3, 1) := by decide +kernel
theorem f140_16 : decode prog_10_method_38_code 16 = .ok (.bipush 10, 2) := by decide +kernel
theorem f140_18 : decode prog_10_method_38_code 18 = .ok (.isub, 1) := by decide +kernel
theorem f140_19 : decode prog_10_method_38_code 19 = .ok (.invokestatic 125, 3) := by decide +kernel
theorem f140_22 : decode prog_10_method_38_code 22 = .ok (.ifCond .ne 11, 3) := by decide +kernel
theorem f140_25 : decode prog_10_method_38_code 25 = .ok (.iload_n 3, 1) := by decide +kernel
theorem f140_26 : decode prog_10_method_38_code 26 = .ok (.bipush 20, 2) := by decide +kernel
theorem f140_28 : decode prog_10_method_38_code 28 = .ok (.if_icmp .eq 5, 3) := by decide +kernel
theorem f140_31 : decode prog_10_method_38_code 31 = .ok (.iconst (-1), 1) := by decide +kernel
theorem f140_32 : decode prog_10_method_38_code 32 = .ok (.ireturn, 1) := by decide +kernel
theorem f140_33 : decode prog_10_method_38_code 33 = .ok (.iload_n 1, 1) := by decide +kernel
theorem f140_34 : decode prog_10_method_38_code 34 = .ok (.iconst 0, 1) := by decide +kernel
theorem f140_35 : decode prog_10_method_38_code 35 = .ok (.bipush 60, 2) := by decide +kernel
theorem f140_37 : decode prog_10_method_38_code 37 = .ok (.invokestatic 117, 3) := by decide +kernel
theorem f140_40 : decode prog_10_method_38_code 40 = .ok (.ifCond .ne 6, 3) := by decide +kernel
theorem f140_43 : decode prog_10_method_38_code 43 = .ok (.bipush (-2), 2) := by decide +kernel
theorem f140_45 : decode prog_10_method_38_code 45 = .ok (.ireturn, 1) := by decide +kernel
theorem f140_46 : decode prog_10_method_38_code 46 = .ok (.aload_n 0, 1) := by decide +kernel
theorem f140_47 : decode prog_10_method_38_code 47 = .ok (.aload_n 0, 1) := by decide +kernel
theorem f140_48 : decode prog_10_method_38_code 48 = .ok (.getfield 85, 3) := by decide +kernel
theorem f140_51 : decode prog_10_method_38_code 51 = .ok (.invokevirtual 269, 3) := by decide +kernel
theorem f140_54 : decode prog_10_method_38_code 54 = .ok (.iconst 0, 1) := by decide +kernel
theorem f140_55 : decode prog_10_method_38_code 55 = .ok (.istore 4, 2) := by decide +kernel
theorem f140_57 : decode prog_10_method_38_code 57 = .ok (.iload 4, 2) := by decide +kernel
theorem f140_59 : decode prog_10_method_38_code 59 = .ok (.iload_n 1, 1) := by decide +kernel
theorem f140_60 : decode prog_10_method_38_code 60 = .ok (.if_icmp .ge 13, 3) := by decide +kernel
theorem f140_63 : decode prog_10_method_38_code 63 = .ok (.aload_n 0, 1) := by decide +kernel
theorem f140_64 : decode prog_10_method_38_code 64 = .ok (.invokevirtual 266, 3) := by decide +kernel
theorem f140_67 : decode prog_10_method_38_code 67 = .ok (.iinc 4 1, 3) := by decide +kernel
theorem f140_70 : decode prog_10_method_38_code 70 = .ok (.goto (-13), 3) := by decide +kernel
theorem f140_73 : decode prog_10_method_38_code 73 = .ok (.iload_n 3, 1) := by decide +kernel
theorem f140_74 : decode prog_10_method_38_code 74 = .ok (.bipush 20, 2) := by decide +kernel
theorem f140_76 : decode prog_10_method_38_code 76 = .ok (.if_icmp .ne 11, 3) := by decide +kernel
theorem f140_79 : decode prog_10_method_38_code 79 = .ok (.aload_n 0, 1) := by decide +kernel
theorem f140_80 : decode prog_10_method_38_code 80 = .ok (.iload_n 2, 1) := by decide +kernel
theorem f140_81 : decode prog_10_method_38_code 81 = .ok (.invokevirtual 138, 3) := by decide +kernel
theorem f140_84 : decode prog_10_method_38_code 84 = .ok (.goto 32, 3) := by decide +kernel
theorem f140_87 : decode prog_10_method_38_code 87 = .ok (.iload_n 3, 1) := by decide +kernel
theorem f140_88 : decode prog_10_method_38_code 88 = .ok (.bipush 10, 2) := by decide +kernel
theorem f140_90 : decode prog_10_method_38_code 90 = .ok (.if_icmp .ge 12, 3) := by decide +kernel
theorem f140_93 : decode prog_10_method_38_code 93 = .ok (.aload_n 0, 1) := by decide +kernel
theorem f140_94 : decode prog_10_method_38_code 94 = .ok (.iload_n 2, 1) := by decide +kernel
theorem f140_95 : decode prog_10_method_38_code 95 = .ok (.iload_n 3, 1) := by decide +kernel
theorem f140_96 : decode prog_10_method_38_code 96 = .ok (.invokevirtual 128, 3) := by decide +kernel
theorem f140_99 : decode prog_10_method_38_code 99 = .ok (.goto 17, 3) := by decide +kernel
theorem f140_102 : decode prog_10_method_38_code 102 = .ok (.aload_n 0, 1) := by decide +kernel
theorem f140_103 : decode prog_10_method_38_code 103 = .ok (.getfield 18, 3) := by decide +kernel
theorem f140_106 : decode prog_10_method_38_code 106 = .ok (.bipush 6, 2) := by decide +kernel
theorem f140_108 : decode prog_10_method_38_code 108 = .ok (.iload_n 2, 1) := by decide +kernel
theorem f140_109 : decode prog_10_method_38_code 109 = .ok (.imul, 1) := by decide +kernel
theorem f140_110 : decode prog_10_method_38_code 110 = .ok (.iload_n 3, 1) := by decide +kernel
theorem f140_111 : decode prog_10_method_38_code 111 = .ok (.iadd, 1) := by decide +kernel
theorem f140_112 : decode prog_10_method_38_code 112 = .ok (.bipush 10, 2) := by decide +kernel
theorem f140_114 : decode prog_10_method_38_code 114 = .ok (.isub, 1) := by decide +kernel
theorem f140_115 : decode prog_10_method_38_code 115 = .ok (.iaload, 1) := by decide +kernel
theorem f140_116 : decode prog_10_method_38_code 116 = .ok (.istore 4, 2) := by decide +kernel
theorem f140_118 : decode prog_10_method_38_code 118 = .ok (.aload_n 0, 1) := by decide +kernel
theorem f140_119 : decode prog_10_method_38_code 119 = .ok (.aload_n 0, 1) := by decide +kernel
theorem f140_120 : decode prog_10_method_38_code 120 = .ok (.getfield 85, 3) := by decide +kernel
theorem f140_123 : decode prog_10_method_38_code 123 = .ok (.invokevirtual 273, 3) := by decide +kernel
theorem f140_126 : decode prog_10_method_38_code 126 = .ok (.iload 4, 2) := by decide +kernel
theorem f140_128 : decode prog_10_method_38_code 128 = .ok (.ireturn, 1) := by decide +kernel
theorem f148_0 : decode prog_10_method_39_code 0 = .ok (.aload_n 0, 1) := by decide +kernel
theorem f148_1 : decode prog_10_method_39_code 1 = .ok (.aload_n 0, 1) := by decide +kernel
theorem f148_2 : decode prog_10_method_39_code 2 = .ok (.getfield 85, 3) := by decide +kernel
theorem f148_5 : decode prog_10_method_39_code 5 = .ok (.invokevirtual 269, 3) := by decide +kernel
theorem f148_8 : decode prog_10_method_39_code 8 = .ok (.bipush (-5), 2) := by decide +kernel
theorem f148_10 : decode prog_10_method_39_code 10 = .ok (.istore_n 2, 1) := by decide +kernel
theorem f148_11 : decode prog_10_method_39_code 11 = .ok (.iconst 0, 1) := by decide +kernel
theorem f148_12 : decode prog_10_method_39_code 12 = .ok (.istore_n 3, 1) := by decide +kernel
theorem f148_13 : decode prog_10_method_39_code 13 = .ok (.iload_n 3, 1) := by decide +kernel
theorem f148_14 : decode prog_10_method_39_code 14 = .ok (.bipush 60, 2) := by decide +kernel
theorem f148_16 : decode prog_10_method_39_code 16 = .ok (.if_icmp .gt 35, 3) := by decide +kernel
theorem f148_19 : decode prog_10_method_39_code 19 = .ok (.iload_n 2, 1) := by decide +kernel
theorem f148_20 : decode prog_10_method_39_code 20 = .ok (.bipush (-5), 2) := by decide +kernel
theorem f148_22 : decode prog_10_method_39_code 22 = .ok (.if_icmp .ne 29, 3) := by decide +kernel
theorem f148_25 : decode prog_10_method_39_code 25 = .ok (.iload_n 3, 1) := by decide +kernel
theorem f148_26 : decode prog_10_method_39_code 26 = .ok (.ifCond .le 7, 3) := by decide +kernel
theorem f148_29 : decode prog_10_method_39_code 29 = .ok (.aload_n 0, 1) := by decide +kernel
theorem f148_30 : decode prog_10_method_39_code 30 = .ok (.invokevirtual 266, 3) := by decide +kernel
theorem f148_33 : decode prog_10_method_39_code 33 = .ok (.aload_n 0, 1) := by decide +kernel
theorem f148_34 : decode prog_10_method_39_code 34 = .ok (.iload_n 1, 1) := by decide +kernel
theorem f148_35 : decode prog_10_method_39_code 35 = .ok (.invokevirtual 142, 3) := by decide +kernel
theorem f148_38 : decode prog_10_method_39_code 38 = .ok (.bipush (-5), 2) := by decide +kernel
theorem f148_40 : decode prog_10_method_39_code 40 = .ok (.if_icmp .eq 5, 3) := by decide +kernel
theorem f148_43 : decode prog_10_method_39_code 43 = .ok (.iload_n 3, 1) := by decide +kernel
theorem f148_44 : decode prog_10_method_39_code 44 = .ok (.istore_n 2, 1) := by decide +kernel
theorem f148_45 : decode prog_10_method_39_code 45 = .ok (.iinc 3 1, 3) := by decide +kernel
theorem f148_48 : decode prog_10_method_39_code 48 = .ok (.goto (-35), 3) := by decide +kernel
theorem f148_51 : decode prog_10_method_39_code 51 = .ok (.aload_n 0, 1) := by decide +kernel
theorem f148_52 : decode prog_10_method_39_code 52 = .ok (.aload_n 0, 1) := by decide +kernel
theorem f148_53 : decode prog_10_method_39_code 53 = .ok (.getfield 85, 3) := by decide +kernel
theorem f148_56 : decode prog_10_method_39_code 56 = .ok (.invokevirtual 273, 3) := by decide +kernel
theorem f148_59 : decode prog_10_method_39_code 59 = .ok (.iload_n 2, 1) := by decide +kernel
theorem f148_60 : decode prog_10_method_39_code 60 = .ok (.ireturn, 1) := by decide +kernel
theorem f149_0 : decode prog_10_method_44_code 0 = .ok (.bipush (-5), 2) := by decide +kernel
theorem f149_2 : decode prog_10_method_44_code 2 = .ok (.istore_n 2, 1) := by decide +kernel
theorem f149_3 : decode prog_10_method_44_code 3 = .ok (.iconst 5, 1) := by decide +kernel
theorem f149_4 : decode prog_10_method_44_code 4 = .ok (.istore_n 3, 1) := by decide +kernel
theorem f149_5 : decode prog_10_method_44_code 5 = .ok (.iload_n 3, 1) := by decide +kernel
theorem f149_6 : decode prog_10_method_44_code 6 = .ok (.ifCond .lt 81, 3) := by decide +kernel
theorem f149_9 : decode prog_10_method_44_code 9 = .ok (.aload_n 0, 1) := by decide +kernel
theorem f149_10 : decode prog_10_method_44_code 10 = .ok (.getfield 18, 3) := by decide +kernel
theorem f149_13 : decode prog_10_method_44_code 13 = .ok (.bipush 6, 2) := by decide +kernel
theorem f149_15 : decode prog_10_method_44_code 15 = .ok (.iload_n 1, 1) := by decide +kernel
theorem f149_16 : decode prog_10_method_44_code 16 = .ok (.imul, 1) := by decide +kernel
theorem f149_17 : decode prog_10_method_44_code 17 = .ok (.iload_n 3, 1) := by decide +kernel
theorem f149_18 : decode prog_10_method_44_code 18 = .ok (.iadd, 1) := by decide +kernel
theorem f149_19 : decode prog_10_method_44_code 19 = .ok (.iaload, 1) := by decide +kernel
theorem f149_20 : decode prog_10_method_44_code 20 = .ok (.istore 4, 2) := by decide +kernel
theorem f149_22 : decode prog_10_method_44_code 22 = .ok (.bipush 9, 2) := by decide +kernel
theorem f149_24 : decode prog_10_method_44_code 24 = .ok (.istore 5, 2) := by decide +kernel
theorem f149_26 : decode prog_10_method_44_code 26 = .ok (.iload 5, 2) := by decide +kernel
theorem f149_28 : decode prog_10_method_44_code 28 = .ok (.ifCond .lt 40, 3) := by decide +kernel
theorem f149_31 : decode prog_10_method_44_code 31 = .ok (.aload_n 0, 1) := by decide +kernel
theorem f149_32 : decode prog_10_method_44_code 32 = .ok (.getfield 18, 3) := by decide +kernel
theorem f149_35 : decode prog_10_method_44_code 35 = .ok (.bipush 6, 2) := by decide +kernel
theorem f149_37 : decode prog_10_method_44_code 37 = .ok (.iload_n 1, 1) := by decide +kernel
theorem f149_38 : decode prog_10_method_44_code 38 = .ok (.imul, 1) := by decide +kernel
theorem f149_39 : decode prog_10_method_44_code 39 = .ok (.iload_n 3, 1) := by decide +kernel
theorem f149_40 : decode prog_10_method_44_code 40 = .ok (.iadd, 1) := by decide +kernel
theorem f149_41 : decode prog_10_method_44_code 41 = .ok (.iload 5, 2) := by decide +kernel
theorem f149_43 : decode prog_10_method_44_code 43 = .ok (.iastore, 1) := by decide +kernel
theorem f149_44 : decode prog_10_method_44_code 44 = .ok (.aload_n 0, 1) := by decide +kernel
theorem f149_45 : decode prog_10_method_44_code 45 = .ok (.iload_n 1, 1) := by decide +kernel
theorem f149_46 : decode prog_10_method_44_code 46 = .ok (.invokevirtual 142, 3) := by decide +kernel
theorem f149_49 : decode prog_10_method_44_code 49 = .ok (.bipush (-5), 2) := by decide +kernel
theorem f149_51 : decode prog_10_method_44_code 51 = .ok (.if_icmp .eq 11, 3) := by decide +kernel
theorem f149_54 : decode prog_10_method_44_code 54 = .ok (.bipush 10, 2) := by decide +kernel
theorem f149_56 : decode prog_10_method_44_code 56 = .ok (.iload_n 3, 1) := by decide +kernel
theorem f149_57 : decode prog_10_method_44_code 57 = .ok (.imul, 1) := by decide +kernel
theorem f149_58 : decode prog_10_method_44_code 58 = .ok (.iload 5, 2) := by decide +kernel
theorem f149_60 : decode prog_10_method_44_code 60 = .ok (.iadd, 1) := by decide +kernel
theorem f149_61 : decode prog_10_method_44_code 61 = .ok (.istore_n 2, 1) := by decide +kernel
theorem f149_62 : decode prog_10_method_44_code 62 = .ok (.iinc 5 (-1), 3) := by decide +kernel
theorem f149_65 : decode prog_10_method_44_code 65 = .ok (.goto (-39), 3) := by decide +kernel
theorem f149_68 : decode prog_10_method_44_code 68 = .ok (.aload_n 0, 1) := by decide +kernel
theorem f149_69 : decode prog_10_method_44_code 69 = .ok (.getfield 18, 3) := by decide +kernel
theorem f149_72 : decode prog_10_method_44_code 72 = .ok (.bipush 6, 2) := by decide +kernel
theorem f149_74 : decode prog_10_method_44_code 74 = .ok (.iload_n 1, 1) := by decide +kernel
theorem f149_75 : decode prog_10_method_44_code 75 = .ok (.imul, 1) := by decide +kernel
theorem f149_76 : decode prog_10_method_44_code 76 = .ok (.iload_n 3, 1) := by decide +kernel
theorem f149_77 : decode prog_10_method_44_code 77 = .ok (.iadd, 1) := by decide +kernel
theorem f149_78 : decode prog_10_method_44_code 78 = .ok (.iload 4, 2) := by decide +kernel
theorem f149_80 : decode prog_10_method_44_code 80 = .ok (.iastore, 1) := by decide +kernel
theorem f149_81 : decode prog_10_method_44_code 81 = .ok (.iinc 3 (-1), 3) := by decide +kernel
theorem f149_84 : decode prog_10_method_44_code 84 = .ok (.goto (-79), 3) := by decide +kernel
theorem f149_87 : decode prog_10_method_44_code 87 = .ok (.iload_n 2, 1) := by decide +kernel
theorem f149_88 : decode prog_10_method_44_code 88 = .ok (.ireturn, 1) := by decide +kernel
theorem f155_0 : decode prog_10_method_23_code 0 = .ok (.aload_n 0, 1) := by decide +kernel
theorem f155_1 : decode prog_10_method_23_code 1 = .ok (.getfield 229, 3) := by decide +kernel
theorem f155_4 : decode prog_10_method_23_code 4 = .ok (.bipush 6, 2) := by decide +kernel
theorem f155_6 : decode prog_10_method_23_code 6 = .ok (.if_icmp .ne 6, 3) := by decide +kernel
theorem f155_9 : decode prog_10_method_23_code 9 = .ok (.bipush (-4), 2) := by decide +kernel
theorem f155_11 : decode prog_10_method_23_code 11 = .ok (.ireturn, 1) := by decide +kernel
theorem f155_12 : decode prog_10_method_23_code 12 = .ok (.aload_n 0, 1) := by decide +kernel
theorem f155_13 : decode prog_10_method_23_code 13 = .ok (.getfield 185, 3) := by decide +kernel
theorem f155_16 : decode prog_10_method_23_code 16 = .ok (.istore_n 1, 1) := by decide +kernel
theorem f155_17 : decode prog_10_method_23_code 17 = .ok (.aload_n 0, 1) := by decide +kernel
theorem f155_18 : decode prog_10_method_23_code 18 = .ok (.iconst 0, 1) := by decide +kernel
theorem f155_19 : decode prog_10_method_23_code 19 = .ok (.putfield 160, 3) := by decide +kernel
theorem f155_22 : decode prog_10_method_23_code 22 = .ok (.iconst 0, 1) := by decide +kernel
theorem f155_23 : decode prog_10_method_23_code 23 = .ok (.istore_n 2, 1) := by decide +kernel
theorem f155_24 : decode prog_10_method_23_code 24 = .ok (.iconst 1, 1) := by decide +kernel
theorem f155_25 : decode prog_10_method_23_code 25 = .ok (.istore_n 3, 1) := by decide +kernel
theorem f155_26 : decode prog_10_method_23_code 26 = .ok (.iconst 0, 1) := by decide +kernel
theorem f155_27 : decode prog_10_method_23_code 27 = .ok (.istore 4, 2) := by decide +kernel
theorem f155_29 : decode prog_10_method_23_code 29 = .ok (.iload_n 3, 1) := by decide +kernel
theorem f155_30 : decode prog_10_method_23_code 30 = .ok (.ifCond .eq 93, 3) := by decide +kernel
theorem f155_33 : decode prog_10_method_23_code 33 = .ok (.iload 4, 2) := by decide +kernel
theorem f155_35 : decode prog_10_method_23_code 35 = .ok (.ifCond .ne 88, 3) := by decide +kernel
theorem f155_38 : decode prog_10_method_23_code 38 = .ok (.iload_n 2, 1) := by decide +kernel
theorem f155_39 : decode prog_10_method_23_code 39 = .ok (.bipush 10, 2) := by decide +kernel
theorem f155_41 : decode prog_10_method_23_code 41 = .ok (.if_icmp .ge 23, 3) := by decide +kernel
theorem f155_44 : decode prog_10_method_23_code 44 = .ok (.aload_n 0, 1) := by decide +kernel
theorem f155_45 : decode prog_10_method_23_code 45 = .ok (.bipush 10, 2) := by decide +kernel
theorem f155_47 : decode prog_10_method_23_code 47 = .ok (.aload_n 0, 1) := by decide +kernel
theorem f155_48 : decode prog_10_method_23_code 48 = .ok (.getfield 229, 3) := by decide +kernel
theorem f155_51 : decode prog_10_method_23_code 51 = .ok (.imul, 1) := by decide +kernel
theorem f155_52 : decode prog_10_method_23_code 52 = .ok (.iload_n 2, 1) := by decide +kernel
theorem f155_53 : decode prog_10_method_23_code 53 = .ok (.iadd, 1) := by decide +kernel
theorem f155_54 : decode prog_10_method_23_code 54 = .ok (.invokevirtual 232, 3) := by decide +kernel
theorem f155_57 : decode prog_10_method_23_code 57 = .ok (.ifCond .eq 7, 3) := by decide +kernel
theorem f155_60 : decode prog_10_method_23_code 60 = .ok (.iconst 1, 1) := by decide +kernel
theorem f155_61 : decode prog_10_method_23_code 61 = .ok (.goto 4, 3) := by decide +kernel
theorem f155_64 : decode prog_10_method_23_code 64 = .ok (.iconst 0, 1) := by decide +kernel
theorem f155_65 : decode prog_10_method_23_code 65 = .ok (.istore_n 3, 1) := by decide +kernel
theorem f155_66 : decode prog_10_method_23_code 66 = .ok (.iload_n 3, 1) := by decide +kernel
theorem f155_67 : decode prog_10_method_23_code 67 = .ok (.ifCond .ne 6, 3) := by decide +kernel
theorem f155_70 : decode prog_10_method_23_code 70 = .ok (.goto (-41), 3) := by decide +kernel
theorem f155_73 : decode prog_10_method_23_code 73 = .ok (.iinc 2 1, 3) := by decide +kernel
theorem f155_76 : decode prog_10_method_23_code 76 = .ok (.aload_n 0, 1) := by decide +kernel
theorem f155_77 : decode prog_10_method_23_code 77 = .ok (.getfield 160, 3) := by decide +kernel
theorem f155_80 : decode prog_10_method_23_code 80 = .ok (.aload_n 0, 1) := by decide +kernel
theorem f155_81 : decode prog_10_method_23_code 81 = .ok (.getfield 157, 3) := by decide +kernel
theorem f155_84 : decode prog_10_method_23_code 84 = .ok (.if_icmp .ne 7, 3) := by decide +kernel
theorem f155_87 : decode prog_10_method_23_code 87 = .ok (.iconst 1, 1) := by decide +kernel
theorem f155_88 : decode prog_10_method_23_code 88 = .ok (.goto 4, 3) := by decide +kernel
theorem f155_91 : decode prog_10_method_23_code 91 = .ok (.iconst 0, 1) := by decide +kernel
theorem f155_92 : decode prog_10_method_23_code 92 = .ok (.istore 4, 2) := by decide +kernel
theorem f155_94 : decode prog_10_method_23_code 94 = .ok (.iload 4, 2) := by decide +kernel
theorem f155_96 : decode prog_10_method_23_code 96 = .ok (.ifCond .ne 18, 3) := by decide +kernel
theorem f155_99 : decode prog_10_method_23_code 99 = .ok (.iload_n 2, 1) := by decide +kernel
theorem f155_100 : decode prog_10_method_23_code 100 = .ok (.bipush 10, 2) := by decide +kernel
theorem f155_102 : decode prog_10_method_23_code 102 = .ok (.if_icmp .ge 16, 3) := by decide +kernel
theorem f155_105 : decode prog_10_method_23_code 105 = .ok (.aload_n 0, 1) := by decide +kernel
theorem f155_106 : decode prog_10_method_23_code 106 = .ok (.bipush 59, 2) := by decide +kernel
theorem f155_108 : decode prog_10_method_23_code 108 = .ok (.invokevirtual 182, 3) := by decide +kernel
theorem f155_111 : decode prog_10_method_23_code 111 = .ok (.ifCond .eq 7, 3) := by decide +kernel
theorem f155_114 : decode prog_10_method_23_code 114 = .ok (.iconst 1, 1) := by decide +kernel
theorem f155_115 : decode prog_10_method_23_code 115 = .ok (.goto 4, 3) := by decide +kernel
theorem f155_118 : decode prog_10_method_23_code 118 = .ok (.iconst 0, 1) := by decide +kernel
theorem f155_119 : decode prog_10_method_23_code 119 = .ok (.istore_n 3, 1) := by decide +kernel
theorem f155_120 : decode prog_10_method_23_code 120 = .ok (.goto (-91), 3) := by decide +kernel
theorem f155_123 : decode prog_10_method_23_code 123 = .ok (.aload_n 0, 1) := by decide +kernel
theorem f155_124 : decode prog_10_method_23_code 124 = .ok (.iconst 0, 1) := by decide +kernel
theorem f155_125 : decode prog_10_method_23_code 125 = .ok (.putfield 157, 3) := by decide +kernel
theorem f155_128 : decode prog_10_method_23_code 128 = .ok (.iload 4, 2) := by decide +kernel
theorem f155_130 : decode prog_10_method_23_code 130 = .ok (.ifCond .ne 16, 3) := by decide +kernel
theorem f155_133 : decode prog_10_method_23_code 133 = .ok (.aload_n 0, 1) := by decide +kernel
theorem f155_134 : decode prog_10_method_23_code 134 = .ok (.iload_n 1, 1) := by decide +kernel
theorem f155_135 : decode prog_10_method_23_code 135 = .ok (.putfield 185, 3) := by decide +kernel
theorem f155_138 : decode prog_10_method_23_code 138 = .ok (.bipush (-10), 2) := by decide +kernel
theorem f155_140 : decode prog_10_method_23_code 140 = .ok (.aload_n 0, 1) := by decide +kernel
theorem f155_141 : decode prog_10_method_23_code 141 = .ok (.getfield 160, 3) := by decide +kernel
theorem f155_144 : decode prog_10_method_23_code 144 = .ok (.isub, 1) := by decide +kernel
theorem f155_145 : decode prog_10_method_23_code 145 = .ok (.ireturn, 1) := by decide +kernel
theorem f155_146 : decode prog_10_method_23_code 146 = .ok (.aload_n 0, 1) := by decide +kernel
theorem f155_147 : decode prog_10_method_23_code 147 = .ok (.getfield 33, 3) := by decide +kernel
theorem f155_150 : decode prog_10_method_23_code 150 = .ok (.aload_n 0, 1) := by decide +kernel
theorem f155_151 : decode prog_10_method_23_code 151 = .ok (.getfield 229, 3) := by decide +kernel
theorem f155_154 : decode prog_10_method_23_code 154 = .ok (.iload_n 2, 1) := by decide +kernel
theorem f155_155 : decode prog_10_method_23_code 155 = .ok (.iastore, 1) := by decide +kernel
theorem f155_156 : decode prog_10_method_23_code 156 = .ok (.aload_n 0, 1) := by decide +kernel
theorem f155_157 : decode prog_10_method_23_code 157 = .ok (.aload_n 0, 1) := by decide +kernel
theorem f155_158 : decode prog_10_method_23_code 158 = .ok (.getfield 229, 3) := by decide +kernel
theorem f155_161 : decode prog_10_method_23_code 161 = .ok (.putfield 110, 3) := by decide +kernel
theorem f155_164 : decode prog_10_method_23_code 164 = .ok (.aload_n 0, 1) := by decide +kernel
theorem f155_165 : decode prog_10_method_23_code 165 = .ok (.dup, 1) := by decide +kernel
theorem f155_166 : decode prog_10_method_23_code 166 = .ok (.getfield 229, 3) := by decide +kernel
theorem f155_169 : decode prog_10_method_23_code 169 = .ok (.dup_x1, 1) := by decide +kernel
theorem f155_170 : decode prog_10_method_23_code 170 = .ok (.iconst 1, 1) := by decide +kernel
theorem f155_171 : decode prog_10_method_23_code 171 = .ok (.iadd, 1) := by decide +kernel
theorem f155_172 : decode prog_10_method_23_code 172 = .ok (.putfield 229, 3) := by decide +kernel
theorem f155_175 : decode prog_10_method_23_code 175 = .ok (.ireturn, 1) := by decide +kernel
theorem f156_0 : decode prog_10_method_22_code 0 = .ok (.iconst (-1), 1) := by decide +kernel
theorem f156_1 : decode prog_10_method_22_code 1 = .ok (.istore_n 2, 1) := by decide +kernel
theorem f156_2 : decode prog_10_method_22_code 2 = .ok (.aload_n 0, 1) := by decide +kernel
theorem f156_3 : decode prog_10_method_22_code 3 = .ok (.getfield 160, 3) := by decide +kernel
theorem f156_6 : decode prog_10_method_22_code 6 = .ok (.aload_n 0, 1) := by decide +kernel
theorem f156_7 : decode prog_10_method_22_code 7 = .ok (.getfield 157, 3) := by decide +kernel
theorem f156_10 : decode prog_10_method_22_code 10 = .ok (.if_icmp .ge 59, 3) := by decide +kernel
theorem f156_13 : decode prog_10_method_22_code 13 = .ok (.aload_n 0, 1) := by decide +kernel
theorem f156_14 : decode prog_10_method_22_code 14 = .ok (.getfield 30, 3) := by decide +kernel
theorem f156_17 : decode prog_10_method_22_code 17 = .ok (.aload_n 0, 1) := by decide +kernel
theorem f156_18 : decode prog_10_method_22_code 18 = .ok (.getfield 160, 3) := by decide +kernel
theorem f156_21 : decode prog_10_method_22_code 21 = .ok (.iaload, 1) := by decide +kernel
theorem f156_22 : decode prog_10_method_22_code 22 = .ok (.bipush 115, 2) := by decide +kernel
theorem f156_24 : decode prog_10_method_22_code 24 = .ok (.if_icmp .ne 7, 3) := by decide +kernel
theorem f156_27 : decode prog_10_method_22_code 27 = .ok (.iconst 0, 1) := by decide +kernel
theorem f156_28 : decode prog_10_method_22_code 28 = .ok (.goto 40, 3) := by decide +kernel
theorem f156_31 : decode prog_10_method_22_code 31 = .ok (.aload_n 0, 1) := by decide +kernel
theorem f156_32 : decode prog_10_method_22_code 32 = .ok (.getfield 30, 3) := by decide +kernel
theorem f156_35 : decode prog_10_method_22_code 35 = .ok (.aload_n 0, 1) := by decide +kernel
theorem f156_36 : decode prog_10_method_22_code 36 = .ok (.getfield 160, 3) := by decide +kernel
theorem f156_39 : decode prog_10_method_22_code 39 = .ok (.iaload, 1) := by decide +kernel
theorem f156_40 : decode prog_10_method_22_code 40 = .ok (.bipush 102, 2) := by decide +kernel
theorem f156_42 : decode prog_10_method_22_code 42 = .ok (.if_icmp .ne 7, 3) := by decide +kernel
theorem f156_45 : decode prog_10_method_22_code 45 = .ok (.iconst 1, 1) := by decide +kernel
theorem f156_46 : decode prog_10_method_22_code 46 = .ok (.goto 22, 3) := by decide +kernel
theorem f156_49 : decode prog_10_method_22_code 49 = .ok (.aload_n 0, 1) := by decide +kernel
theorem f156_50 : decode prog_10_method_22_code 50 = .ok (.getfield 30, 3) := by decide +kernel
theorem f156_53 : decode prog_10_method_22_code 53 = .ok (.aload_n 0, 1) := by decide +kernel
theorem f156_54 : decode prog_10_method_22_code 54 = .ok (.getfield 160, 3) := by decide +kernel
theorem f156_57 : decode prog_10_method_22_code 57 = .ok (.iaload, 1) := by decide +kernel
theorem f156_58 : decode prog_10_method_22_code 58 = .ok (.bipush 103, 2) := by decide +kernel
theorem f156_60 : decode prog_10_method_22_code 60 = .ok (.if_icmp .ne 7, 3) := by decide +kernel
theorem f156_63 : decode prog_10_method_22_code 63 = .ok (.iconst 2, 1) := by decide +kernel
theorem f156_64 : decode prog_10_method_22_code 64 = .ok (.goto 4, 3) := by decide +kernel
theorem f156_67 : decode prog_10_method_22_code 67 = .ok (.iconst (-1), 1) := by decide +kernel
theorem f156_68 : decode prog_10_method_22_code 68 = .ok (.istore_n 2, 1) := by decide +kernel
theorem f156_69 : decode prog_10_method_22_code 69 = .ok (.iload_n 2, 1) := by decide +kernel
theorem f156_70 : decode prog_10_method_22_code 70 = .ok (.ifCond .ne 12, 3) := by decide +kernel
theorem f156_73 : decode prog_10_method_22_code 73 = .ok (.aload_n 0, 1) := by decide +kernel
theorem f156_74 : decode prog_10_method_22_code 74 = .ok (.ldc 219, 2) := by decide +kernel
theorem f156_76 : decode prog_10_method_22_code 76 = .ok (.invokevirtual 221, 3) := by decide +kernel
theorem f156_79 : decode prog_10_method_22_code 79 = .ok (.goto 36, 3) := by decide +kernel
theorem f156_82 : decode prog_10_method_22_code 82 = .ok (.iload_n 2, 1) := by decide +kernel
theorem f156_83 : decode prog_10_method_22_code 83 = .ok (.iconst 1, 1) := by decide +kernel
theorem f156_84 : decode prog_10_method_22_code 84 = .ok (.if_icmp .ne 12, 3) := by decide +kernel
theorem f156_87 : decode prog_10_method_22_code 87 = .ok (.aload_n 0, 1) := by decide +kernel
theorem f156_88 : decode prog_10_method_22_code 88 = .ok (.ldc 225, 2) := by decide +kernel
theorem f156_90 : decode prog_10_method_22_code 90 = .ok (.invokevirtual 221, 3) := by decide +kernel
theorem f156_93 : decode prog_10_method_22_code 93 = .ok (.goto 22, 3) := by decide +kernel
theorem f156_96 : decode prog_10_method_22_code 96 = .ok (.iload_n 2, 1) := by decide +kernel
theorem f156_97 : decode prog_10_method_22_code 97 = .ok (.iconst 2, 1) := by decide +kernel
theorem f156_98 : decode prog_10_method_22_code 98 = .ok (.if_icmp .ne 16, 3) := by decide +kernel
theorem f156_101 : decode prog_10_method_22_code 101 = .ok (.aload_n 0, 1) := by decide +kernel
theorem f156_102 : decode prog_10_method_22_code 102 = .ok (.ldc 227, 2) := by decide +kernel
theorem f156_104 : decode prog_10_method_22_code 104 = .ok (.invokevirtual 221, 3) := by decide +kernel
theorem f156_107 : decode prog_10_method_22_code 107 = .ok (.ifCond .eq 7, 3) := by decide +kernel
theorem f156_110 : decode prog_10_method_22_code 110 = .ok (.iconst 1, 1) := by decide +kernel
theorem f156_111 : decode prog_10_method_22_code 111 = .ok (.goto 4, 3) := by decide +kernel
theorem f156_114 : decode prog_10_method_22_code 114 = .ok (.iconst 0, 1) := by decide +kernel
theorem f156_115 : decode prog_10_method_22_code 115 = .ok (.istore_n 3, 1) := by decide +kernel
theorem f156_116 : decode prog_10_method_22_code 116 = .ok (.iload_n 3, 1) := by decide +kernel
theorem f156_117 : decode prog_10_method_22_code 117 = .ok (.ifCond .eq 10, 3) := by decide +kernel
theorem f156_120 : decode prog_10_method_22_code 120 = .ok (.aload_n 0, 1) := by decide +kernel
theorem f156_121 : decode prog_10_method_22_code 121 = .ok (.invokevirtual 195, 3) := by decide +kernel
theorem f156_124 : decode prog_10_method_22_code 124 = .ok (.ifCond .ne 5, 3) := by decide +kernel
theorem f156_127 : decode prog_10_method_22_code 127 = .ok (.iconst 0, 1) := by decide +kernel
theorem f156_128 : decode prog_10_method_22_code 128 = .ok (.ireturn, 1) := by decide +kernel
theorem f156_129 : decode prog_10_method_22_code 129 = .ok (.aload_n 0, 1) := by decide +kernel
theorem f156_130 : decode prog_10_method_22_code 130 = .ok (.getfield 36, 3) := by decide +kernel
theorem f156_133 : decode prog_10_method_22_code 133 = .ok (.iload_n 1, 1) := by decide +kernel
theorem f156_134 : decode prog_10_method_22_code 134 = .ok (.iload_n 2, 1) := by decide +kernel
theorem f156_135 : decode prog_10_method_22_code 135 = .ok (.iastore, 1) := by decide +kernel
theorem f156_136 : decode prog_10_method_22_code 136 = .ok (.aload_n 0, 1) := by decide +kernel
theorem f156_137 : decode prog_10_method_22_code 137 = .ok (.getfield 39, 3) := by decide +kernel
theorem f156_140 : decode prog_10_method_22_code 140 = .ok (.iload_n 1, 1) := by decide +kernel
theorem f156_141 : decode prog_10_method_22_code 141 = .ok (.aload_n 0, 1) := by decide +kernel
theorem f156_142 : decode prog_10_method_22_code 142 = .ok (.getfield 163, 3) := by decide +kernel
theorem f156_145 : decode prog_10_method_22_code 145 = .ok (.iastore, 1) := by decide +kernel
theorem f156_146 : decode prog_10_method_22_code 146 = .ok (.aload_n 0, 1) := by decide +kernel
theorem f156_147 : decode prog_10_method_22_code 147 = .ok (.getfield 42, 3) := by decide +kernel
theorem f156_150 : decode prog_10_method_22_code 150 = .ok (.iload_n 1, 1) := by decide +kernel
theorem f156_151 : decode prog_10_method_22_code 151 = .ok (.aload_n 0, 1) := by decide +kernel
theorem f156_152 : decode prog_10_method_22_code 152 = .ok (.getfield 185, 3) := by decide +kernel
theorem f156_155 : decode prog_10_method_22_code 155 = .ok (.iastore, 1) := by decide +kernel
theorem f156_156 : decode prog_10_method_22_code 156 = .ok (.aload_n 0, 1) := by decide +kernel
theorem f156_157 : decode prog_10_method_22_code 157 = .ok (.iconst 0, 1) := by decide +kernel
theorem f156_158 : decode prog_10_method_22_code 158 = .ok (.putfield 201, 3) := by decide +kernel
theorem f156_161 : decode prog_10_method_22_code 161 = .ok (.iload_n 2, 1) := by decide +kernel
theorem f156_162 : decode prog_10_method_22_code 162 = .ok (.iconst 2, 1) := by decide +kernel
theorem f156_163 : decode prog_10_method_22_code 163 = .ok (.if_icmp .ge 21, 3) := by decide +kernel
theorem f156_166 : decode prog_10_method_22_code 166 = .ok (.aload_n 0, 1) := by decide +kernel
theorem f156_167 : decode prog_10_method_22_code 167 = .ok (.bipush 32, 2) := by decide +kernel
theorem f156_169 : decode prog_10_method_22_code 169 = .ok (.invokevirtual 182, 3) := by decide +kernel
theorem f156_172 : decode prog_10_method_22_code 172 = .ok (.ifCond .eq 10, 3) := by decide +kernel
theorem f156_175 : decode prog_10_method_22_code 175 = .ok (.aload_n 0, 1) := by decide +kernel
theorem f156_176 : decode prog_10_method_22_code 176 = .ok (.invokevirtual 210, 3) := by decide +kernel
theorem f156_179 : decode prog_10_method_22_code 179 = .ok (.ifCond .ne 5, 3) := by decide +kernel
theorem f156_182 : decode prog_10_method_22_code 182 = .ok (.iconst 0, 1) := by decide +kernel
theorem f156_183 : decode prog_10_method_22_code 183 = .ok (.ireturn, 1) := by decide +kernel
theorem f156_184 : decode prog_10_method_22_code 184 = .ok (.aload_n 0, 1) := by decide +kernel
theorem f156_185 : decode prog_10_method_22_code 185 = .ok (.getfield 45, 3) := by decide +kernel
theorem f156_188 : decode prog_10_method_22_code 188 = .ok (.iload_n 1, 1) := by decide +kernel
theorem f156_189 : decode prog_10_method_22_code 189 = .ok (.aload_n 0, 1) := by decide +kernel
theorem f156_190 : decode prog_10_method_22_code 190 = .ok (.getfield 185, 3) := by decide +kernel
theorem f156_193 : decode prog_10_method_22_code 193 = .ok (.aload_n 0, 1) := by decide +kernel
theorem f156_194 : decode prog_10_method_22_code 194 = .ok (.getfield 42, 3) := by decide +kernel
theorem f156_197 : decode prog_10_method_22_code 197 = .ok (.iload_n 1, 1) := by decide +kernel
theorem f156_198 : decode prog_10_method_22_code 198 = .ok (.iaload, 1) := by decide +kernel
theorem f156_199 : decode prog_10_method_22_code 199 = .ok (.isub, 1) := by decide +kernel
theorem f156_200 : decode prog_10_method_22_code 200 = .ok (.iastore, 1) := by decide +kernel
theorem f156_201 : decode prog_10_method_22_code 201 = .ok (.iconst 1, 1) := by decide +kernel
theorem f156_202 : decode prog_10_method_22_code 202 = .ok (.ireturn, 1) := by decide +kernel
theorem f157_0 : decode prog_10_method_15_code 0 = .ok (.iconst 0, 1) := by decide +kernel
theorem f157_1 : decode prog_10_method_15_code 1 = .ok (.istore_n 2, 1) := by decide +kernel
theorem f157_2 : decode prog_10_method_15_code 2 = .ok (.iload_n 2, 1) := by decide +kernel
theorem f157_3 : decode prog_10_method_15_code 3 = .ok (.aload_n 1, 1) := by decide +kernel
theorem f157_4 : decode prog_10_method_15_code 4 = .ok (.invokevirtual 173, 3) := by decide +kernel
theorem f157_7 : decode prog_10_method_15_code 7 = .ok (.if_icmp .ge 23, 3) := by decide +kernel
theorem f157_10 : decode prog_10_method_15_code 10 = .ok (.aload_n 0, 1) := by decide +kernel
theorem f157_11 : decode prog_10_method_15_code 11 = .ok (.aload_n 1, 1) := by decide +kernel
theorem f157_12 : decode prog_10_method_15_code 12 = .ok (.iload_n 2, 1) := by decide +kernel
theorem f157_13 : decode prog_10_method_15_code 13 = .ok (.invokevirtual 178, 3) := by decide +kernel
theorem f157_16 : decode prog_10_method_15_code 16 = .ok (.invokevirtual 182, 3) := by decide +kernel
theorem f157_19 : decode prog_10_method_15_code 19 = .ok (.ifCond .ne 5, 3) := by decide +kernel
theorem f157_22 : decode prog_10_method_15_code 22 = .ok (.iconst 0, 1) := by decide +kernel
theorem f157_23 : decode prog_10_method_15_code 23 = .ok (.ireturn, 1) := by decide +kernel
theorem f157_24 : decode prog_10_method_15_code 24 = .ok (.iinc 2 1, 3) := by decide +kernel
theorem f157_27 : decode prog_10_method_15_code 27 = .ok (.goto (-25), 3) := by decide +kernel
theorem f157_30 : decode prog_10_method_15_code 30 = .ok (.iconst 1, 1) := by decide +kernel
theorem f157_31 : decode prog_10_method_15_code 31 = .ok (.ireturn, 1) := by decide +kernel
theorem f166_0 : decode prog_10_method_17_code 0 = .ok (.aload_n 0, 1) := by decide +kernel
theorem f166_1 : decode prog_10_method_17_code 1 = .ok (.getfield 160, 3) := by decide +kernel
theorem f166_4 : decode prog_10_method_17_code 4 = .ok (.aload_n 0, 1) := by decide +kernel
theorem f166_5 : decode prog_10_method_17_code 5 = .ok (.getfield 157, 3) := by decide +kernel
theorem f166_8 : decode prog_10_method_17_code 8 = .ok (.if_icmp .ge 32, 3) := by decide +kernel
theorem f166_11 : decode prog_10_method_17_code 11 = .ok (.aload_n 0, 1) := by decide +kernel
theorem f166_12 : decode prog_10_method_17_code 12 = .ok (.getfield 30, 3) := by decide +kernel
theorem f166_15 : decode prog_10_method_17_code 15 = .ok (.aload_n 0, 1) := by decide +kernel
theorem f166_16 : decode prog_10_method_17_code 16 = .ok (.getfield 160, 3) := by decide +kernel
theorem f166_19 : decode prog_10_method_17_code 19 = .ok (.iaload, 1) := by decide +kernel
theorem f166_20 : decode prog_10_method_17_code 20 = .ok (.ifCond .le 20, 3) := by decide +kernel
theorem f166_23 : decode prog_10_method_17_code 23 = .ok (.ldc 188, 2) := by decide +kernel
theorem f166_25 : decode prog_10_method_17_code 25 = .ok (.aload_n 0, 1) := by decide +kernel
theorem f166_26 : decode prog_10_method_17_code 26 = .ok (.getfield 30, 3) := by decide +kernel
theorem f166_29 : decode prog_10_method_17_code 29 = .ok (.aload_n 0, 1) := by decide +kernel
theorem f166_30 : decode prog_10_method_17_code 30 = .ok (.getfield 160, 3) := by decide +kernel
theorem f166_33 : decode prog_10_method_17_code 33 = .ok (.iaload, 1) := by decide +kernel
theorem f166_34 : decode prog_10_method_17_code 34 = .ok (.invokevirtual 190, 3) := by decide +kernel
theorem f166_37 : decode prog_10_method_17_code 37 = .ok (.goto 4, 3) := by decide +kernel
theorem f166_40 : decode prog_10_method_17_code 40 = .ok (.iconst (-1), 1) := by decide +kernel
theorem f166_41 : decode prog_10_method_17_code 41 = .ok (.istore_n 1, 1) := by decide +kernel
theorem f166_42 : decode prog_10_method_17_code 42 = .ok (.iload_n 1, 1) := by decide +kernel
theorem f166_43 : decode prog_10_method_17_code 43 = .ok (.ifCond .ge 5, 3) := by decide +kernel
theorem f166_46 : decode prog_10_method_17_code 46 = .ok (.iconst 0, 1) := by decide +kernel
theorem f166_47 : decode prog_10_method_17_code 47 = .ok (.ireturn, 1) := by decide +kernel
theorem f166_48 : decode prog_10_method_17_code 48 = .ok (.aload_n 0, 1) := by decide +kernel
theorem f166_49 : decode prog_10_method_17_code 49 = .ok (.dup, 1) := by decide +kernel
theorem f166_50 : decode prog_10_method_17_code 50 = .ok (.getfield 160, 3) := by decide +kernel
theorem f166_53 : decode prog_10_method_17_code 53 = .ok (.iconst 1, 1) := by decide +kernel
theorem f166_54 : decode prog_10_method_17_code 54 = .ok (.iadd, 1) := by decide +kernel
theorem f166_55 : decode prog_10_method_17_code 55 = .ok (.putfield 160, 3) := by decide +kernel
theorem f166_58 : decode prog_10_method_17_code 58 = .ok (.aload_n 0, 1) := by decide +kernel
theorem f166_59 : decode prog_10_method_17_code 59 = .ok (.getfield 160, 3) := by decide +kernel
theorem f166_62 : decode prog_10_method_17_code 62 = .ok (.aload_n 0, 1) := by decide +kernel
theorem f166_63 : decode prog_10_method_17_code 63 = .ok (.getfield 157, 3) := by decide +kernel
theorem f166_66 : decode prog_10_method_17_code 66 = .ok (.if_icmp .ge 32, 3) := by decide +kernel
theorem f166_69 : decode prog_10_method_17_code 69 = .ok (.aload_n 0, 1) := by decide +kernel
theorem f166_70 : decode prog_10_method_17_code 70 = .ok (.getfield 30, 3) := by decide +kernel
theorem f166_73 : decode prog_10_method_17_code 73 = .ok (.aload_n 0, 1) := by decide +kernel
theorem f166_74 : decode prog_10_method_17_code 74 = .ok (.getfield 160, 3) := by decide +kernel
theorem f166_77 : decode prog_10_method_17_code 77 = .ok (.iaload, 1) := by decide +kernel
theorem f166_78 : decode prog_10_method_17_code 78 = .ok (.ifCond .le 20, 3) := by decide +kernel
theorem f166_81 : decode prog_10_method_17_code 81 = .ok (.ldc 193, 2) := by decide +kernel
theorem f166_83 : decode prog_10_method_17_code 83 = .ok (.aload_n 0, 1) := by decide +kernel
theorem f166_84 : decode prog_10_method_17_code 84 = .ok (.getfield 30, 3) := by decide +kernel
theorem f166_87 : decode prog_10_method_17_code 87 = .ok (.aload_n 0, 1) := by decide +kernel
theorem f166_88 : decode prog_10_method_17_code 88 = .ok (.getfield 160, 3) := by decide +kernel
theorem f166_91 : decode prog_10_method_17_code 91 = .ok (.iaload, 1) := by decide +kernel
theorem f166_92 : decode prog_10_method_17_code 92 = .ok (.invokevirtual 190, 3) := by decide +kernel
theorem f166_95 : decode prog_10_method_17_code 95 = .ok (.goto 4, 3) := by decide +kernel
theorem f166_98 : decode prog_10_method_17_code 98 = .ok (.iconst (-1), 1) := by decide +kernel
theorem f166_99 : decode prog_10_method_17_code 99 = .ok (.istore_n 2, 1) := by decide +kernel
theorem f166_100 : decode prog_10_method_17_code 100 = .ok (.iload_n 2, 1) := by decide +kernel
theorem f166_101 : decode prog_10_method_17_code 101 = .ok (.ifCond .ge 5, 3) := by decide +kernel
theorem f166_104 : decode prog_10_method_17_code 104 = .ok (.iconst 0, 1) := by decide +kernel
theorem f166_105 : decode prog_10_method_17_code 105 = .ok (.ireturn, 1) := by decide +kernel
theorem f166_106 : decode prog_10_method_17_code 106 = .ok (.aload_n 0, 1) := by decide +kernel
theorem f166_107 : decode prog_10_method_17_code 107 = .ok (.dup, 1) := by decide +kernel
theorem f166_108 : decode prog_10_method_17_code 108 = .ok (.getfield 160, 3) := by decide +kernel
theorem f166_111 : decode prog_10_method_17_code 111 = .ok (.iconst 1, 1) := by decide +kernel
theorem f166_112 : decode prog_10_method_17_code 112 = .ok (.iadd, 1) := by decide +kernel
theorem f166_113 : decode prog_10_method_17_code 113 = .ok (.putfield 160, 3) := by decide +kernel
theorem f166_116 : decode prog_10_method_17_code 116 = .ok (.aload_n 0, 1) := by decide +kernel
theorem f166_117 : decode prog_10_method_17_code 117 = .ok (.invokevirtual 195, 3) := by decide +kernel
theorem f166_120 : decode prog_10_method_17_code 120 = .ok (.ifCond .eq 31, 3) := by decide +kernel
theorem f166_123 : decode prog_10_method_17_code 123 = .ok (.aload_n 0, 1) := by decide +kernel
theorem f166_124 : decode prog_10_method_17_code 124 = .ok (.iconst 3, 1) := by decide +kernel
theorem f166_125 : decode prog_10_method_17_code 125 = .ok (.sipush 300, 3) := by decide +kernel
theorem f166_128 : decode prog_10_method_17_code 128 = .ok (.iload_n 1, 1) := by decide +kernel
theorem f166_129 : decode prog_10_method_17_code 129 = .ok (.imul, 1) := by decide +kernel
theorem f166_130 : decode prog_10_method_17_code 130 = .ok (.iadd, 1) := by decide +kernel
theorem f166_131 : decode prog_10_method_17_code 131 = .ok (.bipush 100, 2) := by decide +kernel
theorem f166_133 : decode prog_10_method_17_code 133 = .ok (.iload_n 2, 1) := by decide +kernel
theorem f166_134 : decode prog_10_method_17_code 134 = .ok (.imul, 1) := by decide +kernel
theorem f166_135 : decode prog_10_method_17_code 135 = .ok (.iadd, 1) := by decide +kernel
theorem f166_136 : decode prog_10_method_17_code 136 = .ok (.aload_n 0, 1) := by decide +kernel
theorem f166_137 : decode prog_10_method_17_code 137 = .ok (.getfield 163, 3) := by decide +kernel
theorem f166_140 : decode prog_10_method_17_code 140 = .ok (.iadd, 1) := by decide +kernel
theorem f166_141 : decode prog_10_method_17_code 141 = .ok (.invokevirtual 198, 3) := by decide +kernel
theorem f166_144 : decode prog_10_method_17_code 144 = .ok (.ifCond .eq 7, 3) := by decide +kernel
theorem f166_147 : decode prog_10_method_17_code 147 = .ok (.iconst 1, 1) := by decide +kernel
theorem f166_148 : decode prog_10_method_17_code 148 = .ok (.goto 4, 3) := by decide +kernel
theorem f166_151 : decode prog_10_method_17_code 151 = .ok (.iconst 0, 1) := by decide +kernel
theorem f166_152 : decode prog_10_method_17_code 152 = .ok (.ireturn, 1) := by decide +kernel
theorem f167_0 : decode prog_14_method_79_code 0 = .ok (.aload_n 0, 1) := by decide +kernel
theorem f167_1 : decode prog_14_method_79_code 1 = .ok (.iload_n 1, 1) := by decide +kernel
theorem f167_2 : decode prog_14_method_79_code 2 = .ok (.iconst 0, 1) := by decide +kernel
theorem f167_3 : decode prog_14_method_79_code 3 = .ok (.invokevirtual 633, 3) := by decide +kernel
theorem f167_6 : decode prog_14_method_79_code 6 = .ok (.ireturn, 1) := by decide +kernel
theorem f168_0 : decode prog_14_method_80_code 0 = .ok (.aload_n 0, 1) := by decide +kernel
theorem f168_1 : decode prog_14_method_80_code 1 = .ok (.invokevirtual 492, 3) := by decide +kernel
theorem f168_4 : decode prog_14_method_80_code 4 = .ok (.ifCond .eq 19, 3) := by decide +kernel
theorem f168_7 : decode prog_14_method_80_code 7 = .ok (.aload_n 0, 1) := by decide +kernel
theorem f168_8 : decode prog_14_method_80_code 8 = .ok (.getfield 9, 3) := by decide +kernel
theorem f168_11 : decode prog_14_method_80_code 11 = .ok (.iload_n 1, 1) := by decide +kernel
theorem f168_12 : decode prog_14_method_80_code 12 = .ok (.iload_n 2, 1) := by decide +kernel
theorem f168_13 : decode prog_14_method_80_code 13 = .ok (.aload_n 0, 1) := by decide +kernel
theorem f168_14 : decode prog_14_method_80_code 14 = .ok (.invokevirtual 505, 3) := by decide +kernel
theorem f168_17 : decode prog_14_method_80_code 17 = .ok (.invokestatic 637, 3) := by decide +kernel
theorem f168_20 : decode prog_14_method_80_code 20 = .ok (.goto 16, 3) := by decide +kernel
theorem f168_23 : decode prog_14_method_80_code 23 = .ok (.aload_n 0, 1) := by decide +kernel
theorem f168_24 : decode prog_14_method_80_code 24 = .ok (.getfield 9, 3) := by decide +kernel
theorem f168_27 : decode prog_14_method_80_code 27 = .ok (.iload_n 1, 1) := by decide +kernel
theorem f168_28 : decode prog_14_method_80_code 28 = .ok (.iload_n 2, 1) := by decide +kernel
theorem f168_29 : decode prog_14_method_80_code 29 = .ok (.aload_n 0, 1) := by decide +kernel
theorem f168_30 : decode prog_14_method_80_code 30 = .ok (.invokevirtual 505, 3) := by decide +kernel
theorem f168_33 : decode prog_14_method_80_code 33 = .ok (.invokestatic 640, 3) := by decide +kernel
theorem f168_36 : decode prog_14_method_80_code 36 = .ok (.ireturn, 1) := by decide +kernel
theorem f169_0 : decode prog_15_method_22_code 0 = .ok (.iload_n 1, 1) := by decide +kernel
theorem f169_1 : decode prog_15_method_22_code 1 = .ok (.invokestatic 88, 3) := by decide +kernel
theorem f169_4 : decode prog_15_method_22_code 4 = .ok (.ifCond .ne 5, 3) := by decide +kernel
theorem f169_7 : decode prog_15_method_22_code 7 = .ok (.iconst (-1), 1) := by decide +kernel
theorem f169_8 : decode prog_15_method_22_code 8 = .ok (.ireturn, 1) := by decide +kernel
theorem f169_9 : decode prog_15_method_22_code 9 = .ok (.iload_n 2, 1) := by decide +kernel
theorem f169_10 : decode prog_15_method_22_code 10 = .ok (.iconst 0, 1) := by decide +kernel
theorem f169_11 : decode prog_15_method_22_code 11 = .ok (.invokestatic 92, 3) := by decide +kernel
theorem f169_14 : decode prog_15_method_22_code 14 = .ok (.istore_n 2, 1) := by decide +kernel
theorem f169_15 : decode prog_15_method_22_code 15 = .ok (.iload_n 3, 1) := by decide +kernel
theorem f169_16 : decode prog_15_method_22_code 16 = .ok (.aload_n 0, 1) := by decide +kernel
theorem f169_17 : decode prog_15_method_22_code 17 = .ok (.arraylength, 1) := by decide +kernel
theorem f169_18 : decode prog_15_method_22_code 18 = .ok (.invokestatic 38, 3) := by decide +kernel
theorem f169_21 : decode prog_15_method_22_code 21 = .ok (.istore_n 3, 1) := by decide +kernel
theorem f169_22 : decode prog_15_method_22_code 22 = .ok (.iload_n 2, 1) := by decide +kernel
theorem f169_23 : decode prog_15_method_22_code 23 = .ok (.iload_n 3, 1) := by decide +kernel
theorem f169_24 : decode prog_15_method_22_code 24 = .ok (.if_icmp .lt 5, 3) := by decide +kernel
theorem f169_27 : decode prog_15_method_22_code 27 = .ok (.iconst (-1), 1) := by decide +kernel
theorem f169_28 : decode prog_15_method_22_code 28 = .ok (.ireturn, 1) := by decide +kernel
theorem f169_29 : decode prog_15_method_22_code 29 = .ok (.aload_n 0, 1) := by decide +kernel
theorem f169_30 : decode prog_15_method_22_code 30 = .ok (.iload_n 1, 1) := by decide +kernel
theorem f169_31 : decode prog_15_method_22_code 31 = .ok (.iload_n 2, 1) := by decide +kernel
theorem f169_32 : decode prog_15_method_22_code 32 = .ok (.iload_n 3, 1) := by decide +kernel
theorem f169_33 : decode prog_15_method_22_code 33 = .ok (.invokestatic 95, 3) := by decide +kernel
theorem f169_36 : decode prog_15_method_22_code 36 = .ok (.ireturn, 1) := by decide +kernel
theorem f170_0 : decode prog_15_method_4_code 0 = .ok (.iload_n 0, 1) := by decide +kernel
theorem f170_1 : decode prog_15_method_4_code 1 = .ok (.ifCond .lt 14, 3) := by decide +kernel
theorem f170_4 : decode prog_15_method_4_code 4 = .ok (.iload_n 0, 1) := by decide +kernel
theorem f170_5 : decode prog_15_method_4_code 5 = .ok (.sipush 255, 3) := by decide +kernel
theorem f170_8 : decode prog_15_method_4_code 8 = .ok (.if_icmp .gt 7, 3) := by decide +kernel
theorem f170_11 : decode prog_15_method_4_code 11 = .ok (.iconst 1, 1) := by decide +kernel
theorem f170_12 : decode prog_15_method_4_code 12 = .ok (.goto 4, 3) := by decide +kernel
theorem f170_15 : decode prog_15_method_4_code 15 = .ok (.iconst 0, 1) := by decide +kernel
theorem f170_16 : decode prog_15_method_4_code 16 = .ok (.ireturn, 1) := by decide +kernel
theorem f172_0 : decode prog_15_method_23_code 0 = .ok (.iload_n 1, 1) := by decide +kernel
theorem f172_1 : decode prog_15_method_23_code 1 = .ok (.i2b, 1) := by decide +kernel
theorem f172_2 : decode prog_15_method_23_code 2 = .ok (.istore 4, 2) := by decide +kernel
theorem f172_4 : decode prog_15_method_23_code 4 = .ok (.iload_n 2, 1) := by decide +kernel
theorem f172_5 : decode prog_15_method_23_code 5 = .ok (.istore 5, 2) := by decide +kernel
theorem f172_7 : decode prog_15_method_23_code 7 = .ok (.iload 5, 2) := by decide +kernel
theorem f172_9 : decode prog_15_method_23_code 9 = .ok (.iload_n 3, 1) := by decide +kernel
theorem f172_10 : decode prog_15_method_23_code 10 = .ok (.if_icmp .ge 21, 3) := by decide +kernel
theorem f172_13 : decode prog_15_method_23_code 13 = .ok (.aload_n 0, 1) := by decide +kernel
theorem f172_14 : decode prog_15_method_23_code 14 = .ok (.iload 5, 2) := by decide +kernel
theorem f172_16 : decode prog_15_method_23_code 16 = .ok (.baload, 1) := by decide +kernel
theorem f172_17 : decode prog_15_method_23_code 17 = .ok (.iload 4, 2) := by decide +kernel
theorem f172_19 : decode prog_15_method_23_code 19 = .ok (.if_icmp .ne 6, 3) := by decide +kernel
theorem f172_22 : decode prog_15_method_23_code 22 = .ok (.iload 5, 2) := by decide +kernel
theorem f172_24 : decode prog_15_method_23_code 24 = .ok (.ireturn, 1) := by decide +kernel
theorem f172_25 : decode prog_15_method_23_code 25 = .ok (.iinc 5 1, 3) := by decide +kernel
theorem f172_28 : decode prog_15_method_23_code 28 = .ok (.goto (-21), 3) := by decide +kernel
theorem f172_31 : decode prog_15_method_23_code 31 = .ok (.iconst (-1), 1) := by decide +kernel
theorem f172_32 : decode prog_15_method_23_code 32 = .ok (.ireturn, 1) := by decide +kernel
theorem f183_0 : decode prog_10_method_36_code 0 = .ok (.iload_n 1, 1) := by decide +kernel
theorem f183_1 : decode prog_10_method_36_code 1 = .ok (.bipush 10, 2) := by decide +kernel
theorem f183_3 : decode prog_10_method_36_code 3 = .ok (.isub, 1) := by decide +kernel
theorem f183_4 : decode prog_10_method_36_code 4 = .ok (.iconst 0, 1) := by decide +kernel
theorem f183_5 : decode prog_10_method_36_code 5 = .ok (.aload_n 0, 1) := by decide +kernel
theorem f183_6 : decode prog_10_method_36_code 6 = .ok (.getfield 154, 3) := by decide +kernel
theorem f183_9 : decode prog_10_method_36_code 9 = .ok (.iconst 1, 1) := by decide +kernel
theorem f183_10 : decode prog_10_method_36_code 10 = .ok (.isub, 1) := by decide +kernel
theorem f183_11 : decode prog_10_method_36_code 11 = .ok (.invokestatic 117, 3) := by decide +kernel
theorem f183_14 : decode prog_10_method_36_code 14 = .ok (.ifCond .eq 13, 3) := by decide +kernel
theorem f183_17 : decode prog_10_method_36_code 17 = .ok (.aload_n 0, 1) := by decide +kernel
theorem f183_18 : decode prog_10_method_36_code 18 = .ok (.getfield 27, 3) := by decide +kernel
theorem f183_21 : decode prog_10_method_36_code 21 = .ok (.iload_n 1, 1) := by decide +kernel
theorem f183_22 : decode prog_10_method_36_code 22 = .ok (.bipush 10, 2) := by decide +kernel
theorem f183_24 : decode prog_10_method_36_code 24 = .ok (.isub, 1) := by decide +kernel
theorem f183_25 : decode prog_10_method_36_code 25 = .ok (.iaload, 1) := by decide +kernel
theorem f183_26 : decode prog_10_method_36_code 26 = .ok (.ireturn, 1) := by decide +kernel
theorem f183_27 : decode prog_10_method_36_code 27 = .ok (.iload_n 1, 1) := by decide +kernel
theorem f183_28 : decode prog_10_method_36_code 28 = .ok (.tableswitch 52 0 3 #[32, 37, 42, 47], 32) := by decide +kernel
theorem f183_60 : decode prog_10_method_36_code 60 = .ok (.aload_n 0, 1) := by decide +kernel
theorem f183_61 : decode prog_10_method_36_code 61 = .ok (.getfield 235, 3) := by decide +kernel
theorem f183_64 : decode prog_10_method_36_code 64 = .ok (.ireturn, 1) := by decide +kernel
theorem f183_65 : decode prog_10_method_36_code 65 = .ok (.aload_n 0, 1) := by decide +kernel
theorem f183_66 : decode prog_10_method_36_code 66 = .ok (.invokevirtual 257, 3) := by decide +kernel
theorem f183_69 : decode prog_10_method_36_code 69 = .ok (.ireturn, 1) := by decide +kernel
theorem f183_70 : decode prog_10_method_36_code 70 = .ok (.aload_n 0, 1) := by decide +kernel
theorem f183_71 : decode prog_10_method_36_code 71 = .ok (.invokevirtual 260, 3) := by decide +kernel
theorem f183_74 : decode prog_10_method_36_code 74 = .ok (.ireturn, 1) := by decide +kernel
theorem f183_75 : decode prog_10_method_36_code 75 = .ok (.aload_n 0, 1) := by decide +kernel
theorem f183_76 : decode prog_10_method_36_code 76 = .ok (.invokevirtual 263, 3) := by decide +kernel
theorem f183_79 : decode prog_10_method_36_code 79 = .ok (.ireturn, 1) := by decide +kernel
theorem f183_80 : decode prog_10_method_36_code 80 = .ok (.iconst (-1), 1) := by decide +kernel
theorem f183_81 : decode prog_10_method_36_code 81 = .ok (.ireturn, 1) := by decide +kernel
theorem f186_0 : decode prog_10_method_37_code 0 = .ok (.iload_n 1, 1) := by decide +kernel
theorem f186_1 : decode prog_10_method_37_code 1 = .ok (.iconst 0, 1) := by decide +kernel
theorem f186_2 : decode prog_10_method_37_code 2 = .ok (.bipush 60, 2) := by decide +kernel
theorem f186_4 : decode prog_10_method_37_code 4 = .ok (.invokestatic 117, 3) := by decide +kernel
theorem f186_7 : decode prog_10_method_37_code 7 = .ok (.ifCond .ne 6, 3) := by decide +kernel
theorem f186_10 : decode prog_10_method_37_code 10 = .ok (.bipush (-2), 2) := by decide +kernel
theorem f186_12 : decode prog_10_method_37_code 12 = .ok (.ireturn, 1) := by decide +kernel
theorem f186_13 : decode prog_10_method_37_code 13 = .ok (.aload_n 0, 1) := by decide +kernel
theorem f186_14 : decode prog_10_method_37_code 14 = .ok (.getfield 235, 3) := by decide +kernel
theorem f186_17 : decode prog_10_method_37_code 17 = .ok (.iload_n 1, 1) := by decide +kernel
theorem f186_18 : decode prog_10_method_37_code 18 = .ok (.iadd, 1) := by decide +kernel
theorem f186_19 : decode prog_10_method_37_code 19 = .ok (.sipush 9999, 3) := by decide +kernel
theorem f186_22 : decode prog_10_method_37_code 22 = .ok (.if_icmp .le 6, 3) := by decide +kernel
theorem f186_25 : decode prog_10_method_37_code 25 = .ok (.bipush (-3), 2) := by decide +kernel
theorem f186_27 : decode prog_10_method_37_code 27 = .ok (.ireturn, 1) := by decide +kernel
theorem f186_28 : decode prog_10_method_37_code 28 = .ok (.iconst 0, 1) := by decide +kernel
theorem f186_29 : decode prog_10_method_37_code 29 = .ok (.istore_n 2, 1) := by decide +kernel
theorem f186_30 : decode prog_10_method_37_code 30 = .ok (.iload_n 2, 1) := by decide +kernel
theorem f186_31 : decode prog_10_method_37_code 31 = .ok (.iload_n 1, 1) := by decide +kernel
theorem f186_32 : decode prog_10_method_37_code 32 = .ok (.if_icmp .ge 47, 3) := by decide +kernel
theorem f186_35 : decode prog_10_method_37_code 35 = .ok (.aload_n 0, 1) := by decide +kernel
theorem f186_36 : decode prog_10_method_37_code 36 = .ok (.invokevirtual 266, 3) := by decide +kernel
theorem f186_39 : decode prog_10_method_37_code 39 = .ok (.iconst 0, 1) := by decide +kernel
theorem f186_40 : decode prog_10_method_37_code 40 = .ok (.istore_n 3, 1) := by decide +kernel
theorem f186_41 : decode prog_10_method_37_code 41 = .ok (.iload_n 3, 1) := by decide +kernel
theorem f186_42 : decode prog_10_method_37_code 42 = .ok (.aload_n 0, 1) := by decide +kernel
theorem f186_43 : decode prog_10_method_37_code 43 = .ok (.getfield 114, 3) := by decide +kernel
theorem f186_46 : decode prog_10_method_37_code 46 = .ok (.if_icmp .ge 27, 3) := by decide +kernel
theorem f186_49 : decode prog_10_method_37_code 49 = .ok (.aload_n 0, 1) := by decide +kernel
theorem f186_50 : decode prog_10_method_37_code 50 = .ok (.getfield 21, 3) := by decide +kernel
theorem f186_53 : decode prog_10_method_37_code 53 = .ok (.iload_n 3, 1) := by decide +kernel
theorem f186_54 : decode prog_10_method_37_code 54 = .ok (.sipush 9999, 3) := by decide +kernel
theorem f186_57 : decode prog_10_method_37_code 57 = .ok (.aload_n 0, 1) := by decide +kernel
theorem f186_58 : decode prog_10_method_37_code 58 = .ok (.getfield 21, 3) := by decide +kernel
theorem f186_61 : decode prog_10_method_37_code 61 = .ok (.iload_n 3, 1) := by decide +kernel
theorem f186_62 : decode prog_10_method_37_code 62 = .ok (.iaload, 1) := by decide +kernel
theorem f186_63 : decode prog_10_method_37_code 63 = .ok (.invokestatic 248, 3) := by decide +kernel
theorem f186_66 : decode prog_10_method_37_code 66 = .ok (.iastore, 1) := by decide +kernel
theorem f186_67 : decode prog_10_method_37_code 67 = .ok (.iinc 3 1, 3) := by decide +kernel
theorem f186_70 : decode prog_10_method_37_code 70 = .ok (.goto (-29), 3) := by decide +kernel
theorem f186_73 : decode prog_10_method_37_code 73 = .ok (.iinc 2 1, 3) := by decide +kernel
theorem f186_76 : decode prog_10_method_37_code 76 = .ok (.goto (-46), 3) := by decide +kernel
theorem f186_79 : decode prog_10_method_37_code 79 = .ok (.aload_n 0, 1) := by decide +kernel
theorem f186_80 : decode prog_10_method_37_code 80 = .ok (.getfield 235, 3) := by decide +kernel
theorem f186_83 : decode prog_10_method_37_code 83 = .ok (.ireturn, 1) := by decide +kernel
theorem f187_0 : decode prog_10_method_41_code 0 = .ok (.aload_n 0, 1) := by decide +kernel
theorem f187_1 : decode prog_10_method_41_code 1 = .ok (.iload_n 1, 1) := by decide +kernel
theorem f187_2 : decode prog_10_method_41_code 2 = .ok (.invokevirtual 121, 3) := by decide +kernel
theorem f187_5 : decode prog_10_method_41_code 5 = .ok (.ifCond .eq 20, 3) := by decide +kernel
theorem f187_8 : decode prog_10_method_41_code 8 = .ok (.aload_n 0, 1) := by decide +kernel
theorem f187_9 : decode prog_10_method_41_code 9 = .ok (.iload_n 2, 1) := by decide +kernel
theorem f187_10 : decode prog_10_method_41_code 10 = .ok (.invokevirtual 121, 3) := by decide +kernel
theorem f187_13 : decode prog_10_method_41_code 13 = .ok (.ifCond .eq 12, 3) := by decide +kernel
theorem f187_16 : decode prog_10_method_41_code 16 = .ok (.aload_n 0, 1) := by decide +kernel
theorem f187_17 : decode prog_10_method_41_code 17 = .ok (.iload_n 1, 1) := by decide +kernel
theorem f187_18 : decode prog_10_method_41_code 18 = .ok (.iload_n 2, 1) := by decide +kernel
theorem f187_19 : decode prog_10_method_41_code 19 = .ok (.invokevirtual 276, 3) := by decide +kernel
theorem f187_22 : decode prog_10_method_41_code 22 = .ok (.goto 4, 3) := by decide +kernel
theorem f187_25 : decode prog_10_method_41_code 25 = .ok (.iconst (-1), 1) := by decide +kernel
theorem f187_26 : decode prog_10_method_41_code 26 = .ok (.ireturn, 1) := by decide +kernel
theorem f189_0 : decode prog_10_method_43_code 0 = .ok (.iload_n 2, 1) := by decide +kernel
theorem f189_1 : decode prog_10_method_43_code 1 = .ok (.iconst (-1), 1) := by decide +kernel
theorem f189_2 : decode prog_10_method_43_code 2 = .ok (.iconst 5, 1) := by decide +kernel
theorem f189_3 : decode prog_10_method_43_code 3 = .ok (.invokestatic 117, 3) := by decide +kernel
theorem f189_6 : decode prog_10_method_43_code 6 = .ok (.ifCond .ne 5, 3) := by decide +kernel
theorem f189_9 : decode prog_10_method_43_code 9 = .ok (.iconst (-1), 1) := by decide +kernel
theorem f189_10 : decode prog_10_method_43_code 10 = .ok (.ireturn, 1) := by decide +kernel
theorem f189_11 : decode prog_10_method_43_code 11 = .ok (.iload_n 1, 1) := by decide +kernel
theorem f189_12 : decode prog_10_method_43_code 12 = .ok (.iconst 0, 1) := by decide +kernel
theorem f189_13 : decode prog_10_method_43_code 13 = .ok (.iconst 1, 1) := by decide +kernel
theorem f189_14 : decode prog_10_method_43_code 14 = .ok (.aload_n 0, 1) := by decide +kernel
theorem f189_15 : decode prog_10_method_43_code 15 = .ok (.getfield 114, 3) := by decide +kernel
theorem f189_18 : decode prog_10_method_43_code 18 = .ok (.ishl, 1) := by decide +kernel
theorem f189_19 : decode prog_10_method_43_code 19 = .ok (.iconst 1, 1) := by decide +kernel
theorem f189_20 : decode prog_10_method_43_code 20 = .ok (.isub, 1) := by decide +kernel
theorem f189_21 : decode prog_10_method_43_code 21 = .ok (.invokestatic 117, 3) := by decide +kernel
theorem f189_24 : decode prog_10_method_43_code 24 = .ok (.ifCond .ne 6, 3) := by decide +kernel
theorem f189_27 : decode prog_10_method_43_code 27 = .ok (.bipush (-2), 2) := by decide +kernel
theorem f189_29 : decode prog_10_method_43_code 29 = .ok (.ireturn, 1) := by decide +kernel
theorem f189_30 : decode prog_10_method_43_code 30 = .ok (.aload_n 0, 1) := by decide +kernel
theorem f189_31 : decode prog_10_method_43_code 31 = .ok (.sipush 9999, 3) := by decide +kernel
theorem f189_34 : decode prog_10_method_43_code 34 = .ok (.putfield 279, 3) := by decide +kernel
theorem f189_37 : decode prog_10_method_43_code 37 = .ok (.aload_n 0, 1) := by decide +kernel
theorem f189_38 : decode prog_10_method_43_code 38 = .ok (.iconst 0, 1) := by decide +kernel
theorem f189_39 : decode prog_10_method_43_code 39 = .ok (.iload_n 1, 1) := by decide +kernel
theorem f189_40 : decode prog_10_method_43_code 40 = .ok (.iconst 0, 1) := by decide +kernel
theorem f189_41 : decode prog_10_method_43_code 41 = .ok (.invokevirtual 282, 3) := by decide +kernel
theorem f189_44 : decode prog_10_method_43_code 44 = .ok (.iload_n 2, 1) := by decide +kernel
theorem f189_45 : decode prog_10_method_43_code 45 = .ok (.iconst (-1), 1) := by decide +kernel
theorem f189_46 : decode prog_10_method_43_code 46 = .ok (.if_icmp .ne 10, 3) := by decide +kernel
theorem f189_49 : decode prog_10_method_43_code 49 = .ok (.aload_n 0, 1) := by decide +kernel
theorem f189_50 : decode prog_10_method_43_code 50 = .ok (.getfield 279, 3) := by decide +kernel
theorem f189_53 : decode prog_10_method_43_code 53 = .ok (.goto 9, 3) := by decide +kernel
theorem f189_56 : decode prog_10_method_43_code 56 = .ok (.aload_n 0, 1) := by decide +kernel
theorem f189_57 : decode prog_10_method_43_code 57 = .ok (.getfield 97, 3) := by decide +kernel
theorem f189_60 : decode prog_10_method_43_code 60 = .ok (.iload_n 2, 1) := by decide +kernel
theorem f189_61 : decode prog_10_method_43_code 61 = .ok (.iaload, 1) := by decide +kernel
theorem f189_62 : decode prog_10_method_43_code 62 = .ok (.ireturn, 1) := by decide +kernel
theorem f190_0 : decode prog_10_method_42_code 0 = .ok (.iload_n 2, 1) := by decide +kernel
theorem f190_1 : decode prog_10_method_42_code 1 = .ok (.ifCond .ne 59, 3) := by decide +kernel
theorem f190_4 : decode prog_10_method_42_code 4 = .ok (.iload_n 3, 1) := by decide +kernel
theorem f190_5 : decode prog_10_method_42_code 5 = .ok (.aload_n 0, 1) := by decide +kernel
theorem f190_6 : decode prog_10_method_42_code 6 = .ok (.getfield 279, 3) := by decide +kernel
theorem f190_9 : decode prog_10_method_42_code 9 = .ok (.if_icmp .lt 4, 3) := by decide +kernel
theorem f190_12 : decode prog_10_method_42_code 12 = .ok (.return_, 1) := by decide +kernel
theorem f190_13 : decode prog_10_method_42_code 13 = .ok (.aload_n 0, 1) := by decide +kernel
theorem f190_14 : decode prog_10_method_42_code 14 = .ok (.iload_n 3, 1) := by decide +kernel
theorem f190_15 : decode prog_10_method_42_code 15 = .ok (.putfield 279, 3) := by decide +kernel
theorem f190_18 : decode prog_10_method_42_code 18 = .ok (.iconst 0, 1) := by decide +kernel
theorem f190_19 : decode prog_10_method_42_code 19 = .ok (.istore 4, 2) := by decide +kernel
theorem f190_21 : decode prog_10_method_42_code 21 = .ok (.iload 4, 2) := by decide +kernel
theorem f190_23 : decode prog_10_method_42_code 23 = .ok (.bipush 6, 2) := by decide +kernel
theorem f190_25 : decode prog_10_method_42_code 25 = .ok (.if_icmp .ge 34, 3) := by decide +kernel
theorem f190_28 : decode prog_10_method_42_code 28 = .ok (.aload_n 0, 1) := by decide +kernel
theorem f190_29 : decode prog_10_method_42_code 29 = .ok (.getfield 97, 3) := by decide +kernel
theorem f190_32 : decode prog_10_method_42_code 32 = .ok (.iload 4, 2) := by decide +kernel
theorem f190_34 : decode prog_10_method_42_code 34 = .ok (.iload 4, 2) := by decide +kernel
theorem f190_36 : decode prog_10_method_42_code 36 = .ok (.iload_n 1, 1) := by decide +kernel
theorem f190_37 : decode prog_10_method_42_code 37 = .ok (.if_icmp .ge 13, 3) := by decide +kernel
theorem f190_40 : decode prog_10_method_42_code 40 = .ok (.aload_n 0, 1) := by decide +kernel
theorem f190_41 : decode prog_10_method_42_code 41 = .ok (.getfield 94, 3) := by decide +kernel
theorem f190_44 : decode prog_10_method_42_code 44 = .ok (.iload 4, 2) := by decide +kernel
theorem f190_46 : decode prog_10_method_42_code 46 = .ok (.iaload, 1) := by decide +kernel
theorem f190_47 : decode prog_10_method_42_code 47 = .ok (.goto 5, 3) := by decide +kernel
theorem f190_50 : decode prog_10_method_42_code 50 = .ok (.bipush (-5), 2) := by decide +kernel
theorem f190_52 : decode prog_10_method_42_code 52 = .ok (.iastore, 1) := by decide +kernel
theorem f190_53 : decode prog_10_method_42_code 53 = .ok (.iinc 4 1, 3) := by decide +kernel
theorem f190_56 : decode prog_10_method_42_code 56 = .ok (.goto (-35), 3) := by decide +kernel
theorem f190_59 : decode prog_10_method_42_code 59 = .ok (.return_, 1) := by decide +kernel
theorem f190_60 : decode prog_10_method_42_code 60 = .ok (.iconst 0, 1) := by decide +kernel
theorem f190_61 : decode prog_10_method_42_code 61 = .ok (.istore 4, 2) := by decide +kernel
theorem f190_63 : decode prog_10_method_42_code 63 = .ok (.iload 4, 2) := by decide +kernel
theorem f190_65 : decode prog_10_method_42_code 65 = .ok (.aload_n 0, 1) := by decide +kernel
theorem f190_66 : decode prog_10_method_42_code 66 = .ok (.getfield 114, 3) := by decide +kernel
theorem f190_69 : decode prog_10_method_42_code 69 = .ok (.if_icmp .ge 71, 3) := by decide +kernel
theorem f190_72 : decode prog_10_method_42_code 72 = .ok (.iload_n 2, 1) := by decide +kernel
theorem f190_73 : decode prog_10_method_42_code 73 = .ok (.iload 4, 2) := by decide +kernel
theorem f190_75 : decode prog_10_method_42_code 75 = .ok (.ishr, 1) := by decide +kernel
theorem f190_76 : decode prog_10_method_42_code 76 = .ok (.iconst 1, 1) := by decide +kernel
theorem f190_77 : decode prog_10_method_42_code 77 = .ok (.iand, 1) := by decide +kernel
theorem f190_78 : decode prog_10_method_42_code 78 = .ok (.ifCond .ne 6, 3) := by decide +kernel
theorem f190_81 : decode prog_10_method_42_code 81 = .ok (.goto 53, 3) := by decide +kernel
theorem f190_84 : decode prog_10_method_42_code 84 = .ok (.aload_n 0, 1) := by decide +kernel
theorem f190_85 : decode prog_10_method_42_code 85 = .ok (.getfield 94, 3) := by decide +kernel
theorem f190_88 : decode prog_10_method_42_code 88 = .ok (.iload_n 1, 1) := by decide +kernel
theorem f190_89 : decode prog_10_method_42_code 89 = .ok (.iload 4, 2) := by decide +kernel
theorem f190_91 : decode prog_10_method_42_code 91 = .ok (.iastore, 1) := by decide +kernel
theorem f190_92 : decode prog_10_method_42_code 92 = .ok (.aload_n 0, 1) := by decide +kernel
theorem f190_93 : decode prog_10_method_42_code 93 = .ok (.iload_n 1, 1) := by decide +kernel
theorem f190_94 : decode prog_10_method_42_code 94 = .ok (.iconst 1, 1) := by decide +kernel
theorem f190_95 : decode prog_10_method_42_code 95 = .ok (.iadd, 1) := by decide +kernel
theorem f190_96 : decode prog_10_method_42_code 96 = .ok (.iload_n 2, 1) := by decide +kernel
theorem f190_97 : decode prog_10_method_42_code 97 = .ok (.iconst 1, 1) := by decide +kernel
theorem f190_98 : decode prog_10_method_42_code 98 = .ok (.iload 4, 2) := by decide +kernel
theorem f190_100 : decode prog_10_method_42_code 100 = .ok (.ishl, 1) := by decide +kernel
theorem f190_101 : decode prog_10_method_42_code 101 = .ok (.iconst (-1), 1) := by decide +kernel
theorem f190_102 : decode prog_10_method_42_code 102 = .ok (.ixor, 1) := by decide +kernel
theorem f190_103 : decode prog_10_method_42_code 103 = .ok (.iand, 1) := by decide +kernel
theorem f190_104 : decode prog_10_method_42_code 104 = .ok (.iload_n 3, 1) := by decide +kernel
theorem f190_105 : decode prog_10_method_42_code 105 = .ok (.bipush 6, 2) := by decide +kernel
theorem f190_107 : decode prog_10_method_42_code 107 = .ok (.iadd, 1) := by decide +kernel
theorem f190_108 : decode prog_10_method_42_code 108 = .ok (.iload_n 1, 1) := by decide +kernel
theorem f190_109 : decode prog_10_method_42_code 109 = .ok (.ifCond .ne 7, 3) := by decide +kernel
theorem f190_112 : decode prog_10_method_42_code 112 = .ok (.iconst 0, 1) := by decide +kernel
theorem f190_113 : decode prog_10_method_42_code 113 = .ok (.goto 17, 3) := by decide +kernel
theorem f190_116 : decode prog_10_method_42_code 116 = .ok (.aload_n 0, 1) := by decide +kernel
theorem f190_117 : decode prog_10_method_42_code 117 = .ok (.aload_n 0, 1) := by decide +kernel
theorem f190_118 : decode prog_10_method_42_code 118 = .ok (.getfield 94, 3) := by decide +kernel
theorem f190_121 : decode prog_10_method_42_code 121 = .ok (.iload_n 1, 1) := by decide +kernel
theorem f190_122 : decode prog_10_method_42_code 122 = .ok (.iconst 1, 1) := by decide +kernel
theorem f190_123 : decode prog_10_method_42_code 123 = .ok (.isub, 1) := by decide +kernel
theorem f190_124 : decode prog_10_method_42_code 124 = .ok (.iaload, 1) := by decide +kernel
theorem f190_125 : decode prog_10_method_42_code 125 = .ok (.iload 4, 2) := by decide +kernel
theorem f190_127 : decode prog_10_method_42_code 127 = .ok (.invokevirtual 276, 3) := by decide +kernel
theorem f190_130 : decode prog_10_method_42_code 130 = .ok (.isub, 1) := by decide +kernel
theorem f190_131 : decode prog_10_method_42_code 131 = .ok (.invokevirtual 282, 3) := by decide +kernel
theorem f190_134 : decode prog_10_method_42_code 134 = .ok (.iinc 4 1, 3) := by decide +kernel
theorem f190_137 : decode prog_10_method_42_code 137 = .ok (.goto (-74), 3) := by decide +kernel
theorem f190_140 : decode prog_10_method_42_code 140 = .ok (.return_, 1) := by decide +kernel
theorem f192_0 : decode prog_10_method_48_code 0 = .ok (.aload_n 0, 1) := by decide +kernel
theorem f192_1 : decode prog_10_method_48_code 1 = .ok (.iload_n 1, 1) := by decide +kernel
theorem f192_2 : decode prog_10_method_48_code 2 = .ok (.invokevirtual 121, 3) := by decide +kernel
theorem f192_5 : decode prog_10_method_48_code 5 = .ok (.ifCond .eq 12, 3) := by decide +kernel
theorem f192_8 : decode prog_10_method_48_code 8 = .ok (.iload_n 2, 1) := by decide +kernel
theorem f192_9 : decode prog_10_method_48_code 9 = .ok (.iconst 0, 1) := by decide +kernel
theorem f192_10 : decode prog_10_method_48_code 10 = .ok (.iconst 1, 1) := by decide +kernel
theorem f192_11 : decode prog_10_method_48_code 11 = .ok (.invokestatic 117, 3) := by decide +kernel
theorem f192_14 : decode prog_10_method_48_code 14 = .ok (.ifCond .ne 5, 3) := by decide +kernel
theorem f192_17 : decode prog_10_method_48_code 17 = .ok (.iconst (-1), 1) := by decide +kernel
theorem f192_18 : decode prog_10_method_48_code 18 = .ok (.ireturn, 1) := by decide +kernel
theorem f192_19 : decode prog_10_method_48_code 19 = .ok (.aload_n 0, 1) := by decide +kernel
theorem f192_20 : decode prog_10_method_48_code 20 = .ok (.getfield 15, 3) := by decide +kernel
theorem f192_23 : decode prog_10_method_48_code 23 = .ok (.iload_n 1, 1) := by decide +kernel
theorem f192_24 : decode prog_10_method_48_code 24 = .ok (.iaload, 1) := by decide +kernel
theorem f192_25 : decode prog_10_method_48_code 25 = .ok (.istore_n 3, 1) := by decide +kernel
theorem f192_26 : decode prog_10_method_48_code 26 = .ok (.iconst 0, 1) := by decide +kernel
theorem f192_27 : decode prog_10_method_48_code 27 = .ok (.istore 4, 2) := by decide +kernel
theorem f192_29 : decode prog_10_method_48_code 29 = .ok (.bipush (-5), 2) := by decide +kernel
theorem f192_31 : decode prog_10_method_48_code 31 = .ok (.istore 5, 2) := by decide +kernel
theorem f192_33 : decode prog_10_method_48_code 33 = .ok (.bipush 9, 2) := by decide +kernel
theorem f192_35 : decode prog_10_method_48_code 35 = .ok (.istore 6, 2) := by decide +kernel
theorem f192_37 : decode prog_10_method_48_code 37 = .ok (.iload 6, 2) := by decide +kernel
theorem f192_39 : decode prog_10_method_48_code 39 = .ok (.ifCond .lt 35, 3) := by decide +kernel
theorem f192_42 : decode prog_10_method_48_code 42 = .ok (.aload_n 0, 1) := by decide +kernel
theorem f192_43 : decode prog_10_method_48_code 43 = .ok (.getfield 15, 3) := by decide +kernel
theorem f192_46 : decode prog_10_method_48_code 46 = .ok (.iload_n 1, 1) := by decide +kernel
theorem f192_47 : decode prog_10_method_48_code 47 = .ok (.iload 6, 2) := by decide +kernel
theorem f192_49 : decode prog_10_method_48_code 49 = .ok (.iastore, 1) := by decide +kernel
theorem f192_50 : decode prog_10_method_48_code 50 = .ok (.aload_n 0, 1) := by decide +kernel
theorem f192_51 : decode prog_10_method_48_code 51 = .ok (.iload_n 1, 1) := by decide +kernel
theorem f192_52 : decode prog_10_method_48_code 52 = .ok (.invokevirtual 292, 3) := by decide +kernel
theorem f192_55 : decode prog_10_method_48_code 55 = .ok (.ifCond .ne 6, 3) := by decide +kernel
theorem f192_58 : decode prog_10_method_48_code 58 = .ok (.goto 10, 3) := by decide +kernel
theorem f192_61 : decode prog_10_method_48_code 61 = .ok (.iinc 4 1, 3) := by decide +kernel
theorem f192_64 : decode prog_10_method_48_code 64 = .ok (.iload 6, 2) := by decide +kernel
theorem f192_66 : decode prog_10_method_48_code 66 = .ok (.istore 5, 2) := by decide +kernel
theorem f192_68 : decode prog_10_method_48_code 68 = .ok (.iinc 6 (-1), 3) := by decide +kernel
theorem f192_71 : decode prog_10_method_48_code 71 = .ok (.goto (-34), 3) := by decide +kernel
theorem f192_74 : decode prog_10_method_48_code 74 = .ok (.aload_n 0, 1) := by decide +kernel
theorem f192_75 : decode prog_10_method_48_code 75 = .ok (.getfield 15, 3) := by decide +kernel
theorem f192_78 : decode prog_10_method_48_code 78 = .ok (.iload_n 1, 1) := by decide +kernel
theorem f192_79 : decode prog_10_method_48_code 79 = .ok (.iload_n 3, 1) := by decide +kernel
theorem f192_80 : decode prog_10_method_48_code 80 = .ok (.iastore, 1) := by decide +kernel
theorem f192_81 : decode prog_10_method_48_code 81 = .ok (.iload_n 2, 1) := by decide +kernel
theorem f192_82 : decode prog_10_method_48_code 82 = .ok (.ifCond .ne 8, 3) := by decide +kernel
theorem f192_85 : decode prog_10_method_48_code 85 = .ok (.iload 4, 2) := by decide +kernel
theorem f192_87 : decode prog_10_method_48_code 87 = .ok (.goto 5, 3) := by decide +kernel
theorem f192_90 : decode prog_10_method_48_code 90 = .ok (.iload 5, 2) := by decide +kernel
theorem f192_92 : decode prog_10_method_48_code 92 = .ok (.ireturn, 1) := by decide +kernel
theorem f193_0 : decode prog_10_method_50_code 0 = .ok (.aload_n 0, 1) := by decide +kernel
theorem f193_1 : decode prog_10_method_50_code 1 = .ok (.iload_n 1, 1) := by decide +kernel
theorem f193_2 : decode prog_10_method_50_code 2 = .ok (.invokevirtual 121, 3) := by decide +kernel
theorem f193_5 : decode prog_10_method_50_code 5 = .ok (.ifCond .eq 12, 3) := by decide +kernel
theorem f193_8 : decode prog_10_method_50_code 8 = .ok (.iload_n 2, 1) := by decide +kernel
theorem f193_9 : decode prog_10_method_50_code 9 = .ok (.iconst 0, 1) := by decide +kernel
theorem f193_10 : decode prog_10_method_50_code 10 = .ok (.iconst 1, 1) := by decide +kernel
theorem f193_11 : decode prog_10_method_50_code 11 = .ok (.invokestatic 117, 3) := by decide +kernel
theorem f193_14 : decode prog_10_method_50_code 14 = .ok (.ifCond .ne 7, 3) := by decide +kernel
theorem f193_17 : decode prog_10_method_50_code 17 = .ok (.ldc2_w 299, 3) := by decide +kernel
theorem f193_20 : decode prog_10_method_50_code 20 = .ok (.lreturn, 1) := by decide +kernel
theorem f193_21 : decode prog_10_method_50_code 21 = .ok (.iconst 0, 1) := by decide +kernel
theorem f193_22 : decode prog_10_method_50_code 22 = .ok (.istore_n 3, 1) := by decide +kernel
theorem f193_23 : decode prog_10_method_50_code 23 = .ok (.iconst 0, 1) := by decide +kernel
theorem f193_24 : decode prog_10_method_50_code 24 = .ok (.istore 4, 2) := by decide +kernel
theorem f193_26 : decode prog_10_method_50_code 26 = .ok (.iload 4, 2) := by decide +kernel
theorem f193_28 : decode prog_10_method_50_code 28 = .ok (.bipush 6, 2) := by decide +kernel
theorem f193_30 : decode prog_10_method_50_code 30 = .ok (.if_icmp .ge 80, 3) := by decide +kernel
theorem f193_33 : decode prog_10_method_50_code 33 = .ok (.aload_n 0, 1) := by decide +kernel
theorem f193_34 : decode prog_10_method_50_code 34 = .ok (.getfield 18, 3) := by decide +kernel
theorem f193_37 : decode prog_10_method_50_code 37 = .ok (.bipush 6, 2) := by decide +kernel
theorem f193_39 : decode prog_10_method_50_code 39 = .ok (.iload_n 1, 1) := by decide +kernel
theorem f193_40 : decode prog_10_method_50_code 40 = .ok (.imul, 1) := by decide +kernel
theorem f193_41 : decode prog_10_method_50_code 41 = .ok (.iload 4, 2) := by decide +kernel
theorem f193_43 : decode prog_10_method_50_code 43 = .ok (.iadd, 1) := by decide +kernel
theorem f193_44 : decode prog_10_method_50_code 44 = .ok (.iaload, 1) := by decide +kernel
theorem f193_45 : decode prog_10_method_50_code 45 = .ok (.istore 5, 2) := by decide +kernel
theorem f193_47 : decode prog_10_method_50_code 47 = .ok (.iconst 0, 1) := by decide +kernel
theorem f193_48 : decode prog_10_method_50_code 48 = .ok (.istore 6, 2) := by decide +kernel
theorem f193_50 : decode prog_10_method_50_code 50 = .ok (.iload 6, 2) := by decide +kernel
theorem f193_52 : decode prog_10_method_50_code 52 = .ok (.bipush 10, 2) := by decide +kernel
theorem f193_54 : decode prog_10_method_50_code 54 = .ok (.if_icmp .ge 36, 3) := by decide +kernel
theorem f193_57 : decode prog_10_method_50_code 57 = .ok (.aload_n 0, 1) := by decide +kernel
theorem f193_58 : decode prog_10_method_50_code 58 = .ok (.getfield 18, 3) := by decide +kernel
theorem f193_61 : decode prog_10_method_50_code 61 = .ok (.bipush 6, 2) := by decide +kernel
theorem f193_63 : decode prog_10_method_50_code 63 = .ok (.iload_n 1, 1) := by decide +kernel
theorem f193_64 : decode prog_10_method_50_code 64 = .ok (.imul, 1) := by decide +kernel
theorem f193_65 : decode prog_10_method_50_code 65 = .ok (.iload 4, 2) := by decide +kernel
theorem f193_67 : decode prog_10_method_50_code 67 = .ok (.iadd, 1) := by decide +kernel
theorem f193_68 : decode prog_10_method_50_code 68 = .ok (.iload 6, 2) := by decide +kernel
theorem f193_70 : decode prog_10_method_50_code 70 = .ok (.iastore, 1) := by decide +kernel
theorem f193_71 : decode prog_10_method_50_code 71 = .ok (.aload_n 0, 1) := by decide +kernel
theorem f193_72 : decode prog_10_method_50_code 72 = .ok (.iload_n 1, 1) := by decide +kernel
theorem f193_73 : decode prog_10_method_50_code 73 = .ok (.invokevirtual 142, 3) := by decide +kernel
theorem f193_76 : decode prog_10_method_50_code 76 = .ok (.bipush (-5), 2) := by decide +kernel
theorem f193_78 : decode prog_10_method_50_code 78 = .ok (.if_icmp .eq 6, 3) := by decide +kernel
theorem f193_81 : decode prog_10_method_50_code 81 = .ok (.iinc 3 1, 3) := by decide +kernel
theorem f193_84 : decode prog_10_method_50_code 84 = .ok (.iinc 6 1, 3) := by decide +kernel
theorem f193_87 : decode prog_10_method_50_code 87 = .ok (.goto (-37), 3) := by decide +kernel
theorem f193_90 : decode prog_10_method_50_code 90 = .ok (.aload_n 0, 1) := by decide +kernel
theorem f193_91 : decode prog_10_method_50_code 91 = .ok (.getfield 18, 3) := by decide +kernel
theorem f193_94 : decode prog_10_method_50_code 94 = .ok (.bipush 6, 2) := by decide +kernel
theorem f193_96 : decode prog_10_method_50_code 96 = .ok (.iload_n 1, 1) := by decide +kernel
theorem f193_97 : decode prog_10_method_50_code 97 = .ok (.imul, 1) := by decide +kernel
theorem f193_98 : decode prog_10_method_50_code 98 = .ok (.iload 4, 2) := by decide +kernel
theorem f193_100 : decode prog_10_method_50_code 100 = .ok (.iadd, 1) := by decide +kernel
theorem f193_101 : decode prog_10_method_50_code 101 = .ok (.iload 5, 2) := by decide +kernel
theorem f193_103 : decode prog_10_method_50_code 103 = .ok (.iastore, 1) := by decide +kernel
theorem f193_104 : decode prog_10_method_50_code 104 = .ok (.iinc 4 1, 3) := by decide +kernel
theorem f193_107 : decode prog_10_method_50_code 107 = .ok (.goto (-81), 3) := by decide +kernel
theorem f193_110 : decode prog_10_method_50_code 110 = .ok (.iload_n 3, 1) := by decide +kernel
theorem f193_111 : decode prog_10_method_50_code 111 = .ok (.i2l, 1) := by decide +kernel
theorem f193_112 : decode prog_10_method_50_code 112 = .ok (.ldc2_w 301, 3) := by decide +kernel
theorem f193_115 : decode prog_10_method_50_code 115 = .ok (.iload_n 2, 1) := by decide +kernel
theorem f193_116 : decode prog_10_method_50_code 116 = .ok (.invokestatic 303, 3) := by decide +kernel
theorem f193_119 : decode prog_10_method_50_code 119 = .ok (.lreturn, 1) := by decide +kernel
theorem f196_0 : decode prog_10_method_51_code 0 = .ok (.iload_n 1, 1) := by decide +kernel
theorem f196_1 : decode prog_10_method_51_code 1 = .ok (.iconst 0, 1) := by decide +kernel
theorem f196_2 : decode prog_10_method_51_code 2 = .ok (.bipush 60, 2) := by decide +kernel
theorem f196_4 : decode prog_10_method_51_code 4 = .ok (.invokestatic 117, 3) := by decide +kernel
theorem f196_7 : decode prog_10_method_51_code 7 = .ok (.ifCond .eq 19, 3) := by decide +kernel
theorem f196_10 : decode prog_10_method_51_code 10 = .ok (.iload_n 2, 1) := by decide +kernel
theorem f196_11 : decode prog_10_method_51_code 11 = .ok (.iconst 0, 1) := by decide +kernel
theorem f196_12 : decode prog_10_method_51_code 12 = .ok (.iconst 1, 1) := by decide +kernel
theorem f196_13 : decode prog_10_method_51_code 13 = .ok (.invokestatic 117, 3) := by decide +kernel
theorem f196_16 : decode prog_10_method_51_code 16 = .ok (.ifCond .eq 10, 3) := by decide +kernel
theorem f196_19 : decode prog_10_method_51_code 19 = .ok (.aload_n 0, 1) := by decide +kernel
theorem f196_20 : decode prog_10_method_51_code 20 = .ok (.getfield 114, 3) := by decide +kernel
theorem f196_23 : decode prog_10_method_51_code 23 = .ok (.ifCond .ne 7, 3) := by decide +kernel
theorem f196_26 : decode prog_10_method_51_code 26 = .ok (.ldc2_w 299, 3) := by decide +kernel
theorem f196_29 : decode prog_10_method_51_code 29 = .ok (.lreturn, 1) := by decide +kernel
theorem f196_30 : decode prog_10_method_51_code 30 = .ok (.aload_n 0, 1) := by decide +kernel
theorem f196_31 : decode prog_10_method_51_code 31 = .ok (.aload_n 0, 1) := by decide +kernel
theorem f196_32 : decode prog_10_method_51_code 32 = .ok (.getfield 85, 3) := by decide +kernel
theorem f196_35 : decode prog_10_method_51_code 35 = .ok (.invokevirtual 269, 3) := by decide +kernel
theorem f196_38 : decode prog_10_method_51_code 38 = .ok (.iconst 0, 1) := by decide +kernel
theorem f196_39 : decode prog_10_method_51_code 39 = .ok (.istore_n 3, 1) := by decide +kernel
theorem f196_40 : decode prog_10_method_51_code 40 = .ok (.iload_n 3, 1) := by decide +kernel
theorem f196_41 : decode prog_10_method_51_code 41 = .ok (.iload_n 1, 1) := by decide +kernel
theorem f196_42 : decode prog_10_method_51_code 42 = .ok (.if_icmp .ge 13, 3) := by decide +kernel
theorem f196_45 : decode prog_10_method_51_code 45 = .ok (.aload_n 0, 1) := by decide +kernel
theorem f196_46 : decode prog_10_method_51_code 46 = .ok (.invokevirtual 266, 3) := by decide +kernel
theorem f196_49 : decode prog_10_method_51_code 49 = .ok (.iinc 3 1, 3) := by decide +kernel
theorem f196_52 : decode prog_10_method_51_code 52 = .ok (.goto (-12), 3) := by decide +kernel
theorem f196_55 : decode prog_10_method_51_code 55 = .ok (.aload_n 0, 1) := by decide +kernel
theorem f196_56 : decode prog_10_method_51_code 56 = .ok (.invokevirtual 263, 3) := by decide +kernel
theorem f196_59 : decode prog_10_method_51_code 59 = .ok (.istore_n 3, 1) := by decide +kernel
theorem f196_60 : decode prog_10_method_51_code 60 = .ok (.aload_n 0, 1) := by decide +kernel
theorem f196_61 : decode prog_10_method_51_code 61 = .ok (.aload_n 0, 1) := by decide +kernel
theorem f196_62 : decode prog_10_method_51_code 62 = .ok (.getfield 85, 3) := by decide +kernel
theorem f196_65 : decode prog_10_method_51_code 65 = .ok (.invokevirtual 273, 3) := by decide +kernel
theorem f196_68 : decode prog_10_method_51_code 68 = .ok (.iload_n 3, 1) := by decide +kernel
theorem f196_69 : decode prog_10_method_51_code 69 = .ok (.i2l, 1) := by decide +kernel
theorem f196_70 : decode prog_10_method_51_code 70 = .ok (.bipush 6, 2) := by decide +kernel
theorem f196_72 : decode prog_10_method_51_code 72 = .ok (.aload_n 0, 1) := by decide +kernel
theorem f196_73 : decode prog_10_method_51_code 73 = .ok (.getfield 114, 3) := by decide +kernel
theorem f196_76 : decode prog_10_method_51_code 76 = .ok (.imul, 1) := by decide +kernel
theorem f196_77 : decode prog_10_method_51_code 77 = .ok (.i2l, 1) := by decide +kernel
theorem f196_78 : decode prog_10_method_51_code 78 = .ok (.iload_n 2, 1) := by decide +kernel
theorem f196_79 : decode prog_10_method_51_code 79 = .ok (.invokestatic 303, 3) := by decide +kernel
theorem f196_82 : decode prog_10_method_51_code 82 = .ok (.lreturn, 1) := by decide +kernel
theorem f198_0 : decode prog_10_method_53_code 0 = .ok (.iload_n 1, 1) := by decide +kernel
theorem f198_1 : decode prog_10_method_53_code 1 = .ok (.iconst 0, 1) := by decide +kernel
theorem f198_2 : decode prog_10_method_53_code 2 = .ok (.iconst 1, 1) := by decide +kernel
theorem f198_3 : decode prog_10_method_53_code 3 = .ok (.invokestatic 117, 3) := by decide +kernel
theorem f198_6 : decode prog_10_method_53_code 6 = .ok (.ifCond .ne 5, 3) := by decide +kernel
theorem f198_9 : decode prog_10_method_53_code 9 = .ok (.iconst (-1), 1) := by decide +kernel
theorem f198_10 : decode prog_10_method_53_code 10 = .ok (.ireturn, 1) := by decide +kernel
theorem f198_11 : decode prog_10_method_53_code 11 = .ok (.aload_n 0, 1) := by decide +kernel
theorem f198_12 : decode prog_10_method_53_code 12 = .ok (.aload_n 0, 1) := by decide +kernel
theorem f198_13 : decode prog_10_method_53_code 13 = .ok (.getfield 85, 3) := by decide +kernel
theorem f198_16 : decode prog_10_method_53_code 16 = .ok (.invokevirtual 269, 3) := by decide +kernel
theorem f198_19 : decode prog_10_method_53_code 19 = .ok (.iconst 0, 1) := by decide +kernel
theorem f198_20 : decode prog_10_method_53_code 20 = .ok (.istore_n 2, 1) := by decide +kernel
theorem f198_21 : decode prog_10_method_53_code 21 = .ok (.iload_n 2, 1) := by decide +kernel
theorem f198_22 : decode prog_10_method_53_code 22 = .ok (.aload_n 0, 1) := by decide +kernel
theorem f198_23 : decode prog_10_method_53_code 23 = .ok (.getfield 307, 3) := by decide +kernel
theorem f198_26 : decode prog_10_method_53_code 26 = .ok (.if_icmp .ge 111, 3) := by decide +kernel
theorem f198_29 : decode prog_10_method_53_code 29 = .ok (.aload_n 0, 1) := by decide +kernel
theorem f198_30 : decode prog_10_method_53_code 30 = .ok (.getfield 70, 3) := by decide +kernel
theorem f198_33 : decode prog_10_method_53_code 33 = .ok (.iload_n 2, 1) := by decide +kernel
theorem f198_34 : decode prog_10_method_53_code 34 = .ok (.iaload, 1) := by decide +kernel
theorem f198_35 : decode prog_10_method_53_code 35 = .ok (.istore_n 3, 1) := by decide +kernel
theorem f198_36 : decode prog_10_method_53_code 36 = .ok (.aload_n 0, 1) := by decide +kernel
theorem f198_37 : decode prog_10_method_53_code 37 = .ok (.getfield 67, 3) := by decide +kernel
theorem f198_40 : decode prog_10_method_53_code 40 = .ok (.iload_n 2, 1) := by decide +kernel
theorem f198_41 : decode prog_10_method_53_code 41 = .ok (.iaload, 1) := by decide +kernel
theorem f198_42 : decode prog_10_method_53_code 42 = .ok (.ifCond .ne 10, 3) := by decide +kernel
theorem f198_45 : decode prog_10_method_53_code 45 = .ok (.aload_n 0, 1) := by decide +kernel
theorem f198_46 : decode prog_10_method_53_code 46 = .ok (.invokevirtual 266, 3) := by decide +kernel
theorem f198_49 : decode prog_10_method_53_code 49 = .ok (.goto 82, 3) := by decide +kernel
theorem f198_52 : decode prog_10_method_53_code 52 = .ok (.aload_n 0, 1) := by decide +kernel
theorem f198_53 : decode prog_10_method_53_code 53 = .ok (.getfield 67, 3) := by decide +kernel
theorem f198_56 : decode prog_10_method_53_code 56 = .ok (.iload_n 2, 1) := by decide +kernel
theorem f198_57 : decode prog_10_method_53_code 57 = .ok (.iaload, 1) := by decide +kernel
theorem f198_58 : decode prog_10_method_53_code 58 = .ok (.iconst 2, 1) := by decide +kernel
theorem f198_59 : decode prog_10_method_53_code 59 = .ok (.if_icmp .ne 13, 3) := by decide +kernel
theorem f198_62 : decode prog_10_method_53_code 62 = .ok (.aload_n 0, 1) := by decide +kernel
theorem f198_63 : decode prog_10_method_53_code 63 = .ok (.getfield 21, 3) := by decide +kernel
theorem f198_66 : decode prog_10_method_53_code 66 = .ok (.iload_n 3, 1) := by decide +kernel
theorem f198_67 : decode prog_10_method_53_code 67 = .ok (.iconst 0, 1) := by decide +kernel
theorem f198_68 : decode prog_10_method_53_code 68 = .ok (.iastore, 1) := by decide +kernel
theorem f198_69 : decode prog_10_method_53_code 69 = .ok (.goto 62, 3) := by decide +kernel
theorem f198_72 : decode prog_10_method_53_code 72 = .ok (.iconst 0, 1) := by decide +kernel
theorem f198_73 : decode prog_10_method_53_code 73 = .ok (.istore 4, 2) := by decide +kernel
theorem f198_75 : decode prog_10_method_53_code 75 = .ok (.iload 4, 2) := by decide +kernel
theorem f198_77 : decode prog_10_method_53_code 77 = .ok (.bipush 6, 2) := by decide +kernel
theorem f198_79 : decode prog_10_method_53_code 79 = .ok (.if_icmp .ge 52, 3) := by decide +kernel
theorem f198_82 : decode prog_10_method_53_code 82 = .ok (.aload_n 0, 1) := by decide +kernel
theorem f198_83 : decode prog_10_method_53_code 83 = .ok (.getfield 18, 3) := by decide +kernel
theorem f198_86 : decode prog_10_method_53_code 86 = .ok (.bipush 6, 2) := by decide +kernel
theorem f198_88 : decode prog_10_method_53_code 88 = .ok (.iload_n 3, 1) := by decide +kernel
theorem f198_89 : decode prog_10_method_53_code 89 = .ok (.imul, 1) := by decide +kernel
theorem f198_90 : decode prog_10_method_53_code 90 = .ok (.iload 4, 2) := by decide +kernel
theorem f198_92 : decode prog_10_method_53_code 92 = .ok (.iadd, 1) := by decide +kernel
theorem f198_93 : decode prog_10_method_53_code 93 = .ok (.aload_n 0, 1) := by decide +kernel
theorem f198_94 : decode prog_10_method_53_code 94 = .ok (.getfield 67, 3) := by decide +kernel
theorem f198_97 : decode prog_10_method_53_code 97 = .ok (.iload_n 2, 1) := by decide +kernel
theorem f198_98 : decode prog_10_method_53_code 98 = .ok (.iaload, 1) := by decide +kernel
theorem f198_99 : decode prog_10_method_53_code 99 = .ok (.iconst 1, 1) := by decide +kernel
theorem f198_100 : decode prog_10_method_53_code 100 = .ok (.if_icmp .ne 7, 3) := by decide +kernel
theorem f198_103 : decode prog_10_method_53_code 103 = .ok (.iconst 0, 1) := by decide +kernel
theorem f198_104 : decode prog_10_method_53_code 104 = .ok (.goto 20, 3) := by decide +kernel
theorem f198_107 : decode prog_10_method_53_code 107 = .ok (.aload_n 0, 1) := by decide +kernel
theorem f198_108 : decode prog_10_method_53_code 108 = .ok (.getfield 18, 3) := by decide +kernel
theorem f198_111 : decode prog_10_method_53_code 111 = .ok (.bipush 6, 2) := by decide +kernel
theorem f198_113 : decode prog_10_method_53_code 113 = .ok (.iload_n 3, 1) := by decide +kernel
theorem f198_114 : decode prog_10_method_53_code 114 = .ok (.imul, 1) := by decide +kernel
theorem f198_115 : decode prog_10_method_53_code 115 = .ok (.iload 4, 2) := by decide +kernel
theorem f198_117 : decode prog_10_method_53_code 117 = .ok (.iadd, 1) := by decide +kernel
theorem f198_118 : decode prog_10_method_53_code 118 = .ok (.iaload, 1) := by decide +kernel
theorem f198_119 : decode prog_10_method_53_code 119 = .ok (.iconst 1, 1) := by decide +kernel
theorem f198_120 : decode prog_10_method_53_code 120 = .ok (.iadd, 1) := by decide +kernel
theorem f198_121 : decode prog_10_method_53_code 121 = .ok (.bipush 10, 2) := by decide +kernel
theorem f198_123 : decode prog_10_method_53_code 123 = .ok (.irem, 1) := by decide +kernel
theorem f198_124 : decode prog_10_method_53_code 124 = .ok (.iastore, 1) := by decide +kernel
theorem f198_125 : decode prog_10_method_53_code 125 = .ok (.iinc 4 1, 3) := by decide +kernel
theorem f198_128 : decode prog_10_method_53_code 128 = .ok (.goto (-53), 3) := by decide +kernel
theorem f198_131 : decode prog_10_method_53_code 131 = .ok (.iinc 2 1, 3) := by decide +kernel
theorem f198_134 : decode prog_10_method_53_code 134 = .ok (.goto (-113), 3) := by decide +kernel
theorem f198_137 : decode prog_10_method_53_code 137 = .ok (.iload_n 1, 1) := by decide +kernel
theorem f198_138 : decode prog_10_method_53_code 138 = .ok (.ifCond .ne 10, 3) := by decide +kernel
theorem f198_141 : decode prog_10_method_53_code 141 = .ok (.aload_n 0, 1) := by decide +kernel
theorem f198_142 : decode prog_10_method_53_code 142 = .ok (.invokevirtual 263, 3) := by decide +kernel
theorem f198_145 : decode prog_10_method_53_code 145 = .ok (.goto 7, 3) := by decide +kernel
theorem f198_148 : decode prog_10_method_53_code 148 = .ok (.aload_n 0, 1) := by decide +kernel
theorem f198_149 : decode prog_10_method_53_code 149 = .ok (.invokevirtual 260, 3) := by decide +kernel
theorem f198_152 : decode prog_10_method_53_code 152 = .ok (.istore_n 2, 1) := by decide +kernel
theorem f198_153 : decode prog_10_method_53_code 153 = .ok (.aload_n 0, 1) := by decide +kernel
theorem f198_154 : decode prog_10_method_53_code 154 = .ok (.aload_n 0, 1) := by decide +kernel
theorem f198_155 : decode prog_10_method_53_code 155 = .ok (.getfield 85, 3) := by decide +kernel
theorem f198_158 : decode prog_10_method_53_code 158 = .ok (.invokevirtual 273, 3) := by decide +kernel
theorem f198_161 : decode prog_10_method_53_code 161 = .ok (.iload_n 2, 1) := by decide +kernel
theorem f198_162 : decode prog_10_method_53_code 162 = .ok (.ireturn, 1) := by decide +kernel
section YD
variable {zl : Nat} {nl : Option Nat} {h : Hp}
/-- HatterTunesModel.of(II)I -/
theorem E130 {d : Nat} {K : Int → Hp → Prop} (w : yWF zl nl h) {x0 : Int} {x1 : Int} (hd : 2 ≤ d) (k : (((0 : Int) ≤ zV h 137 0 ∧ zV h 137 0 ≤ 6) ∧ ((((0 : Int) ≤ x0 ∧ x0 < zV h 137 0) → ((((0 : Int) ≤ (zw (x1 - 10)) ∧ (zw (x1 - 10)) < 6) → ((0 ≤ (zw ((zw ((zw (6 * x0)) + x1)) - 10)) ∧ (zw ((zw ((zw (6 * x0)) + x1)) - 10)) < 36) ∧ K (zV h 140 ((zw ((zw ((zw (6 * x0)) + x1)) - 10))).toNat) h)) ∧ (¬ (((0 : Int) ≤ (zw (x1 - 10)) ∧ (zw (x1 - 10)) < 6)) → ((((0 : Int) ≤ (zw (x1 - 20)) ∧ (zw (x1 - 20)) < 6) → yI (d - 1) 133 [vR (some 137), vI x0, vI (zw (x1 - 20))] h (fun x h' => ZW d prog_10_method_7_code 8 56 [some (vR (some 137)), some (vI x0), some (vI x1)] [vI x] h' (yq 1 (yqI K)))) ∧ (¬ (((0 : Int) ≤ (zw (x1 - 20)) ∧ (zw (x1 - 20)) < 6)) → ((((0 : Int) ≤ (zw (x1 - 30)) ∧ (zw (x1 - 30)) < 6) → yI (d - 1) 134 [vR (some 137), vI x0, vI (zw (x1 - 30))] h (fun x h' => ZW d prog_10_method_7_code 8 76 [some (vR (some 137)), some (vI x0), some (vI x1)] [vI x] h' (yq 1 (yqI K)))) ∧ (¬ (((0 : Int) ≤ (zw (x1 - 30)) ∧ (zw (x1 - 30)) < 6)) → ((((0 : Int) ≤ (zw (x1 - 40)) ∧ (zw (x1 - 40)) < 6) → yI (d - 1) 138 [vR (some 137), vI x0, vI (zw (x1 - 40))] h (fun x h' => ZW d prog_10_method_7_code 8 96 [some (vR (some 137)), some (vI x0), some (vI x1)] [vI x] h' (yq 1 (yqI K)))) ∧ (¬ (((0 : Int) ≤ (zw (x1 - 40)) ∧ (zw (x1 - 40)) < 6)) → ((x1 = 0 → ((0 ≤ x0 ∧ x0 < 6) ∧ K (zV h 138 (x0).toNat) h)) ∧ (x1 = 1 → ((0 ≤ x0 ∧ x0 < 6) ∧ K (zV h 139 (x0).toNat) h)) ∧ (x1 = 2 → ((0 ≤ x0 ∧ x0 < 6) ∧ K (zV h 141 (x0).toNat) h)) ∧ (x1 = 3 → yI (d - 1) 144 [vR (some 137), vI x0] h (fun x h' => ZW d prog_10_method_7_code 8 166 [some (vR (some 137)), some (vI x0), some (vI x1)] [vI x] h' (yq 1 (yqI K)))) ∧ (x1 = 4 → yI (d - 1) 146 [vR (some 137), vI x0] h (fun x h' => ZW d prog_10_method_7_code 8 172 [some (vR (some 137)), some (vI x0), some (vI x1)] [vI x] h' (yq 1 (yqI K)))) ∧ (x1 = 5 → yI (d - 1) 148 [vR (some 137), vI x0] h (fun x h' => ZW d prog_10_method_7_code 8 178 [some (vR (some 137)), some (vI x0), some (vI x1)] [vI x] h' (yq 1 (yqI K)))) ∧ (x1 = 6 → yI (d - 1) 149 [vR (some 137), vI x0] h (fun x h' => ZW d prog_10_method_7_code 8 184 [some (vR (some 137)), some (vI x0), some (vI x1)] [vI x] h' (yq 1 (yqI K)))) ∧ (x1 < 0 ∨ 6 < x1 → K (-10001) h))))))))))) ∧ (¬ (((0 : Int) ≤ x0 ∧ x0 < zV h 137 0)) → K (-10001) h)))) : yI d 130 [vR (some 137), vI x0, vI x1] h K := by
  refine y_en (L := [some (vR (some 137)), some (vI x0), some (vI x1)]) rfl rfl ?_
  refine y_s (pc' := 1) (L' := [some (vR (some 137)), some (vI x0), some (vI x1)]) (st' := [vR (some 137)]) (h' := h) f130_0 rfl ?_
  refine y_s (pc' := 2) (L' := [some (vR (some 137)), some (vI x0), some (vI x1)]) (st' := [vI x0, vR (some 137)]) (h' := h) f130_1 rfl ?_
  refine y_cI (pc' := 5) (as := [vR (some 137), vI x0]) (r := []) f130_2 (yzv ym_8_121 rfl (ys137 w) rfl rfl) (by omega) rfl ?_
  have p0 := k.1
  replace k := k.2
  refine sp131 w (by omega) p0 (fun c => ?_) (fun c => ?_)
  · replace k := k.1 c
    refine y_ift (pcT := 12) f130_5 rfl rfl ?_
    refine y_s (pc' := 13) (L' := [some (vR (some 137)), some (vI x0), some (vI x1)]) (st' := [vI x1]) (h' := h) f130_12 rfl ?_
    refine y_s (pc' := 15) (L' := [some (vR (some 137)), some (vI x0), some (vI x1)]) (st' := [vI 10, vI x1]) (h' := h) f130_13 rfl ?_
    refine y_s (pc' := 16) (L' := [some (vR (some 137)), some (vI x0), some (vI x1)]) (st' := [vI (zw (x1 - 10))]) (h' := h) f130_15 rfl ?_
    refine y_cI (pc' := 19) (as := [vI (zw (x1 - 10))]) (r := []) f130_16 rfl (by omega) rfl ?_
    refine sp132 w (by omega) (fun c => ?_) (fun c => ?_)
    · replace k := k.1 c
      refine y_iff (pcT := 37) (pc' := 22) f130_19 rfl rfl rfl ?_
      refine y_s (pc' := 23) (L' := [some (vR (some 137)), some (vI x0), some (vI x1)]) (st' := [vR (some 137)]) (h' := h) f130_22 rfl ?_
      refine y_gr (pc' := 26) f130_23 yf_8_18 rfl rfl (ys137 w) (yp137_3 w) rfl ?_
      refine y_s (pc' := 28) (L' := [some (vR (some 137)), some (vI x0), some (vI x1)]) (st' := [vI 6, vR (some 140)]) (h' := h) f130_26 rfl ?_
      refine y_s (pc' := 29) (L' := [some (vR (some 137)), some (vI x0), some (vI x1)]) (st' := [vI x0, vI 6, vR (some 140)]) (h' := h) f130_28 rfl ?_
      refine y_s (pc' := 30) (L' := [some (vR (some 137)), some (vI x0), some (vI x1)]) (st' := [vI (zw (6 * x0)), vR (some 140)]) (h' := h) f130_29 rfl ?_
      refine y_s (pc' := 31) (L' := [some (vR (some 137)), some (vI x0), some (vI x1)]) (st' := [vI x1, vI (zw (6 * x0)), vR (some 140)]) (h' := h) f130_30 rfl ?_
      refine y_s (pc' := 32) (L' := [some (vR (some 137)), some (vI x0), some (vI x1)]) (st' := [vI (zw ((zw (6 * x0)) + x1)), vR (some 140)]) (h' := h) f130_31 rfl ?_
      refine y_s (pc' := 34) (L' := [some (vR (some 137)), some (vI x0), some (vI x1)]) (st' := [vI 10, vI (zw ((zw (6 * x0)) + x1)), vR (some 140)]) (h' := h) f130_32 rfl ?_
      refine y_s (pc' := 35) (L' := [some (vR (some 137)), some (vI x0), some (vI x1)]) (st' := [vI (zw ((zw ((zw (6 * x0)) + x1)) - 10)), vR (some 140)]) (h' := h) f130_34 rfl ?_
      refine y_ia (pc' := 36) (x := (zV h 140 ((zw ((zw ((zw (6 * x0)) + x1)) - 10))).toNat)) f130_35 (ys140 w) k.1 rfl rfl ?_
      replace k := k.2
      exact y_ri f130_36 ⟨rfl, k⟩
    · replace k := k.2 c
      refine y_ift (pcT := 37) f130_19 rfl rfl ?_
      refine y_s (pc' := 38) (L' := [some (vR (some 137)), some (vI x0), some (vI x1)]) (st' := [vI x1]) (h' := h) f130_37 rfl ?_
      refine y_s (pc' := 40) (L' := [some (vR (some 137)), some (vI x0), some (vI x1)]) (st' := [vI 20, vI x1]) (h' := h) f130_38 rfl ?_
      refine y_s (pc' := 41) (L' := [some (vR (some 137)), some (vI x0), some (vI x1)]) (st' := [vI (zw (x1 - 20))]) (h' := h) f130_40 rfl ?_
      refine y_cI (pc' := 44) (as := [vI (zw (x1 - 20))]) (r := []) f130_41 rfl (by omega) rfl ?_
      refine sp132 w (by omega) (fun c => ?_) (fun c => ?_)
      · replace k := k.1 c
        refine y_iff (pcT := 57) (pc' := 47) f130_44 rfl rfl rfl ?_
        refine y_s (pc' := 48) (L' := [some (vR (some 137)), some (vI x0), some (vI x1)]) (st' := [vR (some 137)]) (h' := h) f130_47 rfl ?_
        refine y_s (pc' := 49) (L' := [some (vR (some 137)), some (vI x0), some (vI x1)]) (st' := [vI x0, vR (some 137)]) (h' := h) f130_48 rfl ?_
        refine y_s (pc' := 50) (L' := [some (vR (some 137)), some (vI x0), some (vI x1)]) (st' := [vI x1, vI x0, vR (some 137)]) (h' := h) f130_49 rfl ?_
        refine y_s (pc' := 52) (L' := [some (vR (some 137)), some (vI x0), some (vI x1)]) (st' := [vI 20, vI x1, vI x0, vR (some 137)]) (h' := h) f130_50 rfl ?_
        refine y_s (pc' := 53) (L' := [some (vR (some 137)), some (vI x0), some (vI x1)]) (st' := [vI (zw (x1 - 20)), vI x0, vR (some 137)]) (h' := h) f130_52 rfl ?_
        refine y_cI (pc' := 56) (as := [vR (some 137), vI x0, vI (zw (x1 - 20))]) (r := []) f130_53 (yzv ym_8_128 rfl (ys137 w) rfl rfl) (by omega) rfl ?_
        exact k
      · replace k := k.2 c
        refine y_ift (pcT := 57) f130_44 rfl rfl ?_
        refine y_s (pc' := 58) (L' := [some (vR (some 137)), some (vI x0), some (vI x1)]) (st' := [vI x1]) (h' := h) f130_57 rfl ?_
        refine y_s (pc' := 60) (L' := [some (vR (some 137)), some (vI x0), some (vI x1)]) (st' := [vI 30, vI x1]) (h' := h) f130_58 rfl ?_
        refine y_s (pc' := 61) (L' := [some (vR (some 137)), some (vI x0), some (vI x1)]) (st' := [vI (zw (x1 - 30))]) (h' := h) f130_60 rfl ?_
        refine y_cI (pc' := 64) (as := [vI (zw (x1 - 30))]) (r := []) f130_61 rfl (by omega) rfl ?_
        refine sp132 w (by omega) (fun c => ?_) (fun c => ?_)
        · replace k := k.1 c
          refine y_iff (pcT := 77) (pc' := 67) f130_64 rfl rfl rfl ?_
          refine y_s (pc' := 68) (L' := [some (vR (some 137)), some (vI x0), some (vI x1)]) (st' := [vR (some 137)]) (h' := h) f130_67 rfl ?_
          refine y_s (pc' := 69) (L' := [some (vR (some 137)), some (vI x0), some (vI x1)]) (st' := [vI x0, vR (some 137)]) (h' := h) f130_68 rfl ?_
          refine y_s (pc' := 70) (L' := [some (vR (some 137)), some (vI x0), some (vI x1)]) (st' := [vI x1, vI x0, vR (some 137)]) (h' := h) f130_69 rfl ?_
          refine y_s (pc' := 72) (L' := [some (vR (some 137)), some (vI x0), some (vI x1)]) (st' := [vI 30, vI x1, vI x0, vR (some 137)]) (h' := h) f130_70 rfl ?_
          refine y_s (pc' := 73) (L' := [some (vR (some 137)), some (vI x0), some (vI x1)]) (st' := [vI (zw (x1 - 30)), vI x0, vR (some 137)]) (h' := h) f130_72 rfl ?_
          refine y_cI (pc' := 76) (as := [vR (some 137), vI x0, vI (zw (x1 - 30))]) (r := []) f130_73 (yzv ym_8_132 rfl (ys137 w) rfl rfl) (by omega) rfl ?_
          exact k
        · replace k := k.2 c
          refine y_ift (pcT := 77) f130_64 rfl rfl ?_
          refine y_s (pc' := 78) (L' := [some (vR (some 137)), some (vI x0), some (vI x1)]) (st' := [vI x1]) (h' := h) f130_77 rfl ?_
          refine y_s (pc' := 80) (L' := [some (vR (some 137)), some (vI x0), some (vI x1)]) (st' := [vI 40, vI x1]) (h' := h) f130_78 rfl ?_
          refine y_s (pc' := 81) (L' := [some (vR (some 137)), some (vI x0), some (vI x1)]) (st' := [vI (zw (x1 - 40))]) (h' := h) f130_80 rfl ?_
          refine y_cI (pc' := 84) (as := [vI (zw (x1 - 40))]) (r := []) f130_81 rfl (by omega) rfl ?_
          refine sp132 w (by omega) (fun c => ?_) (fun c => ?_)
          · replace k := k.1 c
            refine y_iff (pcT := 97) (pc' := 87) f130_84 rfl rfl rfl ?_
            refine y_s (pc' := 88) (L' := [some (vR (some 137)), some (vI x0), some (vI x1)]) (st' := [vR (some 137)]) (h' := h) f130_87 rfl ?_
            refine y_s (pc' := 89) (L' := [some (vR (some 137)), some (vI x0), some (vI x1)]) (st' := [vI x0, vR (some 137)]) (h' := h) f130_88 rfl ?_
            refine y_s (pc' := 90) (L' := [some (vR (some 137)), some (vI x0), some (vI x1)]) (st' := [vI x1, vI x0, vR (some 137)]) (h' := h) f130_89 rfl ?_
            refine y_s (pc' := 92) (L' := [some (vR (some 137)), some (vI x0), some (vI x1)]) (st' := [vI 40, vI x1, vI x0, vR (some 137)]) (h' := h) f130_90 rfl ?_
            refine y_s (pc' := 93) (L' := [some (vR (some 137)), some (vI x0), some (vI x1)]) (st' := [vI (zw (x1 - 40)), vI x0, vR (some 137)]) (h' := h) f130_92 rfl ?_
            refine y_cI (pc' := 96) (as := [vR (some 137), vI x0, vI (zw (x1 - 40))]) (r := []) f130_93 (yzv ym_8_135 rfl (ys137 w) rfl rfl) (by omega) rfl ?_
            exact k
          · replace k := k.2 c
            refine y_ift (pcT := 97) f130_84 rfl rfl ?_
            refine y_s (pc' := 98) (L' := [some (vR (some 137)), some (vI x0), some (vI x1)]) (st' := [vI x1]) (h' := h) f130_97 rfl ?_
            by_cases c : x1 = 0
            · refine y_tc (pc' := 140) (v := 0) f130_98 c rfl rfl rfl ?_
              replace k := k.1 c
              refine y_s (pc' := 141) (L' := [some (vR (some 137)), some (vI x0), some (vI x1)]) (st' := [vR (some 137)]) (h' := h) f130_140 rfl ?_
              refine y_gr (pc' := 144) f130_141 yf_8_9 rfl rfl (ys137 w) (yp137_1 w) rfl ?_
              refine y_s (pc' := 145) (L' := [some (vR (some 137)), some (vI x0), some (vI x1)]) (st' := [vI x0, vR (some 138)]) (h' := h) f130_144 rfl ?_
              refine y_ia (pc' := 146) (x := (zV h 138 (x0).toNat)) f130_145 (ys138 w) k.1 rfl rfl ?_
              replace k := k.2
              exact y_ri f130_146 ⟨rfl, k⟩
            replace k := k.2
            have c0 := c
            by_cases c : x1 = 1
            · refine y_tc (pc' := 147) (v := 1) f130_98 c rfl rfl rfl ?_
              replace k := k.1 c
              refine y_s (pc' := 148) (L' := [some (vR (some 137)), some (vI x0), some (vI x1)]) (st' := [vR (some 137)]) (h' := h) f130_147 rfl ?_
              refine y_gr (pc' := 151) f130_148 yf_8_15 rfl rfl (ys137 w) (yp137_2 w) rfl ?_
              refine y_s (pc' := 152) (L' := [some (vR (some 137)), some (vI x0), some (vI x1)]) (st' := [vI x0, vR (some 139)]) (h' := h) f130_151 rfl ?_
              refine y_ia (pc' := 153) (x := (zV h 139 (x0).toNat)) f130_152 (ys139 w) k.1 rfl rfl ?_
              replace k := k.2
              exact y_ri f130_153 ⟨rfl, k⟩
            replace k := k.2
            have c1 := c
            by_cases c : x1 = 2
            · refine y_tc (pc' := 154) (v := 2) f130_98 c rfl rfl rfl ?_
              replace k := k.1 c
              refine y_s (pc' := 155) (L' := [some (vR (some 137)), some (vI x0), some (vI x1)]) (st' := [vR (some 137)]) (h' := h) f130_154 rfl ?_
              refine y_gr (pc' := 158) f130_155 yf_8_21 rfl rfl (ys137 w) (yp137_4 w) rfl ?_
              refine y_s (pc' := 159) (L' := [some (vR (some 137)), some (vI x0), some (vI x1)]) (st' := [vI x0, vR (some 141)]) (h' := h) f130_158 rfl ?_
              refine y_ia (pc' := 160) (x := (zV h 141 (x0).toNat)) f130_159 (ys141 w) k.1 rfl rfl ?_
              replace k := k.2
              exact y_ri f130_160 ⟨rfl, k⟩
            replace k := k.2
            have c2 := c
            by_cases c : x1 = 3
            · refine y_tc (pc' := 161) (v := 3) f130_98 c rfl rfl rfl ?_
              replace k := k.1 c
              refine y_s (pc' := 162) (L' := [some (vR (some 137)), some (vI x0), some (vI x1)]) (st' := [vR (some 137)]) (h' := h) f130_161 rfl ?_
              refine y_s (pc' := 163) (L' := [some (vR (some 137)), some (vI x0), some (vI x1)]) (st' := [vI x0, vR (some 137)]) (h' := h) f130_162 rfl ?_
              refine y_cI (pc' := 166) (as := [vR (some 137), vI x0]) (r := []) f130_163 (yzv ym_8_138 rfl (ys137 w) rfl rfl) (by omega) rfl ?_
              exact k
            replace k := k.2
            have c3 := c
            by_cases c : x1 = 4
            · refine y_tc (pc' := 167) (v := 4) f130_98 c rfl rfl rfl ?_
              replace k := k.1 c
              refine y_s (pc' := 168) (L' := [some (vR (some 137)), some (vI x0), some (vI x1)]) (st' := [vR (some 137)]) (h' := h) f130_167 rfl ?_
              refine y_s (pc' := 169) (L' := [some (vR (some 137)), some (vI x0), some (vI x1)]) (st' := [vI x0, vR (some 137)]) (h' := h) f130_168 rfl ?_
              refine y_cI (pc' := 172) (as := [vR (some 137), vI x0]) (r := []) f130_169 (yzv ym_8_142 rfl (ys137 w) rfl rfl) (by omega) rfl ?_
              exact k
            replace k := k.2
            have c4 := c
            by_cases c : x1 = 5
            · refine y_tc (pc' := 173) (v := 5) f130_98 c rfl rfl rfl ?_
              replace k := k.1 c
              refine y_s (pc' := 174) (L' := [some (vR (some 137)), some (vI x0), some (vI x1)]) (st' := [vR (some 137)]) (h' := h) f130_173 rfl ?_
              refine y_s (pc' := 175) (L' := [some (vR (some 137)), some (vI x0), some (vI x1)]) (st' := [vI x0, vR (some 137)]) (h' := h) f130_174 rfl ?_
              refine y_cI (pc' := 178) (as := [vR (some 137), vI x0]) (r := []) f130_175 (yzv ym_8_145 rfl (ys137 w) rfl rfl) (by omega) rfl ?_
              exact k
            replace k := k.2
            have c5 := c
            by_cases c : x1 = 6
            · refine y_tc (pc' := 179) (v := 6) f130_98 c rfl rfl rfl ?_
              replace k := k.1 c
              refine y_s (pc' := 180) (L' := [some (vR (some 137)), some (vI x0), some (vI x1)]) (st' := [vR (some 137)]) (h' := h) f130_179 rfl ?_
              refine y_s (pc' := 181) (L' := [some (vR (some 137)), some (vI x0), some (vI x1)]) (st' := [vI x0, vR (some 137)]) (h' := h) f130_180 rfl ?_
              refine y_cI (pc' := 184) (as := [vR (some 137), vI x0]) (r := []) f130_181 (yzv ym_8_148 rfl (ys137 w) rfl rfl) (by omega) rfl ?_
              exact k
            replace k := k.2
            have c6 := c
            have cc : x1 < 0 ∨ 6 < x1 := by omega
            refine y_td (pc' := 185) f130_98 cc rfl ?_
            replace k := k cc
            refine y_s (pc' := 188) (L' := [some (vR (some 137)), some (vI x0), some (vI x1)]) (st' := [vI (-10001)]) (h' := h) f130_185 rfl ?_
            exact y_ri f130_188 ⟨rfl, k⟩
  · replace k := k.2 c
    refine y_iff (pcT := 12) (pc' := 8) f130_5 rfl rfl rfl ?_
    refine y_s (pc' := 11) (L' := [some (vR (some 137)), some (vI x0), some (vI x1)]) (st' := [vI (-10001)]) (h' := h) f130_8 rfl ?_
    exact y_ri f130_11 ⟨rfl, k⟩
theorem W130_56 {d : Nat} {K : Int → Hp → Prop} (w : yWF zl nl h) {l1 : Int} {l2 : Int} {s0 : Int} (k : K s0 h) : ZW d prog_10_method_7_code 8 56 [some (vR (some 137)), some (vI l1), some (vI l2)] [vI s0] h (yq 1 (yqI K)) := by
  exact y_ri f130_56 ⟨rfl, k⟩
theorem W130_76 {d : Nat} {K : Int → Hp → Prop} (w : yWF zl nl h) {l1 : Int} {l2 : Int} {s0 : Int} (k : K s0 h) : ZW d prog_10_method_7_code 8 76 [some (vR (some 137)), some (vI l1), some (vI l2)] [vI s0] h (yq 1 (yqI K)) := by
  exact y_ri f130_76 ⟨rfl, k⟩
theorem W130_96 {d : Nat} {K : Int → Hp → Prop} (w : yWF zl nl h) {l1 : Int} {l2 : Int} {s0 : Int} (k : K s0 h) : ZW d prog_10_method_7_code 8 96 [some (vR (some 137)), some (vI l1), some (vI l2)] [vI s0] h (yq 1 (yqI K)) := by
  exact y_ri f130_96 ⟨rfl, k⟩
theorem W130_166 {d : Nat} {K : Int → Hp → Prop} (w : yWF zl nl h) {l1 : Int} {l2 : Int} {s0 : Int} (k : K s0 h) : ZW d prog_10_method_7_code 8 166 [some (vR (some 137)), some (vI l1), some (vI l2)] [vI s0] h (yq 1 (yqI K)) := by
  exact y_ri f130_166 ⟨rfl, k⟩
theorem W130_172 {d : Nat} {K : Int → Hp → Prop} (w : yWF zl nl h) {l1 : Int} {l2 : Int} {s0 : Int} (k : K s0 h) : ZW d prog_10_method_7_code 8 172 [some (vR (some 137)), some (vI l1), some (vI l2)] [vI s0] h (yq 1 (yqI K)) := by
  exact y_ri f130_172 ⟨rfl, k⟩
theorem W130_178 {d : Nat} {K : Int → Hp → Prop} (w : yWF zl nl h) {l1 : Int} {l2 : Int} {s0 : Int} (k : K s0 h) : ZW d prog_10_method_7_code 8 178 [some (vR (some 137)), some (vI l1), some (vI l2)] [vI s0] h (yq 1 (yqI K)) := by
  exact y_ri f130_178 ⟨rfl, k⟩
theorem W130_184 {d : Nat} {K : Int → Hp → Prop} (w : yWF zl nl h) {l1 : Int} {l2 : Int} {s0 : Int} (k : K s0 h) : ZW d prog_10_method_7_code 8 184 [some (vR (some 137)), some (vI l1), some (vI l2)] [vI s0] h (yq 1 (yqI K)) := by
  exact y_ri f130_184 ⟨rfl, k⟩
/-- HatterTunesModel.bumpsOf(II)I -/
theorem E138 {d : Nat} {K : Int → Hp → Prop} (w : yWF zl nl h) {x0 : Int} {x1 : Int} (k : ((0 ≤ (zw ((zw (6 * x0)) + x1)) ∧ (zw ((zw (6 * x0)) + x1)) < 36) ∧ ZW d prog_10_method_47_code 8 18 [some (vR (some 137)), some (vI x0), some (vI x1), some (vI (zV h 140 ((zw ((zw (6 * x0)) + x1))).toNat)), some (vI 0), some (vI 0)] [] h (yq 1 (yqI K)))) : yI d 138 [vR (some 137), vI x0, vI x1] h K := by
  refine y_en (L := [some (vR (some 137)), some (vI x0), some (vI x1), none, none, none]) rfl rfl ?_
  refine y_s (pc' := 1) (L' := [some (vR (some 137)), some (vI x0), some (vI x1), none, none, none]) (st' := [vR (some 137)]) (h' := h) f138_0 rfl ?_
  refine y_gr (pc' := 4) f138_1 yf_8_18 rfl rfl (ys137 w) (yp137_3 w) rfl ?_
  refine y_s (pc' := 6) (L' := [some (vR (some 137)), some (vI x0), some (vI x1), none, none, none]) (st' := [vI 6, vR (some 140)]) (h' := h) f138_4 rfl ?_
  refine y_s (pc' := 7) (L' := [some (vR (some 137)), some (vI x0), some (vI x1), none, none, none]) (st' := [vI x0, vI 6, vR (some 140)]) (h' := h) f138_6 rfl ?_
  refine y_s (pc' := 8) (L' := [some (vR (some 137)), some (vI x0), some (vI x1), none, none, none]) (st' := [vI (zw (6 * x0)), vR (some 140)]) (h' := h) f138_7 rfl ?_
  refine y_s (pc' := 9) (L' := [some (vR (some 137)), some (vI x0), some (vI x1), none, none, none]) (st' := [vI x1, vI (zw (6 * x0)), vR (some 140)]) (h' := h) f138_8 rfl ?_
  refine y_s (pc' := 10) (L' := [some (vR (some 137)), some (vI x0), some (vI x1), none, none, none]) (st' := [vI (zw ((zw (6 * x0)) + x1)), vR (some 140)]) (h' := h) f138_9 rfl ?_
  refine y_ia (pc' := 11) (x := (zV h 140 ((zw ((zw (6 * x0)) + x1))).toNat)) f138_10 (ys140 w) k.1 rfl rfl ?_
  replace k := k.2
  refine y_sto (pc' := 12) (k := 3) (L' := [some (vR (some 137)), some (vI x0), some (vI x1), some (vI (zV h 140 ((zw ((zw (6 * x0)) + x1))).toNat)), none, none]) f138_11 rfl rfl rfl rfl rfl rfl ?_
  refine y_s (pc' := 13) (L' := [some (vR (some 137)), some (vI x0), some (vI x1), some (vI (zV h 140 ((zw ((zw (6 * x0)) + x1))).toNat)), none, none]) (st' := [vI 0]) (h' := h) f138_12 rfl ?_
  refine y_sto (pc' := 15) (k := 4) (L' := [some (vR (some 137)), some (vI x0), some (vI x1), some (vI (zV h 140 ((zw ((zw (6 * x0)) + x1))).toNat)), some (vI 0), none]) f138_13 rfl rfl rfl rfl rfl rfl ?_
  refine y_s (pc' := 16) (L' := [some (vR (some 137)), some (vI x0), some (vI x1), some (vI (zV h 140 ((zw ((zw (6 * x0)) + x1))).toNat)), some (vI 0), none]) (st' := [vI 0]) (h' := h) f138_15 rfl ?_
  refine y_sto (pc' := 18) (k := 5) (L' := [some (vR (some 137)), some (vI x0), some (vI x1), some (vI (zV h 140 ((zw ((zw (6 * x0)) + x1))).toNat)), some (vI 0), some (vI 0)]) f138_16 rfl rfl rfl rfl rfl rfl ?_
  exact k
theorem W138_18 {d : Nat} {K : Int → Hp → Prop} (w : yWF zl nl h) {l1 : Int} {l2 : Int} {l3 : Int} {l4 : Int} {l5 : Int} (hd : 1 ≤ d) (k : ((10 ≤ l5 → ((0 ≤ (zw ((zw (6 * l1)) + l2)) ∧ (zw ((zw (6 * l1)) + l2)) < 36) ∧ K l4 (zsetV h 140 ((zw ((zw (6 * l1)) + l2))).toNat l3))) ∧ (¬ (10 ≤ l5) → ((0 ≤ (zw ((zw (6 * l1)) + l2)) ∧ (zw ((zw (6 * l1)) + l2)) < 36) ∧ yI (d - 1) 139 [vR (some 137), vI l1] (zsetV h 140 ((zw ((zw (6 * l1)) + l2))).toNat l5) (fun x h' => ZW d prog_10_method_47_code 8 43 [some (vR (some 137)), some (vI l1), some (vI l2), some (vI l3), some (vI l4), some (vI l5)] [vI x] h' (yq 1 (yqI K))))))) : ZW d prog_10_method_47_code 8 18 [some (vR (some 137)), some (vI l1), some (vI l2), some (vI l3), some (vI l4), some (vI l5)] [] h (yq 1 (yqI K)) := by
  refine y_s (pc' := 20) (L' := [some (vR (some 137)), some (vI l1), some (vI l2), some (vI l3), some (vI l4), some (vI l5)]) (st' := [vI l5]) (h' := h) f138_18 rfl ?_
  refine y_s (pc' := 22) (L' := [some (vR (some 137)), some (vI l1), some (vI l2), some (vI l3), some (vI l4), some (vI l5)]) (st' := [vI 10, vI l5]) (h' := h) f138_20 rfl ?_
  refine y_ic (pcT := 61) (pc' := 25) (P := 10 ≤ l5) f138_22 rfl rfl rfl (fun c => ?_) (fun c => ?_)
  · replace k := k.1 c
    refine y_s (pc' := 62) (L' := [some (vR (some 137)), some (vI l1), some (vI l2), some (vI l3), some (vI l4), some (vI l5)]) (st' := [vR (some 137)]) (h' := h) f138_61 rfl ?_
    refine y_gr (pc' := 65) f138_62 yf_8_18 rfl rfl (ys137 w) (yp137_3 w) rfl ?_
    refine y_s (pc' := 67) (L' := [some (vR (some 137)), some (vI l1), some (vI l2), some (vI l3), some (vI l4), some (vI l5)]) (st' := [vI 6, vR (some 140)]) (h' := h) f138_65 rfl ?_
    refine y_s (pc' := 68) (L' := [some (vR (some 137)), some (vI l1), some (vI l2), some (vI l3), some (vI l4), some (vI l5)]) (st' := [vI l1, vI 6, vR (some 140)]) (h' := h) f138_67 rfl ?_
    refine y_s (pc' := 69) (L' := [some (vR (some 137)), some (vI l1), some (vI l2), some (vI l3), some (vI l4), some (vI l5)]) (st' := [vI (zw (6 * l1)), vR (some 140)]) (h' := h) f138_68 rfl ?_
    refine y_s (pc' := 70) (L' := [some (vR (some 137)), some (vI l1), some (vI l2), some (vI l3), some (vI l4), some (vI l5)]) (st' := [vI l2, vI (zw (6 * l1)), vR (some 140)]) (h' := h) f138_69 rfl ?_
    refine y_s (pc' := 71) (L' := [some (vR (some 137)), some (vI l1), some (vI l2), some (vI l3), some (vI l4), some (vI l5)]) (st' := [vI (zw ((zw (6 * l1)) + l2)), vR (some 140)]) (h' := h) f138_70 rfl ?_
    refine y_s (pc' := 72) (L' := [some (vR (some 137)), some (vI l1), some (vI l2), some (vI l3), some (vI l4), some (vI l5)]) (st' := [vI l3, vI (zw ((zw (6 * l1)) + l2)), vR (some 140)]) (h' := h) f138_71 rfl ?_
    refine y_is (pc' := 73) (h' := (zsetV h 140 ((zw ((zw (6 * l1)) + l2))).toNat l3)) f138_72 (ys140 w) (by decide) k.1 rfl rfl ?_
    replace k := k.2
    refine y_s (pc' := 75) (L' := [some (vR (some 137)), some (vI l1), some (vI l2), some (vI l3), some (vI l4), some (vI l5)]) (st' := [vI l4]) (h' := (zsetV h 140 ((zw ((zw (6 * l1)) + l2))).toNat l3)) f138_73 rfl ?_
    exact y_ri f138_75 ⟨rfl, k⟩
  · replace k := k.2 c
    refine y_s (pc' := 26) (L' := [some (vR (some 137)), some (vI l1), some (vI l2), some (vI l3), some (vI l4), some (vI l5)]) (st' := [vR (some 137)]) (h' := h) f138_25 rfl ?_
    refine y_gr (pc' := 29) f138_26 yf_8_18 rfl rfl (ys137 w) (yp137_3 w) rfl ?_
    refine y_s (pc' := 31) (L' := [some (vR (some 137)), some (vI l1), some (vI l2), some (vI l3), some (vI l4), some (vI l5)]) (st' := [vI 6, vR (some 140)]) (h' := h) f138_29 rfl ?_
    refine y_s (pc' := 32) (L' := [some (vR (some 137)), some (vI l1), some (vI l2), some (vI l3), some (vI l4), some (vI l5)]) (st' := [vI l1, vI 6, vR (some 140)]) (h' := h) f138_31 rfl ?_
    refine y_s (pc' := 33) (L' := [some (vR (some 137)), some (vI l1), some (vI l2), some (vI l3), some (vI l4), some (vI l5)]) (st' := [vI (zw (6 * l1)), vR (some 140)]) (h' := h) f138_32 rfl ?_
    refine y_s (pc' := 34) (L' := [some (vR (some 137)), some (vI l1), some (vI l2), some (vI l3), some (vI l4), some (vI l5)]) (st' := [vI l2, vI (zw (6 * l1)), vR (some 140)]) (h' := h) f138_33 rfl ?_
    refine y_s (pc' := 35) (L' := [some (vR (some 137)), some (vI l1), some (vI l2), some (vI l3), some (vI l4), some (vI l5)]) (st' := [vI (zw ((zw (6 * l1)) + l2)), vR (some 140)]) (h' := h) f138_34 rfl ?_
    refine y_s (pc' := 37) (L' := [some (vR (some 137)), some (vI l1), some (vI l2), some (vI l3), some (vI l4), some (vI l5)]) (st' := [vI l5, vI (zw ((zw (6 * l1)) + l2)), vR (some 140)]) (h' := h) f138_35 rfl ?_
    refine y_is (pc' := 38) (h' := (zsetV h 140 ((zw ((zw (6 * l1)) + l2))).toNat l5)) f138_37 (ys140 w) (by decide) k.1 rfl rfl ?_
    replace k := k.2
    refine y_s (pc' := 39) (L' := [some (vR (some 137)), some (vI l1), some (vI l2), some (vI l3), some (vI l4), some (vI l5)]) (st' := [vR (some 137)]) (h' := (zsetV h 140 ((zw ((zw (6 * l1)) + l2))).toNat l5)) f138_38 rfl ?_
    refine y_s (pc' := 40) (L' := [some (vR (some 137)), some (vI l1), some (vI l2), some (vI l3), some (vI l4), some (vI l5)]) (st' := [vI l1, vR (some 137)]) (h' := (zsetV h 140 ((zw ((zw (6 * l1)) + l2))).toNat l5)) f138_39 rfl ?_
    refine y_cI (pc' := 43) (as := [vR (some 137), vI l1]) (r := []) f138_40 (yzv ym_8_292 rfl (ys137 w) rfl rfl) (by omega) rfl ?_
    exact k
theorem W138_43 {d : Nat} {K : Int → Hp → Prop} (w : yWF zl nl h) {l1 : Int} {l2 : Int} {l3 : Int} {l4 : Int} {l5 : Int} {s0 : Int} (k : ((s0 = 0 → ZW d prog_10_method_47_code 8 18 [some (vR (some 137)), some (vI l1), some (vI l2), some (vI l3), some (vI l4), some (vI (zw (l5 + 1)))] [] h (yq 1 (yqI K))) ∧ (¬ (s0 = 0) → ZW d prog_10_method_47_code 8 18 [some (vR (some 137)), some (vI l1), some (vI l2), some (vI l3), some (vI (zor l4 (zshl 1 l5))), some (vI (zw (l5 + 1)))] [] h (yq 1 (yqI K))))) : ZW d prog_10_method_47_code 8 43 [some (vR (some 137)), some (vI l1), some (vI l2), some (vI l3), some (vI l4), some (vI l5)] [vI s0] h (yq 1 (yqI K)) := by
  refine y_if (pcT := 55) (pc' := 46) (P := s0 = 0) f138_43 rfl rfl rfl (fun c => ?_) (fun c => ?_)
  · replace k := k.1 c
    refine y_inc (pc' := 58) (L' := [some (vR (some 137)), some (vI l1), some (vI l2), some (vI l3), some (vI l4), some (vI (zw (l5 + 1)))]) f138_55 rfl rfl rfl rfl ?_
    refine y_go (pc' := 18) f138_58 rfl ?_
    exact k
  · replace k := k.2 c
    refine y_s (pc' := 48) (L' := [some (vR (some 137)), some (vI l1), some (vI l2), some (vI l3), some (vI l4), some (vI l5)]) (st' := [vI l4]) (h' := h) f138_46 rfl ?_
    refine y_s (pc' := 49) (L' := [some (vR (some 137)), some (vI l1), some (vI l2), some (vI l3), some (vI l4), some (vI l5)]) (st' := [vI 1, vI l4]) (h' := h) f138_48 rfl ?_
    refine y_s (pc' := 51) (L' := [some (vR (some 137)), some (vI l1), some (vI l2), some (vI l3), some (vI l4), some (vI l5)]) (st' := [vI l5, vI 1, vI l4]) (h' := h) f138_49 rfl ?_
    refine y_s (pc' := 52) (L' := [some (vR (some 137)), some (vI l1), some (vI l2), some (vI l3), some (vI l4), some (vI l5)]) (st' := [vI (zshl 1 l5), vI l4]) (h' := h) f138_51 rfl ?_
    refine y_s (pc' := 53) (L' := [some (vR (some 137)), some (vI l1), some (vI l2), some (vI l3), some (vI l4), some (vI l5)]) (st' := [vI (zor l4 (zshl 1 l5))]) (h' := h) f138_52 rfl ?_
    refine y_sto (pc' := 55) (k := 4) (L' := [some (vR (some 137)), some (vI l1), some (vI l2), some (vI l3), some (vI (zor l4 (zshl 1 l5))), some (vI l5)]) f138_53 rfl rfl rfl rfl rfl rfl ?_
    refine y_inc (pc' := 58) (L' := [some (vR (some 137)), some (vI l1), some (vI l2), some (vI l3), some (vI (zor l4 (zshl 1 l5))), some (vI (zw (l5 + 1)))]) f138_55 rfl rfl rfl rfl ?_
    refine y_go (pc' := 18) f138_58 rfl ?_
    exact k
/-- HatterTunesModel.isSeen(I)Z -/
theorem E139 {d : Nat} {K : Int → Hp → Prop} (w : yWF zl nl h) {x0 : Int} (k : ZW d prog_10_method_46_code 8 2 [some (vR (some 137)), some (vI x0), some (vI 0)] [] h (yq 2 (yqI K))) : yI d 139 [vR (some 137), vI x0] h K := by
  refine y_en (L := [some (vR (some 137)), some (vI x0), none]) rfl rfl ?_
  refine y_s (pc' := 1) (L' := [some (vR (some 137)), some (vI x0), none]) (st' := [vI 0]) (h' := h) f139_0 rfl ?_
  refine y_sto (pc' := 2) (k := 2) (L' := [some (vR (some 137)), some (vI x0), some (vI 0)]) f139_1 rfl rfl rfl rfl rfl rfl ?_
  exact k
theorem W139_2 {d : Nat} {K : Int → Hp → Prop} (w : yWF zl nl h) {l1 : Int} {l2 : Int} (hd : 1 ≤ d) (k : (((zV h 137 25) ≤ l2 → K 1 h) ∧ (¬ ((zV h 137 25) ≤ l2) → ((0 ≤ l2 ∧ l2 < 5) ∧ (((zV h 152 (l2).toNat) ≠ l1 → ZW d prog_10_method_46_code 8 2 [some (vR (some 137)), some (vI l1), some (vI (zw (l2 + 1)))] [] h (yq 2 (yqI K))) ∧ (¬ ((zV h 152 (l2).toNat) ≠ l1) → ((0 ≤ l2 ∧ l2 < 5) ∧ ((0 ≤ l2 ∧ l2 < 5) ∧ yI (d - 1) 140 [vR (some 137), vI (zV h 154 (l2).toNat), vI l1, vI (zV h 153 (l2).toNat)] h (fun x h' => ZW d prog_10_method_46_code 8 37 [some (vR (some 137)), some (vI l1), some (vI l2)] [vI x] h' (yq 2 (yqI K))))))))))) : ZW d prog_10_method_46_code 8 2 [some (vR (some 137)), some (vI l1), some (vI l2)] [] h (yq 2 (yqI K)) := by
  refine y_s (pc' := 3) (L' := [some (vR (some 137)), some (vI l1), some (vI l2)]) (st' := [vI l2]) (h' := h) f139_2 rfl ?_
  refine y_s (pc' := 4) (L' := [some (vR (some 137)), some (vI l1), some (vI l2)]) (st' := [vR (some 137), vI l2]) (h' := h) f139_3 rfl ?_
  refine y_gi (pc' := 7) f139_4 yf_8_286 rfl rfl (ys137 w) rfl ?_
  refine y_ic (pcT := 54) (pc' := 10) (P := (zV h 137 25) ≤ l2) f139_7 rfl rfl rfl (fun c => ?_) (fun c => ?_)
  · replace k := k.1 c
    refine y_s (pc' := 55) (L' := [some (vR (some 137)), some (vI l1), some (vI l2)]) (st' := [vI 1]) (h' := h) f139_54 rfl ?_
    exact y_ri f139_55 ⟨rfl, k⟩
  · replace k := k.2 c
    refine y_s (pc' := 11) (L' := [some (vR (some 137)), some (vI l1), some (vI l2)]) (st' := [vR (some 137)]) (h' := h) f139_10 rfl ?_
    refine y_gr (pc' := 14) f139_11 yf_8_55 rfl rfl (ys137 w) (yp137_26 w) rfl ?_
    refine y_s (pc' := 15) (L' := [some (vR (some 137)), some (vI l1), some (vI l2)]) (st' := [vI l2, vR (some 152)]) (h' := h) f139_14 rfl ?_
    refine y_ia (pc' := 16) (x := (zV h 152 (l2).toNat)) f139_15 (ys152 w) k.1 rfl rfl ?_
    replace k := k.2
    refine y_s (pc' := 17) (L' := [some (vR (some 137)), some (vI l1), some (vI l2)]) (st' := [vI l1, vI (zV h 152 (l2).toNat)]) (h' := h) f139_16 rfl ?_
    refine y_ic (pcT := 48) (pc' := 20) (P := (zV h 152 (l2).toNat) ≠ l1) f139_17 rfl rfl rfl (fun c => ?_) (fun c => ?_)
    · replace k := k.1 c
      refine y_inc (pc' := 51) (L' := [some (vR (some 137)), some (vI l1), some (vI (zw (l2 + 1)))]) f139_48 rfl rfl rfl rfl ?_
      refine y_go (pc' := 2) f139_51 rfl ?_
      exact k
    · replace k := k.2 c
      refine y_s (pc' := 21) (L' := [some (vR (some 137)), some (vI l1), some (vI l2)]) (st' := [vR (some 137)]) (h' := h) f139_20 rfl ?_
      refine y_s (pc' := 22) (L' := [some (vR (some 137)), some (vI l1), some (vI l2)]) (st' := [vR (some 137), vR (some 137)]) (h' := h) f139_21 rfl ?_
      refine y_gr (pc' := 25) f139_22 yf_8_61 rfl rfl (ys137 w) (yp137_28 w) rfl ?_
      refine y_s (pc' := 26) (L' := [some (vR (some 137)), some (vI l1), some (vI l2)]) (st' := [vI l2, vR (some 154), vR (some 137)]) (h' := h) f139_25 rfl ?_
      refine y_ia (pc' := 27) (x := (zV h 154 (l2).toNat)) f139_26 (ys154 w) k.1 rfl rfl ?_
      replace k := k.2
      refine y_s (pc' := 28) (L' := [some (vR (some 137)), some (vI l1), some (vI l2)]) (st' := [vI l1, vI (zV h 154 (l2).toNat), vR (some 137)]) (h' := h) f139_27 rfl ?_
      refine y_s (pc' := 29) (L' := [some (vR (some 137)), some (vI l1), some (vI l2)]) (st' := [vR (some 137), vI l1, vI (zV h 154 (l2).toNat), vR (some 137)]) (h' := h) f139_28 rfl ?_
      refine y_gr (pc' := 32) f139_29 yf_8_58 rfl rfl (ys137 w) (yp137_27 w) rfl ?_
      refine y_s (pc' := 33) (L' := [some (vR (some 137)), some (vI l1), some (vI l2)]) (st' := [vI l2, vR (some 153), vI l1, vI (zV h 154 (l2).toNat), vR (some 137)]) (h' := h) f139_32 rfl ?_
      refine y_ia (pc' := 34) (x := (zV h 153 (l2).toNat)) f139_33 (ys153 w) k.1 rfl rfl ?_
      replace k := k.2
      refine y_cI (pc' := 37) (as := [vR (some 137), vI (zV h 154 (l2).toNat), vI l1, vI (zV h 153 (l2).toNat)]) (r := []) f139_34 (yzv ym_8_289 rfl (ys137 w) rfl rfl) (by omega) rfl ?_
      exact k
theorem W139_37 {d : Nat} {K : Int → Hp → Prop} (w : yWF zl nl h) {l1 : Int} {l2 : Int} {s0 : Int} (k : ((0 ≤ l2 ∧ l2 < 5) ∧ ((s0 = (zV h 155 (l2).toNat) → ZW d prog_10_method_46_code 8 2 [some (vR (some 137)), some (vI l1), some (vI (zw (l2 + 1)))] [] h (yq 2 (yqI K))) ∧ (¬ (s0 = (zV h 155 (l2).toNat)) → K 0 h)))) : ZW d prog_10_method_46_code 8 37 [some (vR (some 137)), some (vI l1), some (vI l2)] [vI s0] h (yq 2 (yqI K)) := by
  refine y_s (pc' := 38) (L' := [some (vR (some 137)), some (vI l1), some (vI l2)]) (st' := [vR (some 137), vI s0]) (h' := h) f139_37 rfl ?_
  refine y_gr (pc' := 41) f139_38 yf_8_64 rfl rfl (ys137 w) (yp137_29 w) rfl ?_
  refine y_s (pc' := 42) (L' := [some (vR (some 137)), some (vI l1), some (vI l2)]) (st' := [vI l2, vR (some 155), vI s0]) (h' := h) f139_41 rfl ?_
  refine y_ia (pc' := 43) (x := (zV h 155 (l2).toNat)) f139_42 (ys155 w) k.1 rfl rfl ?_
  replace k := k.2
  refine y_ic (pcT := 48) (pc' := 46) (P := s0 = (zV h 155 (l2).toNat)) f139_43 rfl rfl rfl (fun c => ?_) (fun c => ?_)
  · replace k := k.1 c
    refine y_inc (pc' := 51) (L' := [some (vR (some 137)), some (vI l1), some (vI (zw (l2 + 1)))]) f139_48 rfl rfl rfl rfl ?_
    refine y_go (pc' := 2) f139_51 rfl ?_
    exact k
  · replace k := k.2 c
    refine y_s (pc' := 47) (L' := [some (vR (some 137)), some (vI l1), some (vI l2)]) (st' := [vI 0]) (h' := h) f139_46 rfl ?_
    exact y_ri f139_47 ⟨rfl, k⟩
/-- HatterTunesModel.on(III)I -/
theorem E140 {d : Nat} {K : Int → Hp → Prop} (w : yWF zl nl h) {x0 : Int} {x1 : Int} {x2 : Int} (hd : 2 ≤ d) (k : (((0 : Int) ≤ zV h 137 0 ∧ zV h 137 0 ≤ 6) ∧ ((((0 : Int) ≤ x1 ∧ x1 < zV h 137 0) → ((((0 : Int) ≤ x2 ∧ x2 < 6) → ((((0 : Int) ≤ x0 ∧ x0 ≤ 60) → yU (d - 1) 141 [vR (some 137), vR (some 162)] h (fun h' => ZW d prog_10_method_38_code 8 54 [some (vR (some 137)), some (vI x0), some (vI x1), some (vI x2), none] [] h' (yq 1 (yqI K)))) ∧ (¬ (((0 : Int) ≤ x0 ∧ x0 ≤ 60)) → K (-2) h))) ∧ (¬ (((0 : Int) ≤ x2 ∧ x2 < 6)) → ((((0 : Int) ≤ (zw (x2 - 10)) ∧ (zw (x2 - 10)) < 6) → ((((0 : Int) ≤ x0 ∧ x0 ≤ 60) → yU (d - 1) 141 [vR (some 137), vR (some 162)] h (fun h' => ZW d prog_10_method_38_code 8 54 [some (vR (some 137)), some (vI x0), some (vI x1), some (vI x2), none] [] h' (yq 1 (yqI K)))) ∧ (¬ (((0 : Int) ≤ x0 ∧ x0 ≤ 60)) → K (-2) h))) ∧ (¬ (((0 : Int) ≤ (zw (x2 - 10)) ∧ (zw (x2 - 10)) < 6)) → ((x2 = 20 → ((((0 : Int) ≤ x0 ∧ x0 ≤ 60) → yU (d - 1) 141 [vR (some 137), vR (some 162)] h (fun h' => ZW d prog_10_method_38_code 8 54 [some (vR (some 137)), some (vI x0), some (vI x1), some (vI x2), none] [] h' (yq 1 (yqI K)))) ∧ (¬ (((0 : Int) ≤ x0 ∧ x0 ≤ 60)) → K (-2) h))) ∧ (¬ (x2 = 20) → K (-1) h))))))) ∧ (¬ (((0 : Int) ≤ x1 ∧ x1 < zV h 137 0)) → K (-1) h)))) : yI d 140 [vR (some 137), vI x0, vI x1, vI x2] h K := by
  refine y_en (L := [some (vR (some 137)), some (vI x0), some (vI x1), some (vI x2), none]) rfl rfl ?_
  refine y_s (pc' := 1) (L' := [some (vR (some 137)), some (vI x0), some (vI x1), some (vI x2), none]) (st' := [vR (some 137)]) (h' := h) f140_0 rfl ?_
  refine y_s (pc' := 2) (L' := [some (vR (some 137)), some (vI x0), some (vI x1), some (vI x2), none]) (st' := [vI x1, vR (some 137)]) (h' := h) f140_1 rfl ?_
  refine y_cI (pc' := 5) (as := [vR (some 137), vI x1]) (r := []) f140_2 (yzv ym_8_121 rfl (ys137 w) rfl rfl) (by omega) rfl ?_
  have p0 := k.1
  replace k := k.2
  refine sp131 w (by omega) p0 (fun c => ?_) (fun c => ?_)
  · replace k := k.1 c
    refine y_iff (pcT := 31) (pc' := 8) f140_5 rfl rfl rfl ?_
    refine y_s (pc' := 9) (L' := [some (vR (some 137)), some (vI x0), some (vI x1), some (vI x2), none]) (st' := [vI x2]) (h' := h) f140_8 rfl ?_
    refine y_cI (pc' := 12) (as := [vI x2]) (r := []) f140_9 rfl (by omega) rfl ?_
    refine sp132 w (by omega) (fun c => ?_) (fun c => ?_)
    · replace k := k.1 c
      refine y_ift (pcT := 33) f140_12 rfl rfl ?_
      refine y_s (pc' := 34) (L' := [some (vR (some 137)), some (vI x0), some (vI x1), some (vI x2), none]) (st' := [vI x0]) (h' := h) f140_33 rfl ?_
      refine y_s (pc' := 35) (L' := [some (vR (some 137)), some (vI x0), some (vI x1), some (vI x2), none]) (st' := [vI 0, vI x0]) (h' := h) f140_34 rfl ?_
      refine y_s (pc' := 37) (L' := [some (vR (some 137)), some (vI x0), some (vI x1), some (vI x2), none]) (st' := [vI 60, vI 0, vI x0]) (h' := h) f140_35 rfl ?_
      refine y_cI (pc' := 40) (as := [vI x0, vI 0, vI 60]) (r := []) f140_37 rfl (by omega) rfl ?_
      refine sp129 w (fun c => ?_) (fun c => ?_)
      · replace k := k.1 c
        refine y_ift (pcT := 46) f140_40 rfl rfl ?_
        refine y_s (pc' := 47) (L' := [some (vR (some 137)), some (vI x0), some (vI x1), some (vI x2), none]) (st' := [vR (some 137)]) (h' := h) f140_46 rfl ?_
        refine y_s (pc' := 48) (L' := [some (vR (some 137)), some (vI x0), some (vI x1), some (vI x2), none]) (st' := [vR (some 137), vR (some 137)]) (h' := h) f140_47 rfl ?_
        refine y_gr (pc' := 51) f140_48 yf_8_85 rfl rfl (ys137 w) (yp137_40 w) rfl ?_
        refine y_cU (pc' := 54) (as := [vR (some 137), vR (some 162)]) (r := []) f140_51 (yzv ym_8_269 rfl (ys137 w) rfl rfl) (by omega) rfl ?_
        exact k
      · replace k := k.2 c
        refine y_iff (pcT := 46) (pc' := 43) f140_40 rfl rfl rfl ?_
        refine y_s (pc' := 45) (L' := [some (vR (some 137)), some (vI x0), some (vI x1), some (vI x2), none]) (st' := [vI (-2)]) (h' := h) f140_43 rfl ?_
        exact y_ri f140_45 ⟨rfl, k⟩
    · replace k := k.2 c
      refine y_iff (pcT := 33) (pc' := 15) f140_12 rfl rfl rfl ?_
      refine y_s (pc' := 16) (L' := [some (vR (some 137)), some (vI x0), some (vI x1), some (vI x2), none]) (st' := [vI x2]) (h' := h) f140_15 rfl ?_
      refine y_s (pc' := 18) (L' := [some (vR (some 137)), some (vI x0), some (vI x1), some (vI x2), none]) (st' := [vI 10, vI x2]) (h' := h) f140_16 rfl ?_
      refine y_s (pc' := 19) (L' := [some (vR (some 137)), some (vI x0), some (vI x1), some (vI x2), none]) (st' := [vI (zw (x2 - 10))]) (h' := h) f140_18 rfl ?_
      refine y_cI (pc' := 22) (as := [vI (zw (x2 - 10))]) (r := []) f140_19 rfl (by omega) rfl ?_
      refine sp132 w (by omega) (fun c => ?_) (fun c => ?_)
      · replace k := k.1 c
        refine y_ift (pcT := 33) f140_22 rfl rfl ?_
        refine y_s (pc' := 34) (L' := [some (vR (some 137)), some (vI x0), some (vI x1), some (vI x2), none]) (st' := [vI x0]) (h' := h) f140_33 rfl ?_
        refine y_s (pc' := 35) (L' := [some (vR (some 137)), some (vI x0), some (vI x1), some (vI x2), none]) (st' := [vI 0, vI x0]) (h' := h) f140_34 rfl ?_
        refine y_s (pc' := 37) (L' := [some (vR (some 137)), some (vI x0), some (vI x1), some (vI x2), none]) (st' := [vI 60, vI 0, vI x0]) (h' := h) f140_35 rfl ?_
        refine y_cI (pc' := 40) (as := [vI x0, vI 0, vI 60]) (r := []) f140_37 rfl (by omega) rfl ?_
        refine sp129 w (fun c => ?_) (fun c => ?_)
        · replace k := k.1 c
          refine y_ift (pcT := 46) f140_40 rfl rfl ?_
          refine y_s (pc' := 47) (L' := [some (vR (some 137)), some (vI x0), some (vI x1), some (vI x2), none]) (st' := [vR (some 137)]) (h' := h) f140_46 rfl ?_
          refine y_s (pc' := 48) (L' := [some (vR (some 137)), some (vI x0), some (vI x1), some (vI x2), none]) (st' := [vR (some 137), vR (some 137)]) (h' := h) f140_47 rfl ?_
          refine y_gr (pc' := 51) f140_48 yf_8_85 rfl rfl (ys137 w) (yp137_40 w) rfl ?_
          refine y_cU (pc' := 54) (as := [vR (some 137), vR (some 162)]) (r := []) f140_51 (yzv ym_8_269 rfl (ys137 w) rfl rfl) (by omega) rfl ?_
          exact k
        · replace k := k.2 c
          refine y_iff (pcT := 46) (pc' := 43) f140_40 rfl rfl rfl ?_
          refine y_s (pc' := 45) (L' := [some (vR (some 137)), some (vI x0), some (vI x1), some (vI x2), none]) (st' := [vI (-2)]) (h' := h) f140_43 rfl ?_
          exact y_ri f140_45 ⟨rfl, k⟩
      · replace k := k.2 c
        refine y_iff (pcT := 33) (pc' := 25) f140_22 rfl rfl rfl ?_
        refine y_s (pc' := 26) (L' := [some (vR (some 137)), some (vI x0), some (vI x1), some (vI x2), none]) (st' := [vI x2]) (h' := h) f140_25 rfl ?_
        refine y_s (pc' := 28) (L' := [some (vR (some 137)), some (vI x0), some (vI x1), some (vI x2), none]) (st' := [vI 20, vI x2]) (h' := h) f140_26 rfl ?_
        refine y_ic (pcT := 33) (pc' := 31) (P := x2 = 20) f140_28 rfl rfl rfl (fun c => ?_) (fun c => ?_)
        · replace k := k.1 c
          refine y_s (pc' := 34) (L' := [some (vR (some 137)), some (vI x0), some (vI x1), some (vI x2), none]) (st' := [vI x0]) (h' := h) f140_33 rfl ?_
          refine y_s (pc' := 35) (L' := [some (vR (some 137)), some (vI x0), some (vI x1), some (vI x2), none]) (st' := [vI 0, vI x0]) (h' := h) f140_34 rfl ?_
          refine y_s (pc' := 37) (L' := [some (vR (some 137)), some (vI x0), some (vI x1), some (vI x2), none]) (st' := [vI 60, vI 0, vI x0]) (h' := h) f140_35 rfl ?_
          refine y_cI (pc' := 40) (as := [vI x0, vI 0, vI 60]) (r := []) f140_37 rfl (by omega) rfl ?_
          refine sp129 w (fun c => ?_) (fun c => ?_)
          · replace k := k.1 c
            refine y_ift (pcT := 46) f140_40 rfl rfl ?_
            refine y_s (pc' := 47) (L' := [some (vR (some 137)), some (vI x0), some (vI x1), some (vI x2), none]) (st' := [vR (some 137)]) (h' := h) f140_46 rfl ?_
            refine y_s (pc' := 48) (L' := [some (vR (some 137)), some (vI x0), some (vI x1), some (vI x2), none]) (st' := [vR (some 137), vR (some 137)]) (h' := h) f140_47 rfl ?_
            refine y_gr (pc' := 51) f140_48 yf_8_85 rfl rfl (ys137 w) (yp137_40 w) rfl ?_
            refine y_cU (pc' := 54) (as := [vR (some 137), vR (some 162)]) (r := []) f140_51 (yzv ym_8_269 rfl (ys137 w) rfl rfl) (by omega) rfl ?_
            exact k
          · replace k := k.2 c
            refine y_iff (pcT := 46) (pc' := 43) f140_40 rfl rfl rfl ?_
            refine y_s (pc' := 45) (L' := [some (vR (some 137)), some (vI x0), some (vI x1), some (vI x2), none]) (st' := [vI (-2)]) (h' := h) f140_43 rfl ?_
            exact y_ri f140_45 ⟨rfl, k⟩
        · replace k := k.2 c
          refine y_s (pc' := 32) (L' := [some (vR (some 137)), some (vI x0), some (vI x1), some (vI x2), none]) (st' := [vI (-1)]) (h' := h) f140_31 rfl ?_
          exact y_ri f140_32 ⟨rfl, k⟩
  · replace k := k.2 c
    refine y_ift (pcT := 31) f140_5 rfl rfl ?_
    refine y_s (pc' := 32) (L' := [some (vR (some 137)), some (vI x0), some (vI x1), some (vI x2), none]) (st' := [vI (-1)]) (h' := h) f140_31 rfl ?_
    exact y_ri f140_32 ⟨rfl, k⟩
theorem W140_54 {d : Nat} {K : Int → Hp → Prop} (w : yWF zl nl h) {l1 : Int} {l2 : Int} {l3 : Int} (k : ZW d prog_10_method_38_code 8 57 [some (vR (some 137)), some (vI l1), some (vI l2), some (vI l3), some (vI 0)] [] h (yq 1 (yqI K))) : ZW d prog_10_method_38_code 8 54 [some (vR (some 137)), some (vI l1), some (vI l2), some (vI l3), none] [] h (yq 1 (yqI K)) := by
  refine y_s (pc' := 55) (L' := [some (vR (some 137)), some (vI l1), some (vI l2), some (vI l3), none]) (st' := [vI 0]) (h' := h) f140_54 rfl ?_
  refine y_sto (pc' := 57) (k := 4) (L' := [some (vR (some 137)), some (vI l1), some (vI l2), some (vI l3), some (vI 0)]) f140_55 rfl rfl rfl rfl rfl rfl ?_
  exact k
theorem W140_57 {d : Nat} {K : Int → Hp → Prop} (w : yWF zl nl h) {l1 : Int} {l2 : Int} {l3 : Int} {l4 : Int} (hd : 1 ≤ d) (k : ((l1 ≤ l4 → ((l3 ≠ 20 → ((10 ≤ l3 → ((0 ≤ (zw ((zw ((zw (6 * l2)) + l3)) - 10)) ∧ (zw ((zw ((zw (6 * l2)) + l3)) - 10)) < 36) ∧ yU (d - 1) 145 [vR (some 137), vR (some 162)] h (fun h' => ZW d prog_10_method_38_code 8 126 [some (vR (some 137)), some (vI l1), some (vI l2), some (vI l3), some (vI (zV h 140 ((zw ((zw ((zw (6 * l2)) + l3)) - 10))).toNat))] [] h' (yq 1 (yqI K))))) ∧ (¬ (10 ≤ l3) → yI (d - 1) 133 [vR (some 137), vI l2, vI l3] h (fun x h' => ZW d prog_10_method_38_code 8 99 [some (vR (some 137)), some (vI l1), some (vI l2), some (vI l3), some (vI l4)] [vI x] h' (yq 1 (yqI K)))))) ∧ (¬ (l3 ≠ 20) → yI (d - 1) 144 [vR (some 137), vI l2] h (fun x h' => ZW d prog_10_method_38_code 8 84 [some (vR (some 137)), some (vI l1), some (vI l2), some (vI l3), some (vI l4)] [vI x] h' (yq 1 (yqI K)))))) ∧ (¬ (l1 ≤ l4) → yU (d - 1) 142 [vR (some 137)] h (fun h' => ZW d prog_10_method_38_code 8 67 [some (vR (some 137)), some (vI l1), some (vI l2), some (vI l3), some (vI l4)] [] h' (yq 1 (yqI K)))))) : ZW d prog_10_method_38_code 8 57 [some (vR (some 137)), some (vI l1), some (vI l2), some (vI l3), some (vI l4)] [] h (yq 1 (yqI K)) := by
  refine y_s (pc' := 59) (L' := [some (vR (some 137)), some (vI l1), some (vI l2), some (vI l3), some (vI l4)]) (st' := [vI l4]) (h' := h) f140_57 rfl ?_
  refine y_s (pc' := 60) (L' := [some (vR (some 137)), some (vI l1), some (vI l2), some (vI l3), some (vI l4)]) (st' := [vI l1, vI l4]) (h' := h) f140_59 rfl ?_
  refine y_ic (pcT := 73) (pc' := 63) (P := l1 ≤ l4) f140_60 rfl rfl rfl (fun c => ?_) (fun c => ?_)
  · replace k := k.1 c
    refine y_s (pc' := 74) (L' := [some (vR (some 137)), some (vI l1), some (vI l2), some (vI l3), some (vI l4)]) (st' := [vI l3]) (h' := h) f140_73 rfl ?_
    refine y_s (pc' := 76) (L' := [some (vR (some 137)), some (vI l1), some (vI l2), some (vI l3), some (vI l4)]) (st' := [vI 20, vI l3]) (h' := h) f140_74 rfl ?_
    refine y_ic (pcT := 87) (pc' := 79) (P := l3 ≠ 20) f140_76 rfl rfl rfl (fun c => ?_) (fun c => ?_)
    · replace k := k.1 c
      refine y_s (pc' := 88) (L' := [some (vR (some 137)), some (vI l1), some (vI l2), some (vI l3), some (vI l4)]) (st' := [vI l3]) (h' := h) f140_87 rfl ?_
      refine y_s (pc' := 90) (L' := [some (vR (some 137)), some (vI l1), some (vI l2), some (vI l3), some (vI l4)]) (st' := [vI 10, vI l3]) (h' := h) f140_88 rfl ?_
      refine y_ic (pcT := 102) (pc' := 93) (P := 10 ≤ l3) f140_90 rfl rfl rfl (fun c => ?_) (fun c => ?_)
      · replace k := k.1 c
        refine y_s (pc' := 103) (L' := [some (vR (some 137)), some (vI l1), some (vI l2), some (vI l3), some (vI l4)]) (st' := [vR (some 137)]) (h' := h) f140_102 rfl ?_
        refine y_gr (pc' := 106) f140_103 yf_8_18 rfl rfl (ys137 w) (yp137_3 w) rfl ?_
        refine y_s (pc' := 108) (L' := [some (vR (some 137)), some (vI l1), some (vI l2), some (vI l3), some (vI l4)]) (st' := [vI 6, vR (some 140)]) (h' := h) f140_106 rfl ?_
        refine y_s (pc' := 109) (L' := [some (vR (some 137)), some (vI l1), some (vI l2), some (vI l3), some (vI l4)]) (st' := [vI l2, vI 6, vR (some 140)]) (h' := h) f140_108 rfl ?_
        refine y_s (pc' := 110) (L' := [some (vR (some 137)), some (vI l1), some (vI l2), some (vI l3), some (vI l4)]) (st' := [vI (zw (6 * l2)), vR (some 140)]) (h' := h) f140_109 rfl ?_
        refine y_s (pc' := 111) (L' := [some (vR (some 137)), some (vI l1), some (vI l2), some (vI l3), some (vI l4)]) (st' := [vI l3, vI (zw (6 * l2)), vR (some 140)]) (h' := h) f140_110 rfl ?_
        refine y_s (pc' := 112) (L' := [some (vR (some 137)), some (vI l1), some (vI l2), some (vI l3), some (vI l4)]) (st' := [vI (zw ((zw (6 * l2)) + l3)), vR (some 140)]) (h' := h) f140_111 rfl ?_
        refine y_s (pc' := 114) (L' := [some (vR (some 137)), some (vI l1), some (vI l2), some (vI l3), some (vI l4)]) (st' := [vI 10, vI (zw ((zw (6 * l2)) + l3)), vR (some 140)]) (h' := h) f140_112 rfl ?_
        refine y_s (pc' := 115) (L' := [some (vR (some 137)), some (vI l1), some (vI l2), some (vI l3), some (vI l4)]) (st' := [vI (zw ((zw ((zw (6 * l2)) + l3)) - 10)), vR (some 140)]) (h' := h) f140_114 rfl ?_
        refine y_ia (pc' := 116) (x := (zV h 140 ((zw ((zw ((zw (6 * l2)) + l3)) - 10))).toNat)) f140_115 (ys140 w) k.1 rfl rfl ?_
        replace k := k.2
        refine y_sto (pc' := 118) (k := 4) (L' := [some (vR (some 137)), some (vI l1), some (vI l2), some (vI l3), some (vI (zV h 140 ((zw ((zw ((zw (6 * l2)) + l3)) - 10))).toNat))]) f140_116 rfl rfl rfl rfl rfl rfl ?_
        refine y_s (pc' := 119) (L' := [some (vR (some 137)), some (vI l1), some (vI l2), some (vI l3), some (vI (zV h 140 ((zw ((zw ((zw (6 * l2)) + l3)) - 10))).toNat))]) (st' := [vR (some 137)]) (h' := h) f140_118 rfl ?_
        refine y_s (pc' := 120) (L' := [some (vR (some 137)), some (vI l1), some (vI l2), some (vI l3), some (vI (zV h 140 ((zw ((zw ((zw (6 * l2)) + l3)) - 10))).toNat))]) (st' := [vR (some 137), vR (some 137)]) (h' := h) f140_119 rfl ?_
        refine y_gr (pc' := 123) f140_120 yf_8_85 rfl rfl (ys137 w) (yp137_40 w) rfl ?_
        refine y_cU (pc' := 126) (as := [vR (some 137), vR (some 162)]) (r := []) f140_123 (yzv ym_8_273 rfl (ys137 w) rfl rfl) (by omega) rfl ?_
        exact k
      · replace k := k.2 c
        refine y_s (pc' := 94) (L' := [some (vR (some 137)), some (vI l1), some (vI l2), some (vI l3), some (vI l4)]) (st' := [vR (some 137)]) (h' := h) f140_93 rfl ?_
        refine y_s (pc' := 95) (L' := [some (vR (some 137)), some (vI l1), some (vI l2), some (vI l3), some (vI l4)]) (st' := [vI l2, vR (some 137)]) (h' := h) f140_94 rfl ?_
        refine y_s (pc' := 96) (L' := [some (vR (some 137)), some (vI l1), some (vI l2), some (vI l3), some (vI l4)]) (st' := [vI l3, vI l2, vR (some 137)]) (h' := h) f140_95 rfl ?_
        refine y_cI (pc' := 99) (as := [vR (some 137), vI l2, vI l3]) (r := []) f140_96 (yzv ym_8_128 rfl (ys137 w) rfl rfl) (by omega) rfl ?_
        exact k
    · replace k := k.2 c
      refine y_s (pc' := 80) (L' := [some (vR (some 137)), some (vI l1), some (vI l2), some (vI l3), some (vI l4)]) (st' := [vR (some 137)]) (h' := h) f140_79 rfl ?_
      refine y_s (pc' := 81) (L' := [some (vR (some 137)), some (vI l1), some (vI l2), some (vI l3), some (vI l4)]) (st' := [vI l2, vR (some 137)]) (h' := h) f140_80 rfl ?_
      refine y_cI (pc' := 84) (as := [vR (some 137), vI l2]) (r := []) f140_81 (yzv ym_8_138 rfl (ys137 w) rfl rfl) (by omega) rfl ?_
      exact k
  · replace k := k.2 c
    refine y_s (pc' := 64) (L' := [some (vR (some 137)), some (vI l1), some (vI l2), some (vI l3), some (vI l4)]) (st' := [vR (some 137)]) (h' := h) f140_63 rfl ?_
    refine y_cU (pc' := 67) (as := [vR (some 137)]) (r := []) f140_64 (yzv ym_8_266 rfl (ys137 w) rfl rfl) (by omega) rfl ?_
    exact k
theorem W140_67 {d : Nat} {K : Int → Hp → Prop} (w : yWF zl nl h) {l1 : Int} {l2 : Int} {l3 : Int} {l4 : Int} (k : ZW d prog_10_method_38_code 8 57 [some (vR (some 137)), some (vI l1), some (vI l2), some (vI l3), some (vI (zw (l4 + 1)))] [] h (yq 1 (yqI K))) : ZW d prog_10_method_38_code 8 67 [some (vR (some 137)), some (vI l1), some (vI l2), some (vI l3), some (vI l4)] [] h (yq 1 (yqI K)) := by
  refine y_inc (pc' := 70) (L' := [some (vR (some 137)), some (vI l1), some (vI l2), some (vI l3), some (vI (zw (l4 + 1)))]) f140_67 rfl rfl rfl rfl ?_
  refine y_go (pc' := 57) f140_70 rfl ?_
  exact k
theorem W140_84 {d : Nat} {K : Int → Hp → Prop} (w : yWF zl nl h) {l1 : Int} {l2 : Int} {l3 : Int} {l4 : Int} {s0 : Int} (hd : 1 ≤ d) (k : yU (d - 1) 145 [vR (some 137), vR (some 162)] h (fun h' => ZW d prog_10_method_38_code 8 126 [some (vR (some 137)), some (vI l1), some (vI l2), some (vI l3), some (vI s0)] [] h' (yq 1 (yqI K)))) : ZW d prog_10_method_38_code 8 84 [some (vR (some 137)), some (vI l1), some (vI l2), some (vI l3), some (vI l4)] [vI s0] h (yq 1 (yqI K)) := by
  refine y_go (pc' := 116) f140_84 rfl ?_
  refine y_sto (pc' := 118) (k := 4) (L' := [some (vR (some 137)), some (vI l1), some (vI l2), some (vI l3), some (vI s0)]) f140_116 rfl rfl rfl rfl rfl rfl ?_
  refine y_s (pc' := 119) (L' := [some (vR (some 137)), some (vI l1), some (vI l2), some (vI l3), some (vI s0)]) (st' := [vR (some 137)]) (h' := h) f140_118 rfl ?_
  refine y_s (pc' := 120) (L' := [some (vR (some 137)), some (vI l1), some (vI l2), some (vI l3), some (vI s0)]) (st' := [vR (some 137), vR (some 137)]) (h' := h) f140_119 rfl ?_
  refine y_gr (pc' := 123) f140_120 yf_8_85 rfl rfl (ys137 w) (yp137_40 w) rfl ?_
  refine y_cU (pc' := 126) (as := [vR (some 137), vR (some 162)]) (r := []) f140_123 (yzv ym_8_273 rfl (ys137 w) rfl rfl) (by omega) rfl ?_
  exact k
theorem W140_99 {d : Nat} {K : Int → Hp → Prop} (w : yWF zl nl h) {l1 : Int} {l2 : Int} {l3 : Int} {l4 : Int} {s0 : Int} (hd : 1 ≤ d) (k : yU (d - 1) 145 [vR (some 137), vR (some 162)] h (fun h' => ZW d prog_10_method_38_code 8 126 [some (vR (some 137)), some (vI l1), some (vI l2), some (vI l3), some (vI s0)] [] h' (yq 1 (yqI K)))) : ZW d prog_10_method_38_code 8 99 [some (vR (some 137)), some (vI l1), some (vI l2), some (vI l3), some (vI l4)] [vI s0] h (yq 1 (yqI K)) := by
  refine y_go (pc' := 116) f140_99 rfl ?_
  refine y_sto (pc' := 118) (k := 4) (L' := [some (vR (some 137)), some (vI l1), some (vI l2), some (vI l3), some (vI s0)]) f140_116 rfl rfl rfl rfl rfl rfl ?_
  refine y_s (pc' := 119) (L' := [some (vR (some 137)), some (vI l1), some (vI l2), some (vI l3), some (vI s0)]) (st' := [vR (some 137)]) (h' := h) f140_118 rfl ?_
  refine y_s (pc' := 120) (L' := [some (vR (some 137)), some (vI l1), some (vI l2), some (vI l3), some (vI s0)]) (st' := [vR (some 137), vR (some 137)]) (h' := h) f140_119 rfl ?_
  refine y_gr (pc' := 123) f140_120 yf_8_85 rfl rfl (ys137 w) (yp137_40 w) rfl ?_
  refine y_cU (pc' := 126) (as := [vR (some 137), vR (some 162)]) (r := []) f140_123 (yzv ym_8_273 rfl (ys137 w) rfl rfl) (by omega) rfl ?_
  exact k
theorem W140_126 {d : Nat} {K : Int → Hp → Prop} (w : yWF zl nl h) {l1 : Int} {l2 : Int} {l3 : Int} {l4 : Int} (k : K l4 h) : ZW d prog_10_method_38_code 8 126 [some (vR (some 137)), some (vI l1), some (vI l2), some (vI l3), some (vI l4)] [] h (yq 1 (yqI K)) := by
  refine y_s (pc' := 128) (L' := [some (vR (some 137)), some (vI l1), some (vI l2), some (vI l3), some (vI l4)]) (st' := [vI l4]) (h' := h) f140_126 rfl ?_
  exact y_ri f140_128 ⟨rfl, k⟩
/-- HatterTunesModel.when(I)I -/
theorem E148 {d : Nat} {K : Int → Hp → Prop} (w : yWF zl nl h) {x0 : Int} (hd : 1 ≤ d) (k : yU (d - 1) 141 [vR (some 137), vR (some 162)] h (fun h' => ZW d prog_10_method_39_code 8 8 [some (vR (some 137)), some (vI x0), none, none] [] h' (yq 1 (yqI K)))) : yI d 148 [vR (some 137), vI x0] h K := by
  refine y_en (L := [some (vR (some 137)), some (vI x0), none, none]) rfl rfl ?_
  refine y_s (pc' := 1) (L' := [some (vR (some 137)), some (vI x0), none, none]) (st' := [vR (some 137)]) (h' := h) f148_0 rfl ?_
  refine y_s (pc' := 2) (L' := [some (vR (some 137)), some (vI x0), none, none]) (st' := [vR (some 137), vR (some 137)]) (h' := h) f148_1 rfl ?_
  refine y_gr (pc' := 5) f148_2 yf_8_85 rfl rfl (ys137 w) (yp137_40 w) rfl ?_
  refine y_cU (pc' := 8) (as := [vR (some 137), vR (some 162)]) (r := []) f148_5 (yzv ym_8_269 rfl (ys137 w) rfl rfl) (by omega) rfl ?_
  exact k
theorem W148_8 {d : Nat} {K : Int → Hp → Prop} (w : yWF zl nl h) {l1 : Int} (k : ZW d prog_10_method_39_code 8 13 [some (vR (some 137)), some (vI l1), some (vI (-5)), some (vI 0)] [] h (yq 1 (yqI K))) : ZW d prog_10_method_39_code 8 8 [some (vR (some 137)), some (vI l1), none, none] [] h (yq 1 (yqI K)) := by
  refine y_s (pc' := 10) (L' := [some (vR (some 137)), some (vI l1), none, none]) (st' := [vI (-5)]) (h' := h) f148_8 rfl ?_
  refine y_sto (pc' := 11) (k := 2) (L' := [some (vR (some 137)), some (vI l1), some (vI (-5)), none]) f148_10 rfl rfl rfl rfl rfl rfl ?_
  refine y_s (pc' := 12) (L' := [some (vR (some 137)), some (vI l1), some (vI (-5)), none]) (st' := [vI 0]) (h' := h) f148_11 rfl ?_
  refine y_sto (pc' := 13) (k := 3) (L' := [some (vR (some 137)), some (vI l1), some (vI (-5)), some (vI 0)]) f148_12 rfl rfl rfl rfl rfl rfl ?_
  exact k
theorem W148_13 {d : Nat} {K : Int → Hp → Prop} (w : yWF zl nl h) {l1 : Int} {l2 : Int} {l3 : Int} (hd : 1 ≤ d) (k : ((60 < l3 → yU (d - 1) 145 [vR (some 137), vR (some 162)] h (fun h' => ZW d prog_10_method_39_code 8 59 [some (vR (some 137)), some (vI l1), some (vI l2), some (vI l3)] [] h' (yq 1 (yqI K)))) ∧ (¬ (60 < l3) → ((l2 ≠ (-5) → yU (d - 1) 145 [vR (some 137), vR (some 162)] h (fun h' => ZW d prog_10_method_39_code 8 59 [some (vR (some 137)), some (vI l1), some (vI l2), some (vI l3)] [] h' (yq 1 (yqI K)))) ∧ (¬ (l2 ≠ (-5)) → ((l3 ≤ 0 → yI (d - 1) 146 [vR (some 137), vI l1] h (fun x h' => ZW d prog_10_method_39_code 8 38 [some (vR (some 137)), some (vI l1), some (vI l2), some (vI l3)] [vI x] h' (yq 1 (yqI K)))) ∧ (¬ (l3 ≤ 0) → yU (d - 1) 142 [vR (some 137)] h (fun h' => ZW d prog_10_method_39_code 8 33 [some (vR (some 137)), some (vI l1), some (vI l2), some (vI l3)] [] h' (yq 1 (yqI K)))))))))) : ZW d prog_10_method_39_code 8 13 [some (vR (some 137)), some (vI l1), some (vI l2), some (vI l3)] [] h (yq 1 (yqI K)) := by
  refine y_s (pc' := 14) (L' := [some (vR (some 137)), some (vI l1), some (vI l2), some (vI l3)]) (st' := [vI l3]) (h' := h) f148_13 rfl ?_
  refine y_s (pc' := 16) (L' := [some (vR (some 137)), some (vI l1), some (vI l2), some (vI l3)]) (st' := [vI 60, vI l3]) (h' := h) f148_14 rfl ?_
  refine y_ic (pcT := 51) (pc' := 19) (P := 60 < l3) f148_16 rfl rfl rfl (fun c => ?_) (fun c => ?_)
  · replace k := k.1 c
    refine y_s (pc' := 52) (L' := [some (vR (some 137)), some (vI l1), some (vI l2), some (vI l3)]) (st' := [vR (some 137)]) (h' := h) f148_51 rfl ?_
    refine y_s (pc' := 53) (L' := [some (vR (some 137)), some (vI l1), some (vI l2), some (vI l3)]) (st' := [vR (some 137), vR (some 137)]) (h' := h) f148_52 rfl ?_
    refine y_gr (pc' := 56) f148_53 yf_8_85 rfl rfl (ys137 w) (yp137_40 w) rfl ?_
    refine y_cU (pc' := 59) (as := [vR (some 137), vR (some 162)]) (r := []) f148_56 (yzv ym_8_273 rfl (ys137 w) rfl rfl) (by omega) rfl ?_
    exact k
  · replace k := k.2 c
    refine y_s (pc' := 20) (L' := [some (vR (some 137)), some (vI l1), some (vI l2), some (vI l3)]) (st' := [vI l2]) (h' := h) f148_19 rfl ?_
    refine y_s (pc' := 22) (L' := [some (vR (some 137)), some (vI l1), some (vI l2), some (vI l3)]) (st' := [vI (-5), vI l2]) (h' := h) f148_20 rfl ?_
    refine y_ic (pcT := 51) (pc' := 25) (P := l2 ≠ (-5)) f148_22 rfl rfl rfl (fun c => ?_) (fun c => ?_)
    · replace k := k.1 c
      refine y_s (pc' := 52) (L' := [some (vR (some 137)), some (vI l1), some (vI l2), some (vI l3)]) (st' := [vR (some 137)]) (h' := h) f148_51 rfl ?_
      refine y_s (pc' := 53) (L' := [some (vR (some 137)), some (vI l1), some (vI l2), some (vI l3)]) (st' := [vR (some 137), vR (some 137)]) (h' := h) f148_52 rfl ?_
      refine y_gr (pc' := 56) f148_53 yf_8_85 rfl rfl (ys137 w) (yp137_40 w) rfl ?_
      refine y_cU (pc' := 59) (as := [vR (some 137), vR (some 162)]) (r := []) f148_56 (yzv ym_8_273 rfl (ys137 w) rfl rfl) (by omega) rfl ?_
      exact k
    · replace k := k.2 c
      refine y_s (pc' := 26) (L' := [some (vR (some 137)), some (vI l1), some (vI l2), some (vI l3)]) (st' := [vI l3]) (h' := h) f148_25 rfl ?_
      refine y_if (pcT := 33) (pc' := 29) (P := l3 ≤ 0) f148_26 rfl rfl rfl (fun c => ?_) (fun c => ?_)
      · replace k := k.1 c
        refine y_s (pc' := 34) (L' := [some (vR (some 137)), some (vI l1), some (vI l2), some (vI l3)]) (st' := [vR (some 137)]) (h' := h) f148_33 rfl ?_
        refine y_s (pc' := 35) (L' := [some (vR (some 137)), some (vI l1), some (vI l2), some (vI l3)]) (st' := [vI l1, vR (some 137)]) (h' := h) f148_34 rfl ?_
        refine y_cI (pc' := 38) (as := [vR (some 137), vI l1]) (r := []) f148_35 (yzv ym_8_142 rfl (ys137 w) rfl rfl) (by omega) rfl ?_
        exact k
      · replace k := k.2 c
        refine y_s (pc' := 30) (L' := [some (vR (some 137)), some (vI l1), some (vI l2), some (vI l3)]) (st' := [vR (some 137)]) (h' := h) f148_29 rfl ?_
        refine y_cU (pc' := 33) (as := [vR (some 137)]) (r := []) f148_30 (yzv ym_8_266 rfl (ys137 w) rfl rfl) (by omega) rfl ?_
        exact k
theorem W148_33 {d : Nat} {K : Int → Hp → Prop} (w : yWF zl nl h) {l1 : Int} {l2 : Int} {l3 : Int} (hd : 1 ≤ d) (k : yI (d - 1) 146 [vR (some 137), vI l1] h (fun x h' => ZW d prog_10_method_39_code 8 38 [some (vR (some 137)), some (vI l1), some (vI l2), some (vI l3)] [vI x] h' (yq 1 (yqI K)))) : ZW d prog_10_method_39_code 8 33 [some (vR (some 137)), some (vI l1), some (vI l2), some (vI l3)] [] h (yq 1 (yqI K)) := by
  refine y_s (pc' := 34) (L' := [some (vR (some 137)), some (vI l1), some (vI l2), some (vI l3)]) (st' := [vR (some 137)]) (h' := h) f148_33 rfl ?_
  refine y_s (pc' := 35) (L' := [some (vR (some 137)), some (vI l1), some (vI l2), some (vI l3)]) (st' := [vI l1, vR (some 137)]) (h' := h) f148_34 rfl ?_
  refine y_cI (pc' := 38) (as := [vR (some 137), vI l1]) (r := []) f148_35 (yzv ym_8_142 rfl (ys137 w) rfl rfl) (by omega) rfl ?_
  exact k
theorem W148_38 {d : Nat} {K : Int → Hp → Prop} (w : yWF zl nl h) {l1 : Int} {l2 : Int} {l3 : Int} {s0 : Int} (k : ((s0 = (-5) → ZW d prog_10_method_39_code 8 13 [some (vR (some 137)), some (vI l1), some (vI l2), some (vI (zw (l3 + 1)))] [] h (yq 1 (yqI K))) ∧ (¬ (s0 = (-5)) → ZW d prog_10_method_39_code 8 13 [some (vR (some 137)), some (vI l1), some (vI l3), some (vI (zw (l3 + 1)))] [] h (yq 1 (yqI K))))) : ZW d prog_10_method_39_code 8 38 [some (vR (some 137)), some (vI l1), some (vI l2), some (vI l3)] [vI s0] h (yq 1 (yqI K)) := by
  refine y_s (pc' := 40) (L' := [some (vR (some 137)), some (vI l1), some (vI l2), some (vI l3)]) (st' := [vI (-5), vI s0]) (h' := h) f148_38 rfl ?_
  refine y_ic (pcT := 45) (pc' := 43) (P := s0 = (-5)) f148_40 rfl rfl rfl (fun c => ?_) (fun c => ?_)
  · replace k := k.1 c
    refine y_inc (pc' := 48) (L' := [some (vR (some 137)), some (vI l1), some (vI l2), some (vI (zw (l3 + 1)))]) f148_45 rfl rfl rfl rfl ?_
    refine y_go (pc' := 13) f148_48 rfl ?_
    exact k
  · replace k := k.2 c
    refine y_s (pc' := 44) (L' := [some (vR (some 137)), some (vI l1), some (vI l2), some (vI l3)]) (st' := [vI l3]) (h' := h) f148_43 rfl ?_
    refine y_sto (pc' := 45) (k := 2) (L' := [some (vR (some 137)), some (vI l1), some (vI l3), some (vI l3)]) f148_44 rfl rfl rfl rfl rfl rfl ?_
    refine y_inc (pc' := 48) (L' := [some (vR (some 137)), some (vI l1), some (vI l3), some (vI (zw (l3 + 1)))]) f148_45 rfl rfl rfl rfl ?_
    refine y_go (pc' := 13) f148_48 rfl ?_
    exact k
theorem W148_59 {d : Nat} {K : Int → Hp → Prop} (w : yWF zl nl h) {l1 : Int} {l2 : Int} {l3 : Int} (k : K l2 h) : ZW d prog_10_method_39_code 8 59 [some (vR (some 137)), some (vI l1), some (vI l2), some (vI l3)] [] h (yq 1 (yqI K)) := by
  refine y_s (pc' := 60) (L' := [some (vR (some 137)), some (vI l1), some (vI l2), some (vI l3)]) (st' := [vI l2]) (h' := h) f148_59 rfl ?_
  exact y_ri f148_60 ⟨rfl, k⟩
/-- HatterTunesModel.presses(I)I -/
theorem E149 {d : Nat} {K : Int → Hp → Prop} (w : yWF zl nl h) {x0 : Int} (k : ZW d prog_10_method_44_code 8 5 [some (vR (some 137)), some (vI x0), some (vI (-5)), some (vI 5), none, none] [] h (yq 1 (yqI K))) : yI d 149 [vR (some 137), vI x0] h K := by
  refine y_en (L := [some (vR (some 137)), some (vI x0), none, none, none, none]) rfl rfl ?_
  refine y_s (pc' := 2) (L' := [some (vR (some 137)), some (vI x0), none, none, none, none]) (st' := [vI (-5)]) (h' := h) f149_0 rfl ?_
  refine y_sto (pc' := 3) (k := 2) (L' := [some (vR (some 137)), some (vI x0), some (vI (-5)), none, none, none]) f149_2 rfl rfl rfl rfl rfl rfl ?_
  refine y_s (pc' := 4) (L' := [some (vR (some 137)), some (vI x0), some (vI (-5)), none, none, none]) (st' := [vI 5]) (h' := h) f149_3 rfl ?_
  refine y_sto (pc' := 5) (k := 3) (L' := [some (vR (some 137)), some (vI x0), some (vI (-5)), some (vI 5), none, none]) f149_4 rfl rfl rfl rfl rfl rfl ?_
  exact k
theorem W149_5 {d : Nat} {K : Int → Hp → Prop} (w : yWF zl nl h) {l1 : Int} {l2 : Int} {l3 : Int} {l4 : Option Int} {l5 : Option Int} (k : ((l3 < 0 → K l2 h) ∧ (¬ (l3 < 0) → ((0 ≤ (zw ((zw (6 * l1)) + l3)) ∧ (zw ((zw (6 * l1)) + l3)) < 36) ∧ ZW d prog_10_method_44_code 8 26 [some (vR (some 137)), some (vI l1), some (vI l2), some (vI l3), some (vI (zV h 140 ((zw ((zw (6 * l1)) + l3))).toNat)), some (vI 9)] [] h (yq 1 (yqI K)))))) : ZW d prog_10_method_44_code 8 5 [some (vR (some 137)), some (vI l1), some (vI l2), some (vI l3), yo l4, yo l5] [] h (yq 1 (yqI K)) := by
  refine y_s (pc' := 6) (L' := [some (vR (some 137)), some (vI l1), some (vI l2), some (vI l3), yo l4, yo l5]) (st' := [vI l3]) (h' := h) f149_5 rfl ?_
  refine y_if (pcT := 87) (pc' := 9) (P := l3 < 0) f149_6 rfl rfl rfl (fun c => ?_) (fun c => ?_)
  · replace k := k.1 c
    refine y_s (pc' := 88) (L' := [some (vR (some 137)), some (vI l1), some (vI l2), some (vI l3), yo l4, yo l5]) (st' := [vI l2]) (h' := h) f149_87 rfl ?_
    exact y_ri f149_88 ⟨rfl, k⟩
  · replace k := k.2 c
    refine y_s (pc' := 10) (L' := [some (vR (some 137)), some (vI l1), some (vI l2), some (vI l3), yo l4, yo l5]) (st' := [vR (some 137)]) (h' := h) f149_9 rfl ?_
    refine y_gr (pc' := 13) f149_10 yf_8_18 rfl rfl (ys137 w) (yp137_3 w) rfl ?_
    refine y_s (pc' := 15) (L' := [some (vR (some 137)), some (vI l1), some (vI l2), some (vI l3), yo l4, yo l5]) (st' := [vI 6, vR (some 140)]) (h' := h) f149_13 rfl ?_
    refine y_s (pc' := 16) (L' := [some (vR (some 137)), some (vI l1), some (vI l2), some (vI l3), yo l4, yo l5]) (st' := [vI l1, vI 6, vR (some 140)]) (h' := h) f149_15 rfl ?_
    refine y_s (pc' := 17) (L' := [some (vR (some 137)), some (vI l1), some (vI l2), some (vI l3), yo l4, yo l5]) (st' := [vI (zw (6 * l1)), vR (some 140)]) (h' := h) f149_16 rfl ?_
    refine y_s (pc' := 18) (L' := [some (vR (some 137)), some (vI l1), some (vI l2), some (vI l3), yo l4, yo l5]) (st' := [vI l3, vI (zw (6 * l1)), vR (some 140)]) (h' := h) f149_17 rfl ?_
    refine y_s (pc' := 19) (L' := [some (vR (some 137)), some (vI l1), some (vI l2), some (vI l3), yo l4, yo l5]) (st' := [vI (zw ((zw (6 * l1)) + l3)), vR (some 140)]) (h' := h) f149_18 rfl ?_
    refine y_ia (pc' := 20) (x := (zV h 140 ((zw ((zw (6 * l1)) + l3))).toNat)) f149_19 (ys140 w) k.1 rfl rfl ?_
    replace k := k.2
    refine y_sto (pc' := 22) (k := 4) (L' := [some (vR (some 137)), some (vI l1), some (vI l2), some (vI l3), some (vI (zV h 140 ((zw ((zw (6 * l1)) + l3))).toNat)), yo l5]) f149_20 rfl rfl rfl rfl rfl rfl ?_
    refine y_s (pc' := 24) (L' := [some (vR (some 137)), some (vI l1), some (vI l2), some (vI l3), some (vI (zV h 140 ((zw ((zw (6 * l1)) + l3))).toNat)), yo l5]) (st' := [vI 9]) (h' := h) f149_22 rfl ?_
    refine y_sto (pc' := 26) (k := 5) (L' := [some (vR (some 137)), some (vI l1), some (vI l2), some (vI l3), some (vI (zV h 140 ((zw ((zw (6 * l1)) + l3))).toNat)), some (vI 9)]) f149_24 rfl rfl rfl rfl rfl rfl ?_
    exact k
theorem W149_26 {d : Nat} {K : Int → Hp → Prop} (w : yWF zl nl h) {l1 : Int} {l2 : Int} {l3 : Int} {l4 : Int} {l5 : Int} (hd : 1 ≤ d) (k : ((l5 < 0 → ((0 ≤ (zw ((zw (6 * l1)) + l3)) ∧ (zw ((zw (6 * l1)) + l3)) < 36) ∧ ZW d prog_10_method_44_code 8 5 [some (vR (some 137)), some (vI l1), some (vI l2), some (vI (zw (l3 + (-1)))), some (vI l4), some (vI l5)] [] (zsetV h 140 ((zw ((zw (6 * l1)) + l3))).toNat l4) (yq 1 (yqI K)))) ∧ (¬ (l5 < 0) → ((0 ≤ (zw ((zw (6 * l1)) + l3)) ∧ (zw ((zw (6 * l1)) + l3)) < 36) ∧ yI (d - 1) 146 [vR (some 137), vI l1] (zsetV h 140 ((zw ((zw (6 * l1)) + l3))).toNat l5) (fun x h' => ZW d prog_10_method_44_code 8 49 [some (vR (some 137)), some (vI l1), some (vI l2), some (vI l3), some (vI l4), some (vI l5)] [vI x] h' (yq 1 (yqI K))))))) : ZW d prog_10_method_44_code 8 26 [some (vR (some 137)), some (vI l1), some (vI l2), some (vI l3), some (vI l4), some (vI l5)] [] h (yq 1 (yqI K)) := by
  refine y_s (pc' := 28) (L' := [some (vR (some 137)), some (vI l1), some (vI l2), some (vI l3), some (vI l4), some (vI l5)]) (st' := [vI l5]) (h' := h) f149_26 rfl ?_
  refine y_if (pcT := 68) (pc' := 31) (P := l5 < 0) f149_28 rfl rfl rfl (fun c => ?_) (fun c => ?_)
  · replace k := k.1 c
    refine y_s (pc' := 69) (L' := [some (vR (some 137)), some (vI l1), some (vI l2), some (vI l3), some (vI l4), some (vI l5)]) (st' := [vR (some 137)]) (h' := h) f149_68 rfl ?_
    refine y_gr (pc' := 72) f149_69 yf_8_18 rfl rfl (ys137 w) (yp137_3 w) rfl ?_
    refine y_s (pc' := 74) (L' := [some (vR (some 137)), some (vI l1), some (vI l2), some (vI l3), some (vI l4), some (vI l5)]) (st' := [vI 6, vR (some 140)]) (h' := h) f149_72 rfl ?_
    refine y_s (pc' := 75) (L' := [some (vR (some 137)), some (vI l1), some (vI l2), some (vI l3), some (vI l4), some (vI l5)]) (st' := [vI l1, vI 6, vR (some 140)]) (h' := h) f149_74 rfl ?_
    refine y_s (pc' := 76) (L' := [some (vR (some 137)), some (vI l1), some (vI l2), some (vI l3), some (vI l4), some (vI l5)]) (st' := [vI (zw (6 * l1)), vR (some 140)]) (h' := h) f149_75 rfl ?_
    refine y_s (pc' := 77) (L' := [some (vR (some 137)), some (vI l1), some (vI l2), some (vI l3), some (vI l4), some (vI l5)]) (st' := [vI l3, vI (zw (6 * l1)), vR (some 140)]) (h' := h) f149_76 rfl ?_
    refine y_s (pc' := 78) (L' := [some (vR (some 137)), some (vI l1), some (vI l2), some (vI l3), some (vI l4), some (vI l5)]) (st' := [vI (zw ((zw (6 * l1)) + l3)), vR (some 140)]) (h' := h) f149_77 rfl ?_
    refine y_s (pc' := 80) (L' := [some (vR (some 137)), some (vI l1), some (vI l2), some (vI l3), some (vI l4), some (vI l5)]) (st' := [vI l4, vI (zw ((zw (6 * l1)) + l3)), vR (some 140)]) (h' := h) f149_78 rfl ?_
    refine y_is (pc' := 81) (h' := (zsetV h 140 ((zw ((zw (6 * l1)) + l3))).toNat l4)) f149_80 (ys140 w) (by decide) k.1 rfl rfl ?_
    replace k := k.2
    refine y_inc (pc' := 84) (L' := [some (vR (some 137)), some (vI l1), some (vI l2), some (vI (zw (l3 + (-1)))), some (vI l4), some (vI l5)]) f149_81 rfl rfl rfl rfl ?_
    refine y_go (pc' := 5) f149_84 rfl ?_
    exact k
  · replace k := k.2 c
    refine y_s (pc' := 32) (L' := [some (vR (some 137)), some (vI l1), some (vI l2), some (vI l3), some (vI l4), some (vI l5)]) (st' := [vR (some 137)]) (h' := h) f149_31 rfl ?_
    refine y_gr (pc' := 35) f149_32 yf_8_18 rfl rfl (ys137 w) (yp137_3 w) rfl ?_
    refine y_s (pc' := 37) (L' := [some (vR (some 137)), some (vI l1), some (vI l2), some (vI l3), some (vI l4), some (vI l5)]) (st' := [vI 6, vR (some 140)]) (h' := h) f149_35 rfl ?_
    refine y_s (pc' := 38) (L' := [some (vR (some 137)), some (vI l1), some (vI l2), some (vI l3), some (vI l4), some (vI l5)]) (st' := [vI l1, vI 6, vR (some 140)]) (h' := h) f149_37 rfl ?_
    refine y_s (pc' := 39) (L' := [some (vR (some 137)), some (vI l1), some (vI l2), some (vI l3), some (vI l4), some (vI l5)]) (st' := [vI (zw (6 * l1)), vR (some 140)]) (h' := h) f149_38 rfl ?_
    refine y_s (pc' := 40) (L' := [some (vR (some 137)), some (vI l1), some (vI l2), some (vI l3), some (vI l4), some (vI l5)]) (st' := [vI l3, vI (zw (6 * l1)), vR (some 140)]) (h' := h) f149_39 rfl ?_
    refine y_s (pc' := 41) (L' := [some (vR (some 137)), some (vI l1), some (vI l2), some (vI l3), some (vI l4), some (vI l5)]) (st' := [vI (zw ((zw (6 * l1)) + l3)), vR (some 140)]) (h' := h) f149_40 rfl ?_
    refine y_s (pc' := 43) (L' := [some (vR (some 137)), some (vI l1), some (vI l2), some (vI l3), some (vI l4), some (vI l5)]) (st' := [vI l5, vI (zw ((zw (6 * l1)) + l3)), vR (some 140)]) (h' := h) f149_41 rfl ?_
    refine y_is (pc' := 44) (h' := (zsetV h 140 ((zw ((zw (6 * l1)) + l3))).toNat l5)) f149_43 (ys140 w) (by decide) k.1 rfl rfl ?_
    replace k := k.2
    refine y_s (pc' := 45) (L' := [some (vR (some 137)), some (vI l1), some (vI l2), some (vI l3), some (vI l4), some (vI l5)]) (st' := [vR (some 137)]) (h' := (zsetV h 140 ((zw ((zw (6 * l1)) + l3))).toNat l5)) f149_44 rfl ?_
    refine y_s (pc' := 46) (L' := [some (vR (some 137)), some (vI l1), some (vI l2), some (vI l3), some (vI l4), some (vI l5)]) (st' := [vI l1, vR (some 137)]) (h' := (zsetV h 140 ((zw ((zw (6 * l1)) + l3))).toNat l5)) f149_45 rfl ?_
    refine y_cI (pc' := 49) (as := [vR (some 137), vI l1]) (r := []) f149_46 (yzv ym_8_142 rfl (ys137 w) rfl rfl) (by omega) rfl ?_
    exact k
theorem W149_49 {d : Nat} {K : Int → Hp → Prop} (w : yWF zl nl h) {l1 : Int} {l2 : Int} {l3 : Int} {l4 : Int} {l5 : Int} {s0 : Int} (k : ((s0 = (-5) → ZW d prog_10_method_44_code 8 26 [some (vR (some 137)), some (vI l1), some (vI l2), some (vI l3), some (vI l4), some (vI (zw (l5 + (-1))))] [] h (yq 1 (yqI K))) ∧ (¬ (s0 = (-5)) → ZW d prog_10_method_44_code 8 26 [some (vR (some 137)), some (vI l1), some (vI (zw ((zw (10 * l3)) + l5))), some (vI l3), some (vI l4), some (vI (zw (l5 + (-1))))] [] h (yq 1 (yqI K))))) : ZW d prog_10_method_44_code 8 49 [some (vR (some 137)), some (vI l1), some (vI l2), some (vI l3), some (vI l4), some (vI l5)] [vI s0] h (yq 1 (yqI K)) := by
  refine y_s (pc' := 51) (L' := [some (vR (some 137)), some (vI l1), some (vI l2), some (vI l3), some (vI l4), some (vI l5)]) (st' := [vI (-5), vI s0]) (h' := h) f149_49 rfl ?_
  refine y_ic (pcT := 62) (pc' := 54) (P := s0 = (-5)) f149_51 rfl rfl rfl (fun c => ?_) (fun c => ?_)
  · replace k := k.1 c
    refine y_inc (pc' := 65) (L' := [some (vR (some 137)), some (vI l1), some (vI l2), some (vI l3), some (vI l4), some (vI (zw (l5 + (-1))))]) f149_62 rfl rfl rfl rfl ?_
    refine y_go (pc' := 26) f149_65 rfl ?_
    exact k
  · replace k := k.2 c
    refine y_s (pc' := 56) (L' := [some (vR (some 137)), some (vI l1), some (vI l2), some (vI l3), some (vI l4), some (vI l5)]) (st' := [vI 10]) (h' := h) f149_54 rfl ?_
    refine y_s (pc' := 57) (L' := [some (vR (some 137)), some (vI l1), some (vI l2), some (vI l3), some (vI l4), some (vI l5)]) (st' := [vI l3, vI 10]) (h' := h) f149_56 rfl ?_
    refine y_s (pc' := 58) (L' := [some (vR (some 137)), some (vI l1), some (vI l2), some (vI l3), some (vI l4), some (vI l5)]) (st' := [vI (zw (10 * l3))]) (h' := h) f149_57 rfl ?_
    refine y_s (pc' := 60) (L' := [some (vR (some 137)), some (vI l1), some (vI l2), some (vI l3), some (vI l4), some (vI l5)]) (st' := [vI l5, vI (zw (10 * l3))]) (h' := h) f149_58 rfl ?_
    refine y_s (pc' := 61) (L' := [some (vR (some 137)), some (vI l1), some (vI l2), some (vI l3), some (vI l4), some (vI l5)]) (st' := [vI (zw ((zw (10 * l3)) + l5))]) (h' := h) f149_60 rfl ?_
    refine y_sto (pc' := 62) (k := 2) (L' := [some (vR (some 137)), some (vI l1), some (vI (zw ((zw (10 * l3)) + l5))), some (vI l3), some (vI l4), some (vI l5)]) f149_61 rfl rfl rfl rfl rfl rfl ?_
    refine y_inc (pc' := 65) (L' := [some (vR (some 137)), some (vI l1), some (vI (zw ((zw (10 * l3)) + l5))), some (vI l3), some (vI l4), some (vI (zw (l5 + (-1))))]) f149_62 rfl rfl rfl rfl ?_
    refine y_go (pc' := 26) f149_65 rfl ?_
    exact k
/-- HatterTunesModel.shop()I -/
theorem E155 {d : Nat} {K : Int → Hp → Prop} (w : yWF zl nl h) (k : (((zV h 137 15) ≠ 6 → ZW d prog_10_method_23_code 8 29 [some (vR (some 137)), some (vI (zV h 137 23)), some (vI 0), some (vI 1), some (vI 0)] [] (zsetV h 137 11 0) (yq 1 (yqI K))) ∧ (¬ ((zV h 137 15) ≠ 6) → K (-4) h))) : yI d 155 [vR (some 137)] h K := by
  refine y_en (L := [some (vR (some 137)), none, none, none, none]) rfl rfl ?_
  refine y_s (pc' := 1) (L' := [some (vR (some 137)), none, none, none, none]) (st' := [vR (some 137)]) (h' := h) f155_0 rfl ?_
  refine y_gi (pc' := 4) f155_1 yf_8_229 rfl rfl (ys137 w) rfl ?_
  refine y_s (pc' := 6) (L' := [some (vR (some 137)), none, none, none, none]) (st' := [vI 6, vI (zV h 137 15)]) (h' := h) f155_4 rfl ?_
  refine y_ic (pcT := 12) (pc' := 9) (P := (zV h 137 15) ≠ 6) f155_6 rfl rfl rfl (fun c => ?_) (fun c => ?_)
  · replace k := k.1 c
    refine y_s (pc' := 13) (L' := [some (vR (some 137)), none, none, none, none]) (st' := [vR (some 137)]) (h' := h) f155_12 rfl ?_
    refine y_gi (pc' := 16) f155_13 yf_8_185 rfl rfl (ys137 w) rfl ?_
    refine y_sto (pc' := 17) (k := 1) (L' := [some (vR (some 137)), some (vI (zV h 137 23)), none, none, none]) f155_16 rfl rfl rfl rfl rfl rfl ?_
    refine y_s (pc' := 18) (L' := [some (vR (some 137)), some (vI (zV h 137 23)), none, none, none]) (st' := [vR (some 137)]) (h' := h) f155_17 rfl ?_
    refine y_s (pc' := 19) (L' := [some (vR (some 137)), some (vI (zV h 137 23)), none, none, none]) (st' := [vI 0, vR (some 137)]) (h' := h) f155_18 rfl ?_
    refine y_pi (pc' := 22) f155_19 yf_8_160 rfl rfl (ys137 w) (by decide) (Or.inl rfl) rfl ?_
    refine y_s (pc' := 23) (L' := [some (vR (some 137)), some (vI (zV h 137 23)), none, none, none]) (st' := [vI 0]) (h' := (zsetV h 137 11 0)) f155_22 rfl ?_
    refine y_sto (pc' := 24) (k := 2) (L' := [some (vR (some 137)), some (vI (zV h 137 23)), some (vI 0), none, none]) f155_23 rfl rfl rfl rfl rfl rfl ?_
    refine y_s (pc' := 25) (L' := [some (vR (some 137)), some (vI (zV h 137 23)), some (vI 0), none, none]) (st' := [vI 1]) (h' := (zsetV h 137 11 0)) f155_24 rfl ?_
    refine y_sto (pc' := 26) (k := 3) (L' := [some (vR (some 137)), some (vI (zV h 137 23)), some (vI 0), some (vI 1), none]) f155_25 rfl rfl rfl rfl rfl rfl ?_
    refine y_s (pc' := 27) (L' := [some (vR (some 137)), some (vI (zV h 137 23)), some (vI 0), some (vI 1), none]) (st' := [vI 0]) (h' := (zsetV h 137 11 0)) f155_26 rfl ?_
    refine y_sto (pc' := 29) (k := 4) (L' := [some (vR (some 137)), some (vI (zV h 137 23)), some (vI 0), some (vI 1), some (vI 0)]) f155_27 rfl rfl rfl rfl rfl rfl ?_
    exact k
  · replace k := k.2 c
    refine y_s (pc' := 11) (L' := [some (vR (some 137)), none, none, none, none]) (st' := [vI (-4)]) (h' := h) f155_9 rfl ?_
    exact y_ri f155_11 ⟨rfl, k⟩
theorem W155_29 {d : Nat} {K : Int → Hp → Prop} (w : yWF zl nl h) {l1 : Int} {l2 : Int} {l3 : Int} {l4 : Int} (hd : 1 ≤ d) (k : ((l3 = 0 → ((l4 ≠ 0 → ((0 ≤ (zV (zsetV h 137 9 0) 137 15) ∧ (zV (zsetV h 137 9 0) 137 15) < 6) ∧ (∀ h_156, (zsetV (zsetV h 137 9 0) 145 ((zV (zsetV h 137 9 0) 137 15)).toNat l2) = h_156 → (∀ h_175, (zsetV (zsetV h_156 137 16 (zV h_156 137 15)) 137 15 (zw ((zV (zsetV h_156 137 16 (zV h_156 137 15)) 137 15) + 1))) = h_175 → K (zV (zsetV h_156 137 16 (zV h_156 137 15)) 137 15) h_175)))) ∧ (¬ (l4 ≠ 0) → (∀ h_138, (zsetV (zsetV h 137 9 0) 137 23 l1) = h_138 → K (zw ((-10) - (zV h_138 137 11))) h_138)))) ∧ (¬ (l3 = 0) → ((l4 ≠ 0 → ((l4 ≠ 0 → ((0 ≤ (zV (zsetV h 137 9 0) 137 15) ∧ (zV (zsetV h 137 9 0) 137 15) < 6) ∧ (∀ h_156, (zsetV (zsetV h 137 9 0) 145 ((zV (zsetV h 137 9 0) 137 15)).toNat l2) = h_156 → (∀ h_175, (zsetV (zsetV h_156 137 16 (zV h_156 137 15)) 137 15 (zw ((zV (zsetV h_156 137 16 (zV h_156 137 15)) 137 15) + 1))) = h_175 → K (zV (zsetV h_156 137 16 (zV h_156 137 15)) 137 15) h_175)))) ∧ (¬ (l4 ≠ 0) → (∀ h_138, (zsetV (zsetV h 137 9 0) 137 23 l1) = h_138 → K (zw ((-10) - (zV h_138 137 11))) h_138)))) ∧ (¬ (l4 ≠ 0) → ((10 ≤ l2 → ZW d prog_10_method_23_code 8 29 [some (vR (some 137)), some (vI l1), some (vI l2), some (vI 0), some (vI l4)] [] h (yq 1 (yqI K))) ∧ (¬ (10 ≤ l2) → yI (d - 1) 156 [vR (some 137), vI (zw ((zw (10 * (zV h 137 15))) + l2))] h (fun x h' => ZW d prog_10_method_23_code 8 57 [some (vR (some 137)), some (vI l1), some (vI l2), some (vI l3), some (vI l4)] [vI x] h' (yq 1 (yqI K)))))))))) : ZW d prog_10_method_23_code 8 29 [some (vR (some 137)), some (vI l1), some (vI l2), some (vI l3), some (vI l4)] [] h (yq 1 (yqI K)) := by
  refine y_s (pc' := 30) (L' := [some (vR (some 137)), some (vI l1), some (vI l2), some (vI l3), some (vI l4)]) (st' := [vI l3]) (h' := h) f155_29 rfl ?_
  refine y_if (pcT := 123) (pc' := 33) (P := l3 = 0) f155_30 rfl rfl rfl (fun c => ?_) (fun c => ?_)
  · replace k := k.1 c
    refine y_s (pc' := 124) (L' := [some (vR (some 137)), some (vI l1), some (vI l2), some (vI l3), some (vI l4)]) (st' := [vR (some 137)]) (h' := h) f155_123 rfl ?_
    refine y_s (pc' := 125) (L' := [some (vR (some 137)), some (vI l1), some (vI l2), some (vI l3), some (vI l4)]) (st' := [vI 0, vR (some 137)]) (h' := h) f155_124 rfl ?_
    refine y_pi (pc' := 128) f155_125 yf_8_157 rfl rfl (ys137 w) (by decide) (Or.inl rfl) rfl ?_
    refine y_s (pc' := 130) (L' := [some (vR (some 137)), some (vI l1), some (vI l2), some (vI l3), some (vI l4)]) (st' := [vI l4]) (h' := (zsetV h 137 9 0)) f155_128 rfl ?_
    refine y_if (pcT := 146) (pc' := 133) (P := l4 ≠ 0) f155_130 rfl rfl rfl (fun c => ?_) (fun c => ?_)
    · replace k := k.1 c
      refine y_s (pc' := 147) (L' := [some (vR (some 137)), some (vI l1), some (vI l2), some (vI l3), some (vI l4)]) (st' := [vR (some 137)]) (h' := (zsetV h 137 9 0)) f155_146 rfl ?_
      refine y_gr (pc' := 150) f155_147 yf_8_33 rfl rfl (ys137 w) (yp137_17 w) rfl ?_
      refine y_s (pc' := 151) (L' := [some (vR (some 137)), some (vI l1), some (vI l2), some (vI l3), some (vI l4)]) (st' := [vR (some 137), vR (some 145)]) (h' := (zsetV h 137 9 0)) f155_150 rfl ?_
      refine y_gi (pc' := 154) f155_151 yf_8_229 rfl rfl (ys137 w) rfl ?_
      refine y_s (pc' := 155) (L' := [some (vR (some 137)), some (vI l1), some (vI l2), some (vI l3), some (vI l4)]) (st' := [vI l2, vI (zV (zsetV h 137 9 0) 137 15), vR (some 145)]) (h' := (zsetV h 137 9 0)) f155_154 rfl ?_
      refine y_is (pc' := 156) (h' := (zsetV (zsetV h 137 9 0) 145 ((zV (zsetV h 137 9 0) 137 15)).toNat l2)) f155_155 (ys145 w) (by decide) k.1 rfl rfl ?_
      replace k := k.2
      generalize e_156 : (zsetV (zsetV h 137 9 0) 145 ((zV (zsetV h 137 9 0) 137 15)).toNat l2) = h_156
      replace k := k _ e_156
      have w : yWF zl nl h_156 := by rw [← e_156]; exact w
      refine y_s (pc' := 157) (L' := [some (vR (some 137)), some (vI l1), some (vI l2), some (vI l3), some (vI l4)]) (st' := [vR (some 137)]) (h' := h_156) f155_156 rfl ?_
      refine y_s (pc' := 158) (L' := [some (vR (some 137)), some (vI l1), some (vI l2), some (vI l3), some (vI l4)]) (st' := [vR (some 137), vR (some 137)]) (h' := h_156) f155_157 rfl ?_
      refine y_gi (pc' := 161) f155_158 yf_8_229 rfl rfl (ys137 w) rfl ?_
      refine y_pi (pc' := 164) f155_161 yf_8_110 rfl rfl (ys137 w) (by decide) (Or.inl rfl) rfl ?_
      refine y_s (pc' := 165) (L' := [some (vR (some 137)), some (vI l1), some (vI l2), some (vI l3), some (vI l4)]) (st' := [vR (some 137)]) (h' := (zsetV h_156 137 16 (zV h_156 137 15))) f155_164 rfl ?_
      refine y_s (pc' := 166) (L' := [some (vR (some 137)), some (vI l1), some (vI l2), some (vI l3), some (vI l4)]) (st' := [vR (some 137), vR (some 137)]) (h' := (zsetV h_156 137 16 (zV h_156 137 15))) f155_165 rfl ?_
      refine y_gi (pc' := 169) f155_166 yf_8_229 rfl rfl (ys137 w) rfl ?_
      refine y_s (pc' := 170) (L' := [some (vR (some 137)), some (vI l1), some (vI l2), some (vI l3), some (vI l4)]) (st' := [vI (zV (zsetV h_156 137 16 (zV h_156 137 15)) 137 15), vR (some 137), vI (zV (zsetV h_156 137 16 (zV h_156 137 15)) 137 15)]) (h' := (zsetV h_156 137 16 (zV h_156 137 15))) f155_169 rfl ?_
      refine y_s (pc' := 171) (L' := [some (vR (some 137)), some (vI l1), some (vI l2), some (vI l3), some (vI l4)]) (st' := [vI 1, vI (zV (zsetV h_156 137 16 (zV h_156 137 15)) 137 15), vR (some 137), vI (zV (zsetV h_156 137 16 (zV h_156 137 15)) 137 15)]) (h' := (zsetV h_156 137 16 (zV h_156 137 15))) f155_170 rfl ?_
      refine y_s (pc' := 172) (L' := [some (vR (some 137)), some (vI l1), some (vI l2), some (vI l3), some (vI l4)]) (st' := [vI (zw ((zV (zsetV h_156 137 16 (zV h_156 137 15)) 137 15) + 1)), vR (some 137), vI (zV (zsetV h_156 137 16 (zV h_156 137 15)) 137 15)]) (h' := (zsetV h_156 137 16 (zV h_156 137 15))) f155_171 rfl ?_
      refine y_pi (pc' := 175) f155_172 yf_8_229 rfl rfl (ys137 w) (by decide) (Or.inl rfl) rfl ?_
      generalize e_175 : (zsetV (zsetV h_156 137 16 (zV h_156 137 15)) 137 15 (zw ((zV (zsetV h_156 137 16 (zV h_156 137 15)) 137 15) + 1))) = h_175
      replace k := k _ e_175
      have w : yWF zl nl h_175 := by rw [← e_175]; exact w
      exact y_ri f155_175 ⟨rfl, k⟩
    · replace k := k.2 c
      refine y_s (pc' := 134) (L' := [some (vR (some 137)), some (vI l1), some (vI l2), some (vI l3), some (vI l4)]) (st' := [vR (some 137)]) (h' := (zsetV h 137 9 0)) f155_133 rfl ?_
      refine y_s (pc' := 135) (L' := [some (vR (some 137)), some (vI l1), some (vI l2), some (vI l3), some (vI l4)]) (st' := [vI l1, vR (some 137)]) (h' := (zsetV h 137 9 0)) f155_134 rfl ?_
      refine y_pi (pc' := 138) f155_135 yf_8_185 rfl rfl (ys137 w) (by decide) (Or.inl rfl) rfl ?_
      generalize e_138 : (zsetV (zsetV h 137 9 0) 137 23 l1) = h_138
      replace k := k _ e_138
      have w : yWF zl nl h_138 := by rw [← e_138]; exact w
      refine y_s (pc' := 140) (L' := [some (vR (some 137)), some (vI l1), some (vI l2), some (vI l3), some (vI l4)]) (st' := [vI (-10)]) (h' := h_138) f155_138 rfl ?_
      refine y_s (pc' := 141) (L' := [some (vR (some 137)), some (vI l1), some (vI l2), some (vI l3), some (vI l4)]) (st' := [vR (some 137), vI (-10)]) (h' := h_138) f155_140 rfl ?_
      refine y_gi (pc' := 144) f155_141 yf_8_160 rfl rfl (ys137 w) rfl ?_
      refine y_s (pc' := 145) (L' := [some (vR (some 137)), some (vI l1), some (vI l2), some (vI l3), some (vI l4)]) (st' := [vI (zw ((-10) - (zV h_138 137 11)))]) (h' := h_138) f155_144 rfl ?_
      exact y_ri f155_145 ⟨rfl, k⟩
  · replace k := k.2 c
    refine y_s (pc' := 35) (L' := [some (vR (some 137)), some (vI l1), some (vI l2), some (vI l3), some (vI l4)]) (st' := [vI l4]) (h' := h) f155_33 rfl ?_
    refine y_if (pcT := 123) (pc' := 38) (P := l4 ≠ 0) f155_35 rfl rfl rfl (fun c => ?_) (fun c => ?_)
    · replace k := k.1 c
      refine y_s (pc' := 124) (L' := [some (vR (some 137)), some (vI l1), some (vI l2), some (vI l3), some (vI l4)]) (st' := [vR (some 137)]) (h' := h) f155_123 rfl ?_
      refine y_s (pc' := 125) (L' := [some (vR (some 137)), some (vI l1), some (vI l2), some (vI l3), some (vI l4)]) (st' := [vI 0, vR (some 137)]) (h' := h) f155_124 rfl ?_
      refine y_pi (pc' := 128) f155_125 yf_8_157 rfl rfl (ys137 w) (by decide) (Or.inl rfl) rfl ?_
      refine y_s (pc' := 130) (L' := [some (vR (some 137)), some (vI l1), some (vI l2), some (vI l3), some (vI l4)]) (st' := [vI l4]) (h' := (zsetV h 137 9 0)) f155_128 rfl ?_
      refine y_if (pcT := 146) (pc' := 133) (P := l4 ≠ 0) f155_130 rfl rfl rfl (fun c => ?_) (fun c => ?_)
      · replace k := k.1 c
        refine y_s (pc' := 147) (L' := [some (vR (some 137)), some (vI l1), some (vI l2), some (vI l3), some (vI l4)]) (st' := [vR (some 137)]) (h' := (zsetV h 137 9 0)) f155_146 rfl ?_
        refine y_gr (pc' := 150) f155_147 yf_8_33 rfl rfl (ys137 w) (yp137_17 w) rfl ?_
        refine y_s (pc' := 151) (L' := [some (vR (some 137)), some (vI l1), some (vI l2), some (vI l3), some (vI l4)]) (st' := [vR (some 137), vR (some 145)]) (h' := (zsetV h 137 9 0)) f155_150 rfl ?_
        refine y_gi (pc' := 154) f155_151 yf_8_229 rfl rfl (ys137 w) rfl ?_
        refine y_s (pc' := 155) (L' := [some (vR (some 137)), some (vI l1), some (vI l2), some (vI l3), some (vI l4)]) (st' := [vI l2, vI (zV (zsetV h 137 9 0) 137 15), vR (some 145)]) (h' := (zsetV h 137 9 0)) f155_154 rfl ?_
        refine y_is (pc' := 156) (h' := (zsetV (zsetV h 137 9 0) 145 ((zV (zsetV h 137 9 0) 137 15)).toNat l2)) f155_155 (ys145 w) (by decide) k.1 rfl rfl ?_
        replace k := k.2
        generalize e_156 : (zsetV (zsetV h 137 9 0) 145 ((zV (zsetV h 137 9 0) 137 15)).toNat l2) = h_156
        replace k := k _ e_156
        have w : yWF zl nl h_156 := by rw [← e_156]; exact w
        refine y_s (pc' := 157) (L' := [some (vR (some 137)), some (vI l1), some (vI l2), some (vI l3), some (vI l4)]) (st' := [vR (some 137)]) (h' := h_156) f155_156 rfl ?_
        refine y_s (pc' := 158) (L' := [some (vR (some 137)), some (vI l1), some (vI l2), some (vI l3), some (vI l4)]) (st' := [vR (some 137), vR (some 137)]) (h' := h_156) f155_157 rfl ?_
        refine y_gi (pc' := 161) f155_158 yf_8_229 rfl rfl (ys137 w) rfl ?_
        refine y_pi (pc' := 164) f155_161 yf_8_110 rfl rfl (ys137 w) (by decide) (Or.inl rfl) rfl ?_
        refine y_s (pc' := 165) (L' := [some (vR (some 137)), some (vI l1), some (vI l2), some (vI l3), some (vI l4)]) (st' := [vR (some 137)]) (h' := (zsetV h_156 137 16 (zV h_156 137 15))) f155_164 rfl ?_
        refine y_s (pc' := 166) (L' := [some (vR (some 137)), some (vI l1), some (vI l2), some (vI l3), some (vI l4)]) (st' := [vR (some 137), vR (some 137)]) (h' := (zsetV h_156 137 16 (zV h_156 137 15))) f155_165 rfl ?_
        refine y_gi (pc' := 169) f155_166 yf_8_229 rfl rfl (ys137 w) rfl ?_
        refine y_s (pc' := 170) (L' := [some (vR (some 137)), some (vI l1), some (vI l2), some (vI l3), some (vI l4)]) (st' := [vI (zV (zsetV h_156 137 16 (zV h_156 137 15)) 137 15), vR (some 137), vI (zV (zsetV h_156 137 16 (zV h_156 137 15)) 137 15)]) (h' := (zsetV h_156 137 16 (zV h_156 137 15))) f155_169 rfl ?_
        refine y_s (pc' := 171) (L' := [some (vR (some 137)), some (vI l1), some (vI l2), some (vI l3), some (vI l4)]) (st' := [vI 1, vI (zV (zsetV h_156 137 16 (zV h_156 137 15)) 137 15), vR (some 137), vI (zV (zsetV h_156 137 16 (zV h_156 137 15)) 137 15)]) (h' := (zsetV h_156 137 16 (zV h_156 137 15))) f155_170 rfl ?_
        refine y_s (pc' := 172) (L' := [some (vR (some 137)), some (vI l1), some (vI l2), some (vI l3), some (vI l4)]) (st' := [vI (zw ((zV (zsetV h_156 137 16 (zV h_156 137 15)) 137 15) + 1)), vR (some 137), vI (zV (zsetV h_156 137 16 (zV h_156 137 15)) 137 15)]) (h' := (zsetV h_156 137 16 (zV h_156 137 15))) f155_171 rfl ?_
        refine y_pi (pc' := 175) f155_172 yf_8_229 rfl rfl (ys137 w) (by decide) (Or.inl rfl) rfl ?_
        generalize e_175 : (zsetV (zsetV h_156 137 16 (zV h_156 137 15)) 137 15 (zw ((zV (zsetV h_156 137 16 (zV h_156 137 15)) 137 15) + 1))) = h_175
        replace k := k _ e_175
        have w : yWF zl nl h_175 := by rw [← e_175]; exact w
        exact y_ri f155_175 ⟨rfl, k⟩
      · replace k := k.2 c
        refine y_s (pc' := 134) (L' := [some (vR (some 137)), some (vI l1), some (vI l2), some (vI l3), some (vI l4)]) (st' := [vR (some 137)]) (h' := (zsetV h 137 9 0)) f155_133 rfl ?_
        refine y_s (pc' := 135) (L' := [some (vR (some 137)), some (vI l1), some (vI l2), some (vI l3), some (vI l4)]) (st' := [vI l1, vR (some 137)]) (h' := (zsetV h 137 9 0)) f155_134 rfl ?_
        refine y_pi (pc' := 138) f155_135 yf_8_185 rfl rfl (ys137 w) (by decide) (Or.inl rfl) rfl ?_
        generalize e_138 : (zsetV (zsetV h 137 9 0) 137 23 l1) = h_138
        replace k := k _ e_138
        have w : yWF zl nl h_138 := by rw [← e_138]; exact w
        refine y_s (pc' := 140) (L' := [some (vR (some 137)), some (vI l1), some (vI l2), some (vI l3), some (vI l4)]) (st' := [vI (-10)]) (h' := h_138) f155_138 rfl ?_
        refine y_s (pc' := 141) (L' := [some (vR (some 137)), some (vI l1), some (vI l2), some (vI l3), some (vI l4)]) (st' := [vR (some 137), vI (-10)]) (h' := h_138) f155_140 rfl ?_
        refine y_gi (pc' := 144) f155_141 yf_8_160 rfl rfl (ys137 w) rfl ?_
        refine y_s (pc' := 145) (L' := [some (vR (some 137)), some (vI l1), some (vI l2), some (vI l3), some (vI l4)]) (st' := [vI (zw ((-10) - (zV h_138 137 11)))]) (h' := h_138) f155_144 rfl ?_
        exact y_ri f155_145 ⟨rfl, k⟩
    · replace k := k.2 c
      refine y_s (pc' := 39) (L' := [some (vR (some 137)), some (vI l1), some (vI l2), some (vI l3), some (vI l4)]) (st' := [vI l2]) (h' := h) f155_38 rfl ?_
      refine y_s (pc' := 41) (L' := [some (vR (some 137)), some (vI l1), some (vI l2), some (vI l3), some (vI l4)]) (st' := [vI 10, vI l2]) (h' := h) f155_39 rfl ?_
      refine y_ic (pcT := 64) (pc' := 44) (P := 10 ≤ l2) f155_41 rfl rfl rfl (fun c => ?_) (fun c => ?_)
      · replace k := k.1 c
        refine y_s (pc' := 65) (L' := [some (vR (some 137)), some (vI l1), some (vI l2), some (vI l3), some (vI l4)]) (st' := [vI 0]) (h' := h) f155_64 rfl ?_
        refine y_sto (pc' := 66) (k := 3) (L' := [some (vR (some 137)), some (vI l1), some (vI l2), some (vI 0), some (vI l4)]) f155_65 rfl rfl rfl rfl rfl rfl ?_
        refine y_s (pc' := 67) (L' := [some (vR (some 137)), some (vI l1), some (vI l2), some (vI 0), some (vI l4)]) (st' := [vI 0]) (h' := h) f155_66 rfl ?_
        refine y_iff (pcT := 73) (pc' := 70) f155_67 rfl rfl rfl ?_
        refine y_go (pc' := 29) f155_70 rfl ?_
        exact k
      · replace k := k.2 c
        refine y_s (pc' := 45) (L' := [some (vR (some 137)), some (vI l1), some (vI l2), some (vI l3), some (vI l4)]) (st' := [vR (some 137)]) (h' := h) f155_44 rfl ?_
        refine y_s (pc' := 47) (L' := [some (vR (some 137)), some (vI l1), some (vI l2), some (vI l3), some (vI l4)]) (st' := [vI 10, vR (some 137)]) (h' := h) f155_45 rfl ?_
        refine y_s (pc' := 48) (L' := [some (vR (some 137)), some (vI l1), some (vI l2), some (vI l3), some (vI l4)]) (st' := [vR (some 137), vI 10, vR (some 137)]) (h' := h) f155_47 rfl ?_
        refine y_gi (pc' := 51) f155_48 yf_8_229 rfl rfl (ys137 w) rfl ?_
        refine y_s (pc' := 52) (L' := [some (vR (some 137)), some (vI l1), some (vI l2), some (vI l3), some (vI l4)]) (st' := [vI (zw (10 * (zV h 137 15))), vR (some 137)]) (h' := h) f155_51 rfl ?_
        refine y_s (pc' := 53) (L' := [some (vR (some 137)), some (vI l1), some (vI l2), some (vI l3), some (vI l4)]) (st' := [vI l2, vI (zw (10 * (zV h 137 15))), vR (some 137)]) (h' := h) f155_52 rfl ?_
        refine y_s (pc' := 54) (L' := [some (vR (some 137)), some (vI l1), some (vI l2), some (vI l3), some (vI l4)]) (st' := [vI (zw ((zw (10 * (zV h 137 15))) + l2)), vR (some 137)]) (h' := h) f155_53 rfl ?_
        refine y_cI (pc' := 57) (as := [vR (some 137), vI (zw ((zw (10 * (zV h 137 15))) + l2))]) (r := []) f155_54 (yzv ym_8_232 rfl (ys137 w) rfl rfl) (by omega) rfl ?_
        exact k
theorem W155_57 {d : Nat} {K : Int → Hp → Prop} (w : yWF zl nl h) {l1 : Int} {l2 : Int} {l3 : Int} {l4 : Int} {s0 : Int} (hd : 1 ≤ d) (k : ((s0 = 0 → ZW d prog_10_method_23_code 8 29 [some (vR (some 137)), some (vI l1), some (vI l2), some (vI 0), some (vI l4)] [] h (yq 1 (yqI K))) ∧ (¬ (s0 = 0) → (((zV h 137 11) ≠ (zV h 137 9) → ((10 ≤ (zw (l2 + 1)) → ZW d prog_10_method_23_code 8 29 [some (vR (some 137)), some (vI l1), some (vI (zw (l2 + 1))), some (vI 0), some (vI 0)] [] h (yq 1 (yqI K))) ∧ (¬ (10 ≤ (zw (l2 + 1))) → yI (d - 1) 158 [vR (some 137), vI 59] h (fun x h' => ZW d prog_10_method_23_code 8 111 [some (vR (some 137)), some (vI l1), some (vI (zw (l2 + 1))), some (vI 1), some (vI 0)] [vI x] h' (yq 1 (yqI K)))))) ∧ (¬ ((zV h 137 11) ≠ (zV h 137 9)) → ZW d prog_10_method_23_code 8 29 [some (vR (some 137)), some (vI l1), some (vI (zw (l2 + 1))), some (vI 1), some (vI 1)] [] h (yq 1 (yqI K))))))) : ZW d prog_10_method_23_code 8 57 [some (vR (some 137)), some (vI l1), some (vI l2), some (vI l3), some (vI l4)] [vI s0] h (yq 1 (yqI K)) := by
  refine y_if (pcT := 64) (pc' := 60) (P := s0 = 0) f155_57 rfl rfl rfl (fun c => ?_) (fun c => ?_)
  · replace k := k.1 c
    refine y_s (pc' := 65) (L' := [some (vR (some 137)), some (vI l1), some (vI l2), some (vI l3), some (vI l4)]) (st' := [vI 0]) (h' := h) f155_64 rfl ?_
    refine y_sto (pc' := 66) (k := 3) (L' := [some (vR (some 137)), some (vI l1), some (vI l2), some (vI 0), some (vI l4)]) f155_65 rfl rfl rfl rfl rfl rfl ?_
    refine y_s (pc' := 67) (L' := [some (vR (some 137)), some (vI l1), some (vI l2), some (vI 0), some (vI l4)]) (st' := [vI 0]) (h' := h) f155_66 rfl ?_
    refine y_iff (pcT := 73) (pc' := 70) f155_67 rfl rfl rfl ?_
    refine y_go (pc' := 29) f155_70 rfl ?_
    exact k
  · replace k := k.2 c
    refine y_s (pc' := 61) (L' := [some (vR (some 137)), some (vI l1), some (vI l2), some (vI l3), some (vI l4)]) (st' := [vI 1]) (h' := h) f155_60 rfl ?_
    refine y_go (pc' := 65) f155_61 rfl ?_
    refine y_sto (pc' := 66) (k := 3) (L' := [some (vR (some 137)), some (vI l1), some (vI l2), some (vI 1), some (vI l4)]) f155_65 rfl rfl rfl rfl rfl rfl ?_
    refine y_s (pc' := 67) (L' := [some (vR (some 137)), some (vI l1), some (vI l2), some (vI 1), some (vI l4)]) (st' := [vI 1]) (h' := h) f155_66 rfl ?_
    refine y_ift (pcT := 73) f155_67 rfl rfl ?_
    refine y_inc (pc' := 76) (L' := [some (vR (some 137)), some (vI l1), some (vI (zw (l2 + 1))), some (vI 1), some (vI l4)]) f155_73 rfl rfl rfl rfl ?_
    refine y_s (pc' := 77) (L' := [some (vR (some 137)), some (vI l1), some (vI (zw (l2 + 1))), some (vI 1), some (vI l4)]) (st' := [vR (some 137)]) (h' := h) f155_76 rfl ?_
    refine y_gi (pc' := 80) f155_77 yf_8_160 rfl rfl (ys137 w) rfl ?_
    refine y_s (pc' := 81) (L' := [some (vR (some 137)), some (vI l1), some (vI (zw (l2 + 1))), some (vI 1), some (vI l4)]) (st' := [vR (some 137), vI (zV h 137 11)]) (h' := h) f155_80 rfl ?_
    refine y_gi (pc' := 84) f155_81 yf_8_157 rfl rfl (ys137 w) rfl ?_
    refine y_ic (pcT := 91) (pc' := 87) (P := (zV h 137 11) ≠ (zV h 137 9)) f155_84 rfl rfl rfl (fun c => ?_) (fun c => ?_)
    · replace k := k.1 c
      refine y_s (pc' := 92) (L' := [some (vR (some 137)), some (vI l1), some (vI (zw (l2 + 1))), some (vI 1), some (vI l4)]) (st' := [vI 0]) (h' := h) f155_91 rfl ?_
      refine y_sto (pc' := 94) (k := 4) (L' := [some (vR (some 137)), some (vI l1), some (vI (zw (l2 + 1))), some (vI 1), some (vI 0)]) f155_92 rfl rfl rfl rfl rfl rfl ?_
      refine y_s (pc' := 96) (L' := [some (vR (some 137)), some (vI l1), some (vI (zw (l2 + 1))), some (vI 1), some (vI 0)]) (st' := [vI 0]) (h' := h) f155_94 rfl ?_
      refine y_iff (pcT := 114) (pc' := 99) f155_96 rfl rfl rfl ?_
      refine y_s (pc' := 100) (L' := [some (vR (some 137)), some (vI l1), some (vI (zw (l2 + 1))), some (vI 1), some (vI 0)]) (st' := [vI (zw (l2 + 1))]) (h' := h) f155_99 rfl ?_
      refine y_s (pc' := 102) (L' := [some (vR (some 137)), some (vI l1), some (vI (zw (l2 + 1))), some (vI 1), some (vI 0)]) (st' := [vI 10, vI (zw (l2 + 1))]) (h' := h) f155_100 rfl ?_
      refine y_ic (pcT := 118) (pc' := 105) (P := 10 ≤ (zw (l2 + 1))) f155_102 rfl rfl rfl (fun c => ?_) (fun c => ?_)
      · replace k := k.1 c
        refine y_s (pc' := 119) (L' := [some (vR (some 137)), some (vI l1), some (vI (zw (l2 + 1))), some (vI 1), some (vI 0)]) (st' := [vI 0]) (h' := h) f155_118 rfl ?_
        refine y_sto (pc' := 120) (k := 3) (L' := [some (vR (some 137)), some (vI l1), some (vI (zw (l2 + 1))), some (vI 0), some (vI 0)]) f155_119 rfl rfl rfl rfl rfl rfl ?_
        refine y_go (pc' := 29) f155_120 rfl ?_
        exact k
      · replace k := k.2 c
        refine y_s (pc' := 106) (L' := [some (vR (some 137)), some (vI l1), some (vI (zw (l2 + 1))), some (vI 1), some (vI 0)]) (st' := [vR (some 137)]) (h' := h) f155_105 rfl ?_
        refine y_s (pc' := 108) (L' := [some (vR (some 137)), some (vI l1), some (vI (zw (l2 + 1))), some (vI 1), some (vI 0)]) (st' := [vI 59, vR (some 137)]) (h' := h) f155_106 rfl ?_
        refine y_cI (pc' := 111) (as := [vR (some 137), vI 59]) (r := []) f155_108 (yzv ym_8_182 rfl (ys137 w) rfl rfl) (by omega) rfl ?_
        exact k
    · replace k := k.2 c
      refine y_s (pc' := 88) (L' := [some (vR (some 137)), some (vI l1), some (vI (zw (l2 + 1))), some (vI 1), some (vI l4)]) (st' := [vI 1]) (h' := h) f155_87 rfl ?_
      refine y_go (pc' := 92) f155_88 rfl ?_
      refine y_sto (pc' := 94) (k := 4) (L' := [some (vR (some 137)), some (vI l1), some (vI (zw (l2 + 1))), some (vI 1), some (vI 1)]) f155_92 rfl rfl rfl rfl rfl rfl ?_
      refine y_s (pc' := 96) (L' := [some (vR (some 137)), some (vI l1), some (vI (zw (l2 + 1))), some (vI 1), some (vI 1)]) (st' := [vI 1]) (h' := h) f155_94 rfl ?_
      refine y_ift (pcT := 114) f155_96 rfl rfl ?_
      refine y_s (pc' := 115) (L' := [some (vR (some 137)), some (vI l1), some (vI (zw (l2 + 1))), some (vI 1), some (vI 1)]) (st' := [vI 1]) (h' := h) f155_114 rfl ?_
      refine y_go (pc' := 119) f155_115 rfl ?_
      refine y_sto (pc' := 120) (k := 3) (L' := [some (vR (some 137)), some (vI l1), some (vI (zw (l2 + 1))), some (vI 1), some (vI 1)]) f155_119 rfl rfl rfl rfl rfl rfl ?_
      refine y_go (pc' := 29) f155_120 rfl ?_
      exact k
theorem W155_111 {d : Nat} {K : Int → Hp → Prop} (w : yWF zl nl h) {l1 : Int} {l2 : Int} {l3 : Int} {l4 : Int} {s0 : Int} (k : ((s0 = 0 → ZW d prog_10_method_23_code 8 29 [some (vR (some 137)), some (vI l1), some (vI l2), some (vI 0), some (vI l4)] [] h (yq 1 (yqI K))) ∧ (¬ (s0 = 0) → ZW d prog_10_method_23_code 8 29 [some (vR (some 137)), some (vI l1), some (vI l2), some (vI 1), some (vI l4)] [] h (yq 1 (yqI K))))) : ZW d prog_10_method_23_code 8 111 [some (vR (some 137)), some (vI l1), some (vI l2), some (vI l3), some (vI l4)] [vI s0] h (yq 1 (yqI K)) := by
  refine y_if (pcT := 118) (pc' := 114) (P := s0 = 0) f155_111 rfl rfl rfl (fun c => ?_) (fun c => ?_)
  · replace k := k.1 c
    refine y_s (pc' := 119) (L' := [some (vR (some 137)), some (vI l1), some (vI l2), some (vI l3), some (vI l4)]) (st' := [vI 0]) (h' := h) f155_118 rfl ?_
    refine y_sto (pc' := 120) (k := 3) (L' := [some (vR (some 137)), some (vI l1), some (vI l2), some (vI 0), some (vI l4)]) f155_119 rfl rfl rfl rfl rfl rfl ?_
    refine y_go (pc' := 29) f155_120 rfl ?_
    exact k
  · replace k := k.2 c
    refine y_s (pc' := 115) (L' := [some (vR (some 137)), some (vI l1), some (vI l2), some (vI l3), some (vI l4)]) (st' := [vI 1]) (h' := h) f155_114 rfl ?_
    refine y_go (pc' := 119) f155_115 rfl ?_
    refine y_sto (pc' := 120) (k := 3) (L' := [some (vR (some 137)), some (vI l1), some (vI l2), some (vI 1), some (vI l4)]) f155_119 rfl rfl rfl rfl rfl rfl ?_
    refine y_go (pc' := 29) f155_120 rfl ?_
    exact k
/-- HatterTunesModel.isClause(I)Z -/
theorem E156 {d : Nat} {K : Int → Hp → Prop} (w : yWF zl nl h) {x0 : Int} (hd : 1 ≤ d) (k : (((zV h 137 9) ≤ (zV h 137 11) → (((-1) ≠ 1 → (((-1) ≠ 2 → K 0 h) ∧ (¬ ((-1) ≠ 2) → yI (d - 1) 157 [vR (some 137), vR (some (14))] h (fun x h' => ZW d prog_10_method_22_code 8 107 [some (vR (some 137)), some (vI x0), some (vI (-1)), none] [vI x] h' (yq 2 (yqI K)))))) ∧ (¬ ((-1) ≠ 1) → yI (d - 1) 157 [vR (some 137), vR (some (12))] h (fun x h' => ZW d prog_10_method_22_code 8 93 [some (vR (some 137)), some (vI x0), some (vI (-1)), none] [vI x] h' (yq 2 (yqI K)))))) ∧ (¬ ((zV h 137 9) ≤ (zV h 137 11)) → ((0 ≤ (zV h 137 11) ∧ (zV h 137 11) < 100) ∧ (((zV h 144 ((zV h 137 11)).toNat) ≠ 115 → ((0 ≤ (zV h 137 11) ∧ (zV h 137 11) < 100) ∧ (((zV h 144 ((zV h 137 11)).toNat) ≠ 102 → ((0 ≤ (zV h 137 11) ∧ (zV h 137 11) < 100) ∧ (((zV h 144 ((zV h 137 11)).toNat) ≠ 103 → (((-1) ≠ 1 → (((-1) ≠ 2 → K 0 h) ∧ (¬ ((-1) ≠ 2) → yI (d - 1) 157 [vR (some 137), vR (some (14))] h (fun x h' => ZW d prog_10_method_22_code 8 107 [some (vR (some 137)), some (vI x0), some (vI (-1)), none] [vI x] h' (yq 2 (yqI K)))))) ∧ (¬ ((-1) ≠ 1) → yI (d - 1) 157 [vR (some 137), vR (some (12))] h (fun x h' => ZW d prog_10_method_22_code 8 93 [some (vR (some 137)), some (vI x0), some (vI (-1)), none] [vI x] h' (yq 2 (yqI K)))))) ∧ (¬ ((zV h 144 ((zV h 137 11)).toNat) ≠ 103) → ((2 ≠ 1 → ((2 ≠ 2 → K 0 h) ∧ (¬ (2 ≠ 2) → yI (d - 1) 157 [vR (some 137), vR (some (14))] h (fun x h' => ZW d prog_10_method_22_code 8 107 [some (vR (some 137)), some (vI x0), some (vI 2), none] [vI x] h' (yq 2 (yqI K)))))) ∧ (¬ (2 ≠ 1) → yI (d - 1) 157 [vR (some 137), vR (some (12))] h (fun x h' => ZW d prog_10_method_22_code 8 93 [some (vR (some 137)), some (vI x0), some (vI 2), none] [vI x] h' (yq 2 (yqI K))))))))) ∧ (¬ ((zV h 144 ((zV h 137 11)).toNat) ≠ 102) → ((1 ≠ 1 → ((1 ≠ 2 → K 0 h) ∧ (¬ (1 ≠ 2) → yI (d - 1) 157 [vR (some 137), vR (some (14))] h (fun x h' => ZW d prog_10_method_22_code 8 107 [some (vR (some 137)), some (vI x0), some (vI 1), none] [vI x] h' (yq 2 (yqI K)))))) ∧ (¬ (1 ≠ 1) → yI (d - 1) 157 [vR (some 137), vR (some (12))] h (fun x h' => ZW d prog_10_method_22_code 8 93 [some (vR (some 137)), some (vI x0), some (vI 1), none] [vI x] h' (yq 2 (yqI K))))))))) ∧ (¬ ((zV h 144 ((zV h 137 11)).toNat) ≠ 115) → yI (d - 1) 157 [vR (some 137), vR (some (10))] h (fun x h' => ZW d prog_10_method_22_code 8 79 [some (vR (some 137)), some (vI x0), some (vI 0), none] [vI x] h' (yq 2 (yqI K))))))))) : yI d 156 [vR (some 137), vI x0] h K := by
  refine y_en (L := [some (vR (some 137)), some (vI x0), none, none]) rfl rfl ?_
  refine y_s (pc' := 1) (L' := [some (vR (some 137)), some (vI x0), none, none]) (st' := [vI (-1)]) (h' := h) f156_0 rfl ?_
  refine y_sto (pc' := 2) (k := 2) (L' := [some (vR (some 137)), some (vI x0), some (vI (-1)), none]) f156_1 rfl rfl rfl rfl rfl rfl ?_
  refine y_s (pc' := 3) (L' := [some (vR (some 137)), some (vI x0), some (vI (-1)), none]) (st' := [vR (some 137)]) (h' := h) f156_2 rfl ?_
  refine y_gi (pc' := 6) f156_3 yf_8_160 rfl rfl (ys137 w) rfl ?_
  refine y_s (pc' := 7) (L' := [some (vR (some 137)), some (vI x0), some (vI (-1)), none]) (st' := [vR (some 137), vI (zV h 137 11)]) (h' := h) f156_6 rfl ?_
  refine y_gi (pc' := 10) f156_7 yf_8_157 rfl rfl (ys137 w) rfl ?_
  refine y_ic (pcT := 69) (pc' := 13) (P := (zV h 137 9) ≤ (zV h 137 11)) f156_10 rfl rfl rfl (fun c => ?_) (fun c => ?_)
  · replace k := k.1 c
    refine y_s (pc' := 70) (L' := [some (vR (some 137)), some (vI x0), some (vI (-1)), none]) (st' := [vI (-1)]) (h' := h) f156_69 rfl ?_
    refine y_ift (pcT := 82) f156_70 rfl rfl ?_
    refine y_s (pc' := 83) (L' := [some (vR (some 137)), some (vI x0), some (vI (-1)), none]) (st' := [vI (-1)]) (h' := h) f156_82 rfl ?_
    refine y_s (pc' := 84) (L' := [some (vR (some 137)), some (vI x0), some (vI (-1)), none]) (st' := [vI 1, vI (-1)]) (h' := h) f156_83 rfl ?_
    refine y_ic (pcT := 96) (pc' := 87) (P := (-1) ≠ 1) f156_84 rfl rfl rfl (fun c => ?_) (fun c => ?_)
    · replace k := k.1 c
      refine y_s (pc' := 97) (L' := [some (vR (some 137)), some (vI x0), some (vI (-1)), none]) (st' := [vI (-1)]) (h' := h) f156_96 rfl ?_
      refine y_s (pc' := 98) (L' := [some (vR (some 137)), some (vI x0), some (vI (-1)), none]) (st' := [vI 2, vI (-1)]) (h' := h) f156_97 rfl ?_
      refine y_ic (pcT := 114) (pc' := 101) (P := (-1) ≠ 2) f156_98 rfl rfl rfl (fun c => ?_) (fun c => ?_)
      · replace k := k.1 c
        refine y_s (pc' := 115) (L' := [some (vR (some 137)), some (vI x0), some (vI (-1)), none]) (st' := [vI 0]) (h' := h) f156_114 rfl ?_
        refine y_sto (pc' := 116) (k := 3) (L' := [some (vR (some 137)), some (vI x0), some (vI (-1)), some (vI 0)]) f156_115 rfl rfl rfl rfl rfl rfl ?_
        refine y_s (pc' := 117) (L' := [some (vR (some 137)), some (vI x0), some (vI (-1)), some (vI 0)]) (st' := [vI 0]) (h' := h) f156_116 rfl ?_
        refine y_ift (pcT := 127) f156_117 rfl rfl ?_
        refine y_s (pc' := 128) (L' := [some (vR (some 137)), some (vI x0), some (vI (-1)), some (vI 0)]) (st' := [vI 0]) (h' := h) f156_127 rfl ?_
        exact y_ri f156_128 ⟨rfl, k⟩
      · replace k := k.2 c
        refine y_s (pc' := 102) (L' := [some (vR (some 137)), some (vI x0), some (vI (-1)), none]) (st' := [vR (some 137)]) (h' := h) f156_101 rfl ?_
        refine y_s (pc' := 104) (L' := [some (vR (some 137)), some (vI x0), some (vI (-1)), none]) (st' := [vR (some (14)), vR (some 137)]) (h' := h) f156_102 rfl ?_
        refine y_cI (pc' := 107) (as := [vR (some 137), vR (some (14))]) (r := []) f156_104 (yzv ym_8_221 rfl (ys137 w) rfl rfl) (by omega) rfl ?_
        exact k
    · replace k := k.2 c
      refine y_s (pc' := 88) (L' := [some (vR (some 137)), some (vI x0), some (vI (-1)), none]) (st' := [vR (some 137)]) (h' := h) f156_87 rfl ?_
      refine y_s (pc' := 90) (L' := [some (vR (some 137)), some (vI x0), some (vI (-1)), none]) (st' := [vR (some (12)), vR (some 137)]) (h' := h) f156_88 rfl ?_
      refine y_cI (pc' := 93) (as := [vR (some 137), vR (some (12))]) (r := []) f156_90 (yzv ym_8_221 rfl (ys137 w) rfl rfl) (by omega) rfl ?_
      exact k
  · replace k := k.2 c
    refine y_s (pc' := 14) (L' := [some (vR (some 137)), some (vI x0), some (vI (-1)), none]) (st' := [vR (some 137)]) (h' := h) f156_13 rfl ?_
    refine y_gr (pc' := 17) f156_14 yf_8_30 rfl rfl (ys137 w) (yp137_10 w) rfl ?_
    refine y_s (pc' := 18) (L' := [some (vR (some 137)), some (vI x0), some (vI (-1)), none]) (st' := [vR (some 137), vR (some 144)]) (h' := h) f156_17 rfl ?_
    refine y_gi (pc' := 21) f156_18 yf_8_160 rfl rfl (ys137 w) rfl ?_
    refine y_ia (pc' := 22) (x := (zV h 144 ((zV h 137 11)).toNat)) f156_21 (ys144 w) k.1 rfl rfl ?_
    replace k := k.2
    refine y_s (pc' := 24) (L' := [some (vR (some 137)), some (vI x0), some (vI (-1)), none]) (st' := [vI 115, vI (zV h 144 ((zV h 137 11)).toNat)]) (h' := h) f156_22 rfl ?_
    refine y_ic (pcT := 31) (pc' := 27) (P := (zV h 144 ((zV h 137 11)).toNat) ≠ 115) f156_24 rfl rfl rfl (fun c => ?_) (fun c => ?_)
    · replace k := k.1 c
      refine y_s (pc' := 32) (L' := [some (vR (some 137)), some (vI x0), some (vI (-1)), none]) (st' := [vR (some 137)]) (h' := h) f156_31 rfl ?_
      refine y_gr (pc' := 35) f156_32 yf_8_30 rfl rfl (ys137 w) (yp137_10 w) rfl ?_
      refine y_s (pc' := 36) (L' := [some (vR (some 137)), some (vI x0), some (vI (-1)), none]) (st' := [vR (some 137), vR (some 144)]) (h' := h) f156_35 rfl ?_
      refine y_gi (pc' := 39) f156_36 yf_8_160 rfl rfl (ys137 w) rfl ?_
      refine y_ia (pc' := 40) (x := (zV h 144 ((zV h 137 11)).toNat)) f156_39 (ys144 w) k.1 rfl rfl ?_
      replace k := k.2
      refine y_s (pc' := 42) (L' := [some (vR (some 137)), some (vI x0), some (vI (-1)), none]) (st' := [vI 102, vI (zV h 144 ((zV h 137 11)).toNat)]) (h' := h) f156_40 rfl ?_
      refine y_ic (pcT := 49) (pc' := 45) (P := (zV h 144 ((zV h 137 11)).toNat) ≠ 102) f156_42 rfl rfl rfl (fun c => ?_) (fun c => ?_)
      · replace k := k.1 c
        refine y_s (pc' := 50) (L' := [some (vR (some 137)), some (vI x0), some (vI (-1)), none]) (st' := [vR (some 137)]) (h' := h) f156_49 rfl ?_
        refine y_gr (pc' := 53) f156_50 yf_8_30 rfl rfl (ys137 w) (yp137_10 w) rfl ?_
        refine y_s (pc' := 54) (L' := [some (vR (some 137)), some (vI x0), some (vI (-1)), none]) (st' := [vR (some 137), vR (some 144)]) (h' := h) f156_53 rfl ?_
        refine y_gi (pc' := 57) f156_54 yf_8_160 rfl rfl (ys137 w) rfl ?_
        refine y_ia (pc' := 58) (x := (zV h 144 ((zV h 137 11)).toNat)) f156_57 (ys144 w) k.1 rfl rfl ?_
        replace k := k.2
        refine y_s (pc' := 60) (L' := [some (vR (some 137)), some (vI x0), some (vI (-1)), none]) (st' := [vI 103, vI (zV h 144 ((zV h 137 11)).toNat)]) (h' := h) f156_58 rfl ?_
        refine y_ic (pcT := 67) (pc' := 63) (P := (zV h 144 ((zV h 137 11)).toNat) ≠ 103) f156_60 rfl rfl rfl (fun c => ?_) (fun c => ?_)
        · replace k := k.1 c
          refine y_s (pc' := 68) (L' := [some (vR (some 137)), some (vI x0), some (vI (-1)), none]) (st' := [vI (-1)]) (h' := h) f156_67 rfl ?_
          refine y_sto (pc' := 69) (k := 2) (L' := [some (vR (some 137)), some (vI x0), some (vI (-1)), none]) f156_68 rfl rfl rfl rfl rfl rfl ?_
          refine y_s (pc' := 70) (L' := [some (vR (some 137)), some (vI x0), some (vI (-1)), none]) (st' := [vI (-1)]) (h' := h) f156_69 rfl ?_
          refine y_ift (pcT := 82) f156_70 rfl rfl ?_
          refine y_s (pc' := 83) (L' := [some (vR (some 137)), some (vI x0), some (vI (-1)), none]) (st' := [vI (-1)]) (h' := h) f156_82 rfl ?_
          refine y_s (pc' := 84) (L' := [some (vR (some 137)), some (vI x0), some (vI (-1)), none]) (st' := [vI 1, vI (-1)]) (h' := h) f156_83 rfl ?_
          refine y_ic (pcT := 96) (pc' := 87) (P := (-1) ≠ 1) f156_84 rfl rfl rfl (fun c => ?_) (fun c => ?_)
          · replace k := k.1 c
            refine y_s (pc' := 97) (L' := [some (vR (some 137)), some (vI x0), some (vI (-1)), none]) (st' := [vI (-1)]) (h' := h) f156_96 rfl ?_
            refine y_s (pc' := 98) (L' := [some (vR (some 137)), some (vI x0), some (vI (-1)), none]) (st' := [vI 2, vI (-1)]) (h' := h) f156_97 rfl ?_
            refine y_ic (pcT := 114) (pc' := 101) (P := (-1) ≠ 2) f156_98 rfl rfl rfl (fun c => ?_) (fun c => ?_)
            · replace k := k.1 c
              refine y_s (pc' := 115) (L' := [some (vR (some 137)), some (vI x0), some (vI (-1)), none]) (st' := [vI 0]) (h' := h) f156_114 rfl ?_
              refine y_sto (pc' := 116) (k := 3) (L' := [some (vR (some 137)), some (vI x0), some (vI (-1)), some (vI 0)]) f156_115 rfl rfl rfl rfl rfl rfl ?_
              refine y_s (pc' := 117) (L' := [some (vR (some 137)), some (vI x0), some (vI (-1)), some (vI 0)]) (st' := [vI 0]) (h' := h) f156_116 rfl ?_
              refine y_ift (pcT := 127) f156_117 rfl rfl ?_
              refine y_s (pc' := 128) (L' := [some (vR (some 137)), some (vI x0), some (vI (-1)), some (vI 0)]) (st' := [vI 0]) (h' := h) f156_127 rfl ?_
              exact y_ri f156_128 ⟨rfl, k⟩
            · replace k := k.2 c
              refine y_s (pc' := 102) (L' := [some (vR (some 137)), some (vI x0), some (vI (-1)), none]) (st' := [vR (some 137)]) (h' := h) f156_101 rfl ?_
              refine y_s (pc' := 104) (L' := [some (vR (some 137)), some (vI x0), some (vI (-1)), none]) (st' := [vR (some (14)), vR (some 137)]) (h' := h) f156_102 rfl ?_
              refine y_cI (pc' := 107) (as := [vR (some 137), vR (some (14))]) (r := []) f156_104 (yzv ym_8_221 rfl (ys137 w) rfl rfl) (by omega) rfl ?_
              exact k
          · replace k := k.2 c
            refine y_s (pc' := 88) (L' := [some (vR (some 137)), some (vI x0), some (vI (-1)), none]) (st' := [vR (some 137)]) (h' := h) f156_87 rfl ?_
            refine y_s (pc' := 90) (L' := [some (vR (some 137)), some (vI x0), some (vI (-1)), none]) (st' := [vR (some (12)), vR (some 137)]) (h' := h) f156_88 rfl ?_
            refine y_cI (pc' := 93) (as := [vR (some 137), vR (some (12))]) (r := []) f156_90 (yzv ym_8_221 rfl (ys137 w) rfl rfl) (by omega) rfl ?_
            exact k
        · replace k := k.2 c
          refine y_s (pc' := 64) (L' := [some (vR (some 137)), some (vI x0), some (vI (-1)), none]) (st' := [vI 2]) (h' := h) f156_63 rfl ?_
          refine y_go (pc' := 68) f156_64 rfl ?_
          refine y_sto (pc' := 69) (k := 2) (L' := [some (vR (some 137)), some (vI x0), some (vI 2), none]) f156_68 rfl rfl rfl rfl rfl rfl ?_
          refine y_s (pc' := 70) (L' := [some (vR (some 137)), some (vI x0), some (vI 2), none]) (st' := [vI 2]) (h' := h) f156_69 rfl ?_
          refine y_ift (pcT := 82) f156_70 rfl rfl ?_
          refine y_s (pc' := 83) (L' := [some (vR (some 137)), some (vI x0), some (vI 2), none]) (st' := [vI 2]) (h' := h) f156_82 rfl ?_
          refine y_s (pc' := 84) (L' := [some (vR (some 137)), some (vI x0), some (vI 2), none]) (st' := [vI 1, vI 2]) (h' := h) f156_83 rfl ?_
          refine y_ic (pcT := 96) (pc' := 87) (P := 2 ≠ 1) f156_84 rfl rfl rfl (fun c => ?_) (fun c => ?_)
          · replace k := k.1 c
            refine y_s (pc' := 97) (L' := [some (vR (some 137)), some (vI x0), some (vI 2), none]) (st' := [vI 2]) (h' := h) f156_96 rfl ?_
            refine y_s (pc' := 98) (L' := [some (vR (some 137)), some (vI x0), some (vI 2), none]) (st' := [vI 2, vI 2]) (h' := h) f156_97 rfl ?_
            refine y_ic (pcT := 114) (pc' := 101) (P := 2 ≠ 2) f156_98 rfl rfl rfl (fun c => ?_) (fun c => ?_)
            · replace k := k.1 c
              refine y_s (pc' := 115) (L' := [some (vR (some 137)), some (vI x0), some (vI 2), none]) (st' := [vI 0]) (h' := h) f156_114 rfl ?_
              refine y_sto (pc' := 116) (k := 3) (L' := [some (vR (some 137)), some (vI x0), some (vI 2), some (vI 0)]) f156_115 rfl rfl rfl rfl rfl rfl ?_
              refine y_s (pc' := 117) (L' := [some (vR (some 137)), some (vI x0), some (vI 2), some (vI 0)]) (st' := [vI 0]) (h' := h) f156_116 rfl ?_
              refine y_ift (pcT := 127) f156_117 rfl rfl ?_
              refine y_s (pc' := 128) (L' := [some (vR (some 137)), some (vI x0), some (vI 2), some (vI 0)]) (st' := [vI 0]) (h' := h) f156_127 rfl ?_
              exact y_ri f156_128 ⟨rfl, k⟩
            · replace k := k.2 c
              refine y_s (pc' := 102) (L' := [some (vR (some 137)), some (vI x0), some (vI 2), none]) (st' := [vR (some 137)]) (h' := h) f156_101 rfl ?_
              refine y_s (pc' := 104) (L' := [some (vR (some 137)), some (vI x0), some (vI 2), none]) (st' := [vR (some (14)), vR (some 137)]) (h' := h) f156_102 rfl ?_
              refine y_cI (pc' := 107) (as := [vR (some 137), vR (some (14))]) (r := []) f156_104 (yzv ym_8_221 rfl (ys137 w) rfl rfl) (by omega) rfl ?_
              exact k
          · replace k := k.2 c
            refine y_s (pc' := 88) (L' := [some (vR (some 137)), some (vI x0), some (vI 2), none]) (st' := [vR (some 137)]) (h' := h) f156_87 rfl ?_
            refine y_s (pc' := 90) (L' := [some (vR (some 137)), some (vI x0), some (vI 2), none]) (st' := [vR (some (12)), vR (some 137)]) (h' := h) f156_88 rfl ?_
            refine y_cI (pc' := 93) (as := [vR (some 137), vR (some (12))]) (r := []) f156_90 (yzv ym_8_221 rfl (ys137 w) rfl rfl) (by omega) rfl ?_
            exact k
      · replace k := k.2 c
        refine y_s (pc' := 46) (L' := [some (vR (some 137)), some (vI x0), some (vI (-1)), none]) (st' := [vI 1]) (h' := h) f156_45 rfl ?_
        refine y_go (pc' := 68) f156_46 rfl ?_
        refine y_sto (pc' := 69) (k := 2) (L' := [some (vR (some 137)), some (vI x0), some (vI 1), none]) f156_68 rfl rfl rfl rfl rfl rfl ?_
        refine y_s (pc' := 70) (L' := [some (vR (some 137)), some (vI x0), some (vI 1), none]) (st' := [vI 1]) (h' := h) f156_69 rfl ?_
        refine y_ift (pcT := 82) f156_70 rfl rfl ?_
        refine y_s (pc' := 83) (L' := [some (vR (some 137)), some (vI x0), some (vI 1), none]) (st' := [vI 1]) (h' := h) f156_82 rfl ?_
        refine y_s (pc' := 84) (L' := [some (vR (some 137)), some (vI x0), some (vI 1), none]) (st' := [vI 1, vI 1]) (h' := h) f156_83 rfl ?_
        refine y_ic (pcT := 96) (pc' := 87) (P := 1 ≠ 1) f156_84 rfl rfl rfl (fun c => ?_) (fun c => ?_)
        · replace k := k.1 c
          refine y_s (pc' := 97) (L' := [some (vR (some 137)), some (vI x0), some (vI 1), none]) (st' := [vI 1]) (h' := h) f156_96 rfl ?_
          refine y_s (pc' := 98) (L' := [some (vR (some 137)), some (vI x0), some (vI 1), none]) (st' := [vI 2, vI 1]) (h' := h) f156_97 rfl ?_
          refine y_ic (pcT := 114) (pc' := 101) (P := 1 ≠ 2) f156_98 rfl rfl rfl (fun c => ?_) (fun c => ?_)
          · replace k := k.1 c
            refine y_s (pc' := 115) (L' := [some (vR (some 137)), some (vI x0), some (vI 1), none]) (st' := [vI 0]) (h' := h) f156_114 rfl ?_
            refine y_sto (pc' := 116) (k := 3) (L' := [some (vR (some 137)), some (vI x0), some (vI 1), some (vI 0)]) f156_115 rfl rfl rfl rfl rfl rfl ?_
            refine y_s (pc' := 117) (L' := [some (vR (some 137)), some (vI x0), some (vI 1), some (vI 0)]) (st' := [vI 0]) (h' := h) f156_116 rfl ?_
            refine y_ift (pcT := 127) f156_117 rfl rfl ?_
            refine y_s (pc' := 128) (L' := [some (vR (some 137)), some (vI x0), some (vI 1), some (vI 0)]) (st' := [vI 0]) (h' := h) f156_127 rfl ?_
            exact y_ri f156_128 ⟨rfl, k⟩
          · replace k := k.2 c
            refine y_s (pc' := 102) (L' := [some (vR (some 137)), some (vI x0), some (vI 1), none]) (st' := [vR (some 137)]) (h' := h) f156_101 rfl ?_
            refine y_s (pc' := 104) (L' := [some (vR (some 137)), some (vI x0), some (vI 1), none]) (st' := [vR (some (14)), vR (some 137)]) (h' := h) f156_102 rfl ?_
            refine y_cI (pc' := 107) (as := [vR (some 137), vR (some (14))]) (r := []) f156_104 (yzv ym_8_221 rfl (ys137 w) rfl rfl) (by omega) rfl ?_
            exact k
        · replace k := k.2 c
          refine y_s (pc' := 88) (L' := [some (vR (some 137)), some (vI x0), some (vI 1), none]) (st' := [vR (some 137)]) (h' := h) f156_87 rfl ?_
          refine y_s (pc' := 90) (L' := [some (vR (some 137)), some (vI x0), some (vI 1), none]) (st' := [vR (some (12)), vR (some 137)]) (h' := h) f156_88 rfl ?_
          refine y_cI (pc' := 93) (as := [vR (some 137), vR (some (12))]) (r := []) f156_90 (yzv ym_8_221 rfl (ys137 w) rfl rfl) (by omega) rfl ?_
          exact k
    · replace k := k.2 c
      refine y_s (pc' := 28) (L' := [some (vR (some 137)), some (vI x0), some (vI (-1)), none]) (st' := [vI 0]) (h' := h) f156_27 rfl ?_
      refine y_go (pc' := 68) f156_28 rfl ?_
      refine y_sto (pc' := 69) (k := 2) (L' := [some (vR (some 137)), some (vI x0), some (vI 0), none]) f156_68 rfl rfl rfl rfl rfl rfl ?_
      refine y_s (pc' := 70) (L' := [some (vR (some 137)), some (vI x0), some (vI 0), none]) (st' := [vI 0]) (h' := h) f156_69 rfl ?_
      refine y_iff (pcT := 82) (pc' := 73) f156_70 rfl rfl rfl ?_
      refine y_s (pc' := 74) (L' := [some (vR (some 137)), some (vI x0), some (vI 0), none]) (st' := [vR (some 137)]) (h' := h) f156_73 rfl ?_
      refine y_s (pc' := 76) (L' := [some (vR (some 137)), some (vI x0), some (vI 0), none]) (st' := [vR (some (10)), vR (some 137)]) (h' := h) f156_74 rfl ?_
      refine y_cI (pc' := 79) (as := [vR (some 137), vR (some (10))]) (r := []) f156_76 (yzv ym_8_221 rfl (ys137 w) rfl rfl) (by omega) rfl ?_
      exact k
theorem W156_79 {d : Nat} {K : Int → Hp → Prop} (w : yWF zl nl h) {l1 : Int} {l2 : Int} {s0 : Int} (hd : 1 ≤ d) (k : ((s0 = 0 → K 0 h) ∧ (¬ (s0 = 0) → yI (d - 1) 159 [vR (some 137)] h (fun x h' => ZW d prog_10_method_22_code 8 124 [some (vR (some 137)), some (vI l1), some (vI l2), some (vI s0)] [vI x] h' (yq 2 (yqI K)))))) : ZW d prog_10_method_22_code 8 79 [some (vR (some 137)), some (vI l1), some (vI l2), none] [vI s0] h (yq 2 (yqI K)) := by
  refine y_go (pc' := 115) f156_79 rfl ?_
  refine y_sto (pc' := 116) (k := 3) (L' := [some (vR (some 137)), some (vI l1), some (vI l2), some (vI s0)]) f156_115 rfl rfl rfl rfl rfl rfl ?_
  refine y_s (pc' := 117) (L' := [some (vR (some 137)), some (vI l1), some (vI l2), some (vI s0)]) (st' := [vI s0]) (h' := h) f156_116 rfl ?_
  refine y_if (pcT := 127) (pc' := 120) (P := s0 = 0) f156_117 rfl rfl rfl (fun c => ?_) (fun c => ?_)
  · replace k := k.1 c
    refine y_s (pc' := 128) (L' := [some (vR (some 137)), some (vI l1), some (vI l2), some (vI s0)]) (st' := [vI 0]) (h' := h) f156_127 rfl ?_
    exact y_ri f156_128 ⟨rfl, k⟩
  · replace k := k.2 c
    refine y_s (pc' := 121) (L' := [some (vR (some 137)), some (vI l1), some (vI l2), some (vI s0)]) (st' := [vR (some 137)]) (h' := h) f156_120 rfl ?_
    refine y_cI (pc' := 124) (as := [vR (some 137)]) (r := []) f156_121 (yzv ym_8_195 rfl (ys137 w) rfl rfl) (by omega) rfl ?_
    exact k
theorem W156_93 {d : Nat} {K : Int → Hp → Prop} (w : yWF zl nl h) {l1 : Int} {l2 : Int} {s0 : Int} (hd : 1 ≤ d) (k : ((s0 = 0 → K 0 h) ∧ (¬ (s0 = 0) → yI (d - 1) 159 [vR (some 137)] h (fun x h' => ZW d prog_10_method_22_code 8 124 [some (vR (some 137)), some (vI l1), some (vI l2), some (vI s0)] [vI x] h' (yq 2 (yqI K)))))) : ZW d prog_10_method_22_code 8 93 [some (vR (some 137)), some (vI l1), some (vI l2), none] [vI s0] h (yq 2 (yqI K)) := by
  refine y_go (pc' := 115) f156_93 rfl ?_
  refine y_sto (pc' := 116) (k := 3) (L' := [some (vR (some 137)), some (vI l1), some (vI l2), some (vI s0)]) f156_115 rfl rfl rfl rfl rfl rfl ?_
  refine y_s (pc' := 117) (L' := [some (vR (some 137)), some (vI l1), some (vI l2), some (vI s0)]) (st' := [vI s0]) (h' := h) f156_116 rfl ?_
  refine y_if (pcT := 127) (pc' := 120) (P := s0 = 0) f156_117 rfl rfl rfl (fun c => ?_) (fun c => ?_)
  · replace k := k.1 c
    refine y_s (pc' := 128) (L' := [some (vR (some 137)), some (vI l1), some (vI l2), some (vI s0)]) (st' := [vI 0]) (h' := h) f156_127 rfl ?_
    exact y_ri f156_128 ⟨rfl, k⟩
  · replace k := k.2 c
    refine y_s (pc' := 121) (L' := [some (vR (some 137)), some (vI l1), some (vI l2), some (vI s0)]) (st' := [vR (some 137)]) (h' := h) f156_120 rfl ?_
    refine y_cI (pc' := 124) (as := [vR (some 137)]) (r := []) f156_121 (yzv ym_8_195 rfl (ys137 w) rfl rfl) (by omega) rfl ?_
    exact k
theorem W156_107 {d : Nat} {K : Int → Hp → Prop} (w : yWF zl nl h) {l1 : Int} {l2 : Int} {s0 : Int} (hd : 1 ≤ d) (k : ((s0 = 0 → K 0 h) ∧ (¬ (s0 = 0) → yI (d - 1) 159 [vR (some 137)] h (fun x h' => ZW d prog_10_method_22_code 8 124 [some (vR (some 137)), some (vI l1), some (vI l2), some (vI 1)] [vI x] h' (yq 2 (yqI K)))))) : ZW d prog_10_method_22_code 8 107 [some (vR (some 137)), some (vI l1), some (vI l2), none] [vI s0] h (yq 2 (yqI K)) := by
  refine y_if (pcT := 114) (pc' := 110) (P := s0 = 0) f156_107 rfl rfl rfl (fun c => ?_) (fun c => ?_)
  · replace k := k.1 c
    refine y_s (pc' := 115) (L' := [some (vR (some 137)), some (vI l1), some (vI l2), none]) (st' := [vI 0]) (h' := h) f156_114 rfl ?_
    refine y_sto (pc' := 116) (k := 3) (L' := [some (vR (some 137)), some (vI l1), some (vI l2), some (vI 0)]) f156_115 rfl rfl rfl rfl rfl rfl ?_
    refine y_s (pc' := 117) (L' := [some (vR (some 137)), some (vI l1), some (vI l2), some (vI 0)]) (st' := [vI 0]) (h' := h) f156_116 rfl ?_
    refine y_ift (pcT := 127) f156_117 rfl rfl ?_
    refine y_s (pc' := 128) (L' := [some (vR (some 137)), some (vI l1), some (vI l2), some (vI 0)]) (st' := [vI 0]) (h' := h) f156_127 rfl ?_
    exact y_ri f156_128 ⟨rfl, k⟩
  · replace k := k.2 c
    refine y_s (pc' := 111) (L' := [some (vR (some 137)), some (vI l1), some (vI l2), none]) (st' := [vI 1]) (h' := h) f156_110 rfl ?_
    refine y_go (pc' := 115) f156_111 rfl ?_
    refine y_sto (pc' := 116) (k := 3) (L' := [some (vR (some 137)), some (vI l1), some (vI l2), some (vI 1)]) f156_115 rfl rfl rfl rfl rfl rfl ?_
    refine y_s (pc' := 117) (L' := [some (vR (some 137)), some (vI l1), some (vI l2), some (vI 1)]) (st' := [vI 1]) (h' := h) f156_116 rfl ?_
    refine y_iff (pcT := 127) (pc' := 120) f156_117 rfl rfl rfl ?_
    refine y_s (pc' := 121) (L' := [some (vR (some 137)), some (vI l1), some (vI l2), some (vI 1)]) (st' := [vR (some 137)]) (h' := h) f156_120 rfl ?_
    refine y_cI (pc' := 124) (as := [vR (some 137)]) (r := []) f156_121 (yzv ym_8_195 rfl (ys137 w) rfl rfl) (by omega) rfl ?_
    exact k
theorem W156_124 {d : Nat} {K : Int → Hp → Prop} (w : yWF zl nl h) {l1 : Int} {l2 : Int} {l3 : Int} {s0 : Int} (hd : 1 ≤ d) (k : ((s0 ≠ 0 → ((0 ≤ l1 ∧ l1 < 61) ∧ ((0 ≤ l1 ∧ l1 < 61) ∧ (∀ h_146, (zsetV (zsetV h 146 (l1).toNat l2) 147 (l1).toNat (zV (zsetV h 146 (l1).toNat l2) 137 12)) = h_146 → ((0 ≤ l1 ∧ l1 < 61) ∧ (∀ h_161, (zsetV (zsetV h_146 148 (l1).toNat (zV h_146 137 23)) 137 14 0) = h_161 → ((2 ≤ l2 → ((0 ≤ l1 ∧ l1 < 61) ∧ ((0 ≤ l1 ∧ l1 < 61) ∧ K 1 (zsetV h_161 149 (l1).toNat (zw ((zV h_161 137 23) - (zV h_161 148 (l1).toNat))))))) ∧ (¬ (2 ≤ l2) → yI (d - 1) 158 [vR (some 137), vI 32] h_161 (fun x h' => ZW d prog_10_method_22_code 8 172 [some (vR (some 137)), some (vI l1), some (vI l2), some (vI l3)] [vI x] h' (yq 2 (yqI K))))))))))) ∧ (¬ (s0 ≠ 0) → K 0 h))) : ZW d prog_10_method_22_code 8 124 [some (vR (some 137)), some (vI l1), some (vI l2), some (vI l3)] [vI s0] h (yq 2 (yqI K)) := by
  refine y_if (pcT := 129) (pc' := 127) (P := s0 ≠ 0) f156_124 rfl rfl rfl (fun c => ?_) (fun c => ?_)
  · replace k := k.1 c
    refine y_s (pc' := 130) (L' := [some (vR (some 137)), some (vI l1), some (vI l2), some (vI l3)]) (st' := [vR (some 137)]) (h' := h) f156_129 rfl ?_
    refine y_gr (pc' := 133) f156_130 yf_8_36 rfl rfl (ys137 w) (yp137_18 w) rfl ?_
    refine y_s (pc' := 134) (L' := [some (vR (some 137)), some (vI l1), some (vI l2), some (vI l3)]) (st' := [vI l1, vR (some 146)]) (h' := h) f156_133 rfl ?_
    refine y_s (pc' := 135) (L' := [some (vR (some 137)), some (vI l1), some (vI l2), some (vI l3)]) (st' := [vI l2, vI l1, vR (some 146)]) (h' := h) f156_134 rfl ?_
    refine y_is (pc' := 136) (h' := (zsetV h 146 (l1).toNat l2)) f156_135 (ys146 w) (by decide) k.1 rfl rfl ?_
    replace k := k.2
    refine y_s (pc' := 137) (L' := [some (vR (some 137)), some (vI l1), some (vI l2), some (vI l3)]) (st' := [vR (some 137)]) (h' := (zsetV h 146 (l1).toNat l2)) f156_136 rfl ?_
    refine y_gr (pc' := 140) f156_137 yf_8_39 rfl rfl (ys137 w) (yp137_19 w) rfl ?_
    refine y_s (pc' := 141) (L' := [some (vR (some 137)), some (vI l1), some (vI l2), some (vI l3)]) (st' := [vI l1, vR (some 147)]) (h' := (zsetV h 146 (l1).toNat l2)) f156_140 rfl ?_
    refine y_s (pc' := 142) (L' := [some (vR (some 137)), some (vI l1), some (vI l2), some (vI l3)]) (st' := [vR (some 137), vI l1, vR (some 147)]) (h' := (zsetV h 146 (l1).toNat l2)) f156_141 rfl ?_
    refine y_gi (pc' := 145) f156_142 yf_8_163 rfl rfl (ys137 w) rfl ?_
    refine y_is (pc' := 146) (h' := (zsetV (zsetV h 146 (l1).toNat l2) 147 (l1).toNat (zV (zsetV h 146 (l1).toNat l2) 137 12))) f156_145 (ys147 w) (by decide) k.1 rfl rfl ?_
    replace k := k.2
    generalize e_146 : (zsetV (zsetV h 146 (l1).toNat l2) 147 (l1).toNat (zV (zsetV h 146 (l1).toNat l2) 137 12)) = h_146
    replace k := k _ e_146
    have w : yWF zl nl h_146 := by rw [← e_146]; exact w
    refine y_s (pc' := 147) (L' := [some (vR (some 137)), some (vI l1), some (vI l2), some (vI l3)]) (st' := [vR (some 137)]) (h' := h_146) f156_146 rfl ?_
    refine y_gr (pc' := 150) f156_147 yf_8_42 rfl rfl (ys137 w) (yp137_20 w) rfl ?_
    refine y_s (pc' := 151) (L' := [some (vR (some 137)), some (vI l1), some (vI l2), some (vI l3)]) (st' := [vI l1, vR (some 148)]) (h' := h_146) f156_150 rfl ?_
    refine y_s (pc' := 152) (L' := [some (vR (some 137)), some (vI l1), some (vI l2), some (vI l3)]) (st' := [vR (some 137), vI l1, vR (some 148)]) (h' := h_146) f156_151 rfl ?_
    refine y_gi (pc' := 155) f156_152 yf_8_185 rfl rfl (ys137 w) rfl ?_
    refine y_is (pc' := 156) (h' := (zsetV h_146 148 (l1).toNat (zV h_146 137 23))) f156_155 (ys148 w) (by decide) k.1 rfl rfl ?_
    replace k := k.2
    refine y_s (pc' := 157) (L' := [some (vR (some 137)), some (vI l1), some (vI l2), some (vI l3)]) (st' := [vR (some 137)]) (h' := (zsetV h_146 148 (l1).toNat (zV h_146 137 23))) f156_156 rfl ?_
    refine y_s (pc' := 158) (L' := [some (vR (some 137)), some (vI l1), some (vI l2), some (vI l3)]) (st' := [vI 0, vR (some 137)]) (h' := (zsetV h_146 148 (l1).toNat (zV h_146 137 23))) f156_157 rfl ?_
    refine y_pi (pc' := 161) f156_158 yf_8_201 rfl rfl (ys137 w) (by decide) (Or.inl rfl) rfl ?_
    generalize e_161 : (zsetV (zsetV h_146 148 (l1).toNat (zV h_146 137 23)) 137 14 0) = h_161
    replace k := k _ e_161
    have w : yWF zl nl h_161 := by rw [← e_161]; exact w
    refine y_s (pc' := 162) (L' := [some (vR (some 137)), some (vI l1), some (vI l2), some (vI l3)]) (st' := [vI l2]) (h' := h_161) f156_161 rfl ?_
    refine y_s (pc' := 163) (L' := [some (vR (some 137)), some (vI l1), some (vI l2), some (vI l3)]) (st' := [vI 2, vI l2]) (h' := h_161) f156_162 rfl ?_
    refine y_ic (pcT := 184) (pc' := 166) (P := 2 ≤ l2) f156_163 rfl rfl rfl (fun c => ?_) (fun c => ?_)
    · replace k := k.1 c
      refine y_s (pc' := 185) (L' := [some (vR (some 137)), some (vI l1), some (vI l2), some (vI l3)]) (st' := [vR (some 137)]) (h' := h_161) f156_184 rfl ?_
      refine y_gr (pc' := 188) f156_185 yf_8_45 rfl rfl (ys137 w) (yp137_21 w) rfl ?_
      refine y_s (pc' := 189) (L' := [some (vR (some 137)), some (vI l1), some (vI l2), some (vI l3)]) (st' := [vI l1, vR (some 149)]) (h' := h_161) f156_188 rfl ?_
      refine y_s (pc' := 190) (L' := [some (vR (some 137)), some (vI l1), some (vI l2), some (vI l3)]) (st' := [vR (some 137), vI l1, vR (some 149)]) (h' := h_161) f156_189 rfl ?_
      refine y_gi (pc' := 193) f156_190 yf_8_185 rfl rfl (ys137 w) rfl ?_
      refine y_s (pc' := 194) (L' := [some (vR (some 137)), some (vI l1), some (vI l2), some (vI l3)]) (st' := [vR (some 137), vI (zV h_161 137 23), vI l1, vR (some 149)]) (h' := h_161) f156_193 rfl ?_
      refine y_gr (pc' := 197) f156_194 yf_8_42 rfl rfl (ys137 w) (yp137_20 w) rfl ?_
      refine y_s (pc' := 198) (L' := [some (vR (some 137)), some (vI l1), some (vI l2), some (vI l3)]) (st' := [vI l1, vR (some 148), vI (zV h_161 137 23), vI l1, vR (some 149)]) (h' := h_161) f156_197 rfl ?_
      refine y_ia (pc' := 199) (x := (zV h_161 148 (l1).toNat)) f156_198 (ys148 w) k.1 rfl rfl ?_
      replace k := k.2
      refine y_s (pc' := 200) (L' := [some (vR (some 137)), some (vI l1), some (vI l2), some (vI l3)]) (st' := [vI (zw ((zV h_161 137 23) - (zV h_161 148 (l1).toNat))), vI l1, vR (some 149)]) (h' := h_161) f156_199 rfl ?_
      refine y_is (pc' := 201) (h' := (zsetV h_161 149 (l1).toNat (zw ((zV h_161 137 23) - (zV h_161 148 (l1).toNat))))) f156_200 (ys149 w) (by decide) k.1 rfl rfl ?_
      replace k := k.2
      refine y_s (pc' := 202) (L' := [some (vR (some 137)), some (vI l1), some (vI l2), some (vI l3)]) (st' := [vI 1]) (h' := (zsetV h_161 149 (l1).toNat (zw ((zV h_161 137 23) - (zV h_161 148 (l1).toNat))))) f156_201 rfl ?_
      exact y_ri f156_202 ⟨rfl, k⟩
    · replace k := k.2 c
      refine y_s (pc' := 167) (L' := [some (vR (some 137)), some (vI l1), some (vI l2), some (vI l3)]) (st' := [vR (some 137)]) (h' := h_161) f156_166 rfl ?_
      refine y_s (pc' := 169) (L' := [some (vR (some 137)), some (vI l1), some (vI l2), some (vI l3)]) (st' := [vI 32, vR (some 137)]) (h' := h_161) f156_167 rfl ?_
      refine y_cI (pc' := 172) (as := [vR (some 137), vI 32]) (r := []) f156_169 (yzv ym_8_182 rfl (ys137 w) rfl rfl) (by omega) rfl ?_
      exact k
  · replace k := k.2 c
    refine y_s (pc' := 128) (L' := [some (vR (some 137)), some (vI l1), some (vI l2), some (vI l3)]) (st' := [vI 0]) (h' := h) f156_127 rfl ?_
    exact y_ri f156_128 ⟨rfl, k⟩
theorem W156_172 {d : Nat} {K : Int → Hp → Prop} (w : yWF zl nl h) {l1 : Int} {l2 : Int} {l3 : Int} {s0 : Int} (hd : 1 ≤ d) (k : ((s0 = 0 → K 0 h) ∧ (¬ (s0 = 0) → yI (d - 1) 161 [vR (some 137)] h (fun x h' => ZW d prog_10_method_22_code 8 179 [some (vR (some 137)), some (vI l1), some (vI l2), some (vI l3)] [vI x] h' (yq 2 (yqI K)))))) : ZW d prog_10_method_22_code 8 172 [some (vR (some 137)), some (vI l1), some (vI l2), some (vI l3)] [vI s0] h (yq 2 (yqI K)) := by
  refine y_if (pcT := 182) (pc' := 175) (P := s0 = 0) f156_172 rfl rfl rfl (fun c => ?_) (fun c => ?_)
  · replace k := k.1 c
    refine y_s (pc' := 183) (L' := [some (vR (some 137)), some (vI l1), some (vI l2), some (vI l3)]) (st' := [vI 0]) (h' := h) f156_182 rfl ?_
    exact y_ri f156_183 ⟨rfl, k⟩
  · replace k := k.2 c
    refine y_s (pc' := 176) (L' := [some (vR (some 137)), some (vI l1), some (vI l2), some (vI l3)]) (st' := [vR (some 137)]) (h' := h) f156_175 rfl ?_
    refine y_cI (pc' := 179) (as := [vR (some 137)]) (r := []) f156_176 (yzv ym_8_210 rfl (ys137 w) rfl rfl) (by omega) rfl ?_
    exact k
theorem W156_179 {d : Nat} {K : Int → Hp → Prop} (w : yWF zl nl h) {l1 : Int} {l2 : Int} {l3 : Int} {s0 : Int} (k : ((s0 ≠ 0 → ((0 ≤ l1 ∧ l1 < 61) ∧ ((0 ≤ l1 ∧ l1 < 61) ∧ K 1 (zsetV h 149 (l1).toNat (zw ((zV h 137 23) - (zV h 148 (l1).toNat))))))) ∧ (¬ (s0 ≠ 0) → K 0 h))) : ZW d prog_10_method_22_code 8 179 [some (vR (some 137)), some (vI l1), some (vI l2), some (vI l3)] [vI s0] h (yq 2 (yqI K)) := by
  refine y_if (pcT := 184) (pc' := 182) (P := s0 ≠ 0) f156_179 rfl rfl rfl (fun c => ?_) (fun c => ?_)
  · replace k := k.1 c
    refine y_s (pc' := 185) (L' := [some (vR (some 137)), some (vI l1), some (vI l2), some (vI l3)]) (st' := [vR (some 137)]) (h' := h) f156_184 rfl ?_
    refine y_gr (pc' := 188) f156_185 yf_8_45 rfl rfl (ys137 w) (yp137_21 w) rfl ?_
    refine y_s (pc' := 189) (L' := [some (vR (some 137)), some (vI l1), some (vI l2), some (vI l3)]) (st' := [vI l1, vR (some 149)]) (h' := h) f156_188 rfl ?_
    refine y_s (pc' := 190) (L' := [some (vR (some 137)), some (vI l1), some (vI l2), some (vI l3)]) (st' := [vR (some 137), vI l1, vR (some 149)]) (h' := h) f156_189 rfl ?_
    refine y_gi (pc' := 193) f156_190 yf_8_185 rfl rfl (ys137 w) rfl ?_
    refine y_s (pc' := 194) (L' := [some (vR (some 137)), some (vI l1), some (vI l2), some (vI l3)]) (st' := [vR (some 137), vI (zV h 137 23), vI l1, vR (some 149)]) (h' := h) f156_193 rfl ?_
    refine y_gr (pc' := 197) f156_194 yf_8_42 rfl rfl (ys137 w) (yp137_20 w) rfl ?_
    refine y_s (pc' := 198) (L' := [some (vR (some 137)), some (vI l1), some (vI l2), some (vI l3)]) (st' := [vI l1, vR (some 148), vI (zV h 137 23), vI l1, vR (some 149)]) (h' := h) f156_197 rfl ?_
    refine y_ia (pc' := 199) (x := (zV h 148 (l1).toNat)) f156_198 (ys148 w) k.1 rfl rfl ?_
    replace k := k.2
    refine y_s (pc' := 200) (L' := [some (vR (some 137)), some (vI l1), some (vI l2), some (vI l3)]) (st' := [vI (zw ((zV h 137 23) - (zV h 148 (l1).toNat))), vI l1, vR (some 149)]) (h' := h) f156_199 rfl ?_
    refine y_is (pc' := 201) (h' := (zsetV h 149 (l1).toNat (zw ((zV h 137 23) - (zV h 148 (l1).toNat))))) f156_200 (ys149 w) (by decide) k.1 rfl rfl ?_
    replace k := k.2
    refine y_s (pc' := 202) (L' := [some (vR (some 137)), some (vI l1), some (vI l2), some (vI l3)]) (st' := [vI 1]) (h' := (zsetV h 149 (l1).toNat (zw ((zV h 137 23) - (zV h 148 (l1).toNat))))) f156_201 rfl ?_
    exact y_ri f156_202 ⟨rfl, k⟩
  · replace k := k.2 c
    refine y_s (pc' := 183) (L' := [some (vR (some 137)), some (vI l1), some (vI l2), some (vI l3)]) (st' := [vI 0]) (h' := h) f156_182 rfl ?_
    exact y_ri f156_183 ⟨rfl, k⟩
/-- HatterTunesModel.isAll(Ljava/lang/String;)Z -/
theorem E157 {d : Nat} {K : Int → Hp → Prop} (w : yWF zl nl h) {b nb : Nat} (hb : yStr b nb) (k : ZW d prog_10_method_15_code 8 2 [some (vR (some 137)), some (vR (some b)), some (vI 0)] [] h (yq 2 (yqI K))) : yI d 157 [vR (some 137), vR (some b)] h K := by
  refine y_en (L := [some (vR (some 137)), some (vR (some b)), none]) rfl rfl ?_
  refine y_s (pc' := 1) (L' := [some (vR (some 137)), some (vR (some b)), none]) (st' := [vI 0]) (h' := h) f157_0 rfl ?_
  refine y_sto (pc' := 2) (k := 2) (L' := [some (vR (some 137)), some (vR (some b)), some (vI 0)]) f157_1 rfl rfl rfl rfl rfl rfl ?_
  exact k
theorem W157_2 {d : Nat} {K : Int → Hp → Prop} (w : yWF zl nl h) {b nb : Nat} (hb : yStr b nb) {l2 : Int} (hd : 1 ≤ d) (k : yI (d - 1) 52 [vR (some b)] h (fun x h' => ZW d prog_10_method_15_code 8 7 [some (vR (some 137)), some (vR (some b)), some (vI l2)] [vI x, vI l2] h' (yq 2 (yqI K)))) : ZW d prog_10_method_15_code 8 2 [some (vR (some 137)), some (vR (some b)), some (vI l2)] [] h (yq 2 (yqI K)) := by
  refine y_s (pc' := 3) (L' := [some (vR (some 137)), some (vR (some b)), some (vI l2)]) (st' := [vI l2]) (h' := h) f157_2 rfl ?_
  refine y_s (pc' := 4) (L' := [some (vR (some 137)), some (vR (some b)), some (vI l2)]) (st' := [vR (some b), vI l2]) (h' := h) f157_3 rfl ?_
  refine y_cI (pc' := 7) (as := [vR (some b)]) (r := [vI l2]) f157_4 (yzvs ym_8_173 rfl (ysQ0 w hb) (yQ_32 hb) rfl rfl) (by omega) rfl ?_
  exact k
theorem W157_7 {d : Nat} {K : Int → Hp → Prop} (w : yWF zl nl h) {b nb : Nat} (hb : yStr b nb) {l2 : Int} {s0 : Int} {s1 : Int} (hd : 1 ≤ d) (k : ((s1 ≤ s0 → K 1 h) ∧ (¬ (s1 ≤ s0) → yI (d - 1) 54 [vR (some b), vI l2] h (fun x h' => ZW d prog_10_method_15_code 8 16 [some (vR (some 137)), some (vR (some b)), some (vI l2)] [vI x, vR (some 137)] h' (yq 2 (yqI K)))))) : ZW d prog_10_method_15_code 8 7 [some (vR (some 137)), some (vR (some b)), some (vI l2)] [vI s1, vI s0] h (yq 2 (yqI K)) := by
  refine y_ic (pcT := 30) (pc' := 10) (P := s1 ≤ s0) f157_7 rfl rfl rfl (fun c => ?_) (fun c => ?_)
  · replace k := k.1 c
    refine y_s (pc' := 31) (L' := [some (vR (some 137)), some (vR (some b)), some (vI l2)]) (st' := [vI 1]) (h' := h) f157_30 rfl ?_
    exact y_ri f157_31 ⟨rfl, k⟩
  · replace k := k.2 c
    refine y_s (pc' := 11) (L' := [some (vR (some 137)), some (vR (some b)), some (vI l2)]) (st' := [vR (some 137)]) (h' := h) f157_10 rfl ?_
    refine y_s (pc' := 12) (L' := [some (vR (some 137)), some (vR (some b)), some (vI l2)]) (st' := [vR (some b), vR (some 137)]) (h' := h) f157_11 rfl ?_
    refine y_s (pc' := 13) (L' := [some (vR (some 137)), some (vR (some b)), some (vI l2)]) (st' := [vI l2, vR (some b), vR (some 137)]) (h' := h) f157_12 rfl ?_
    refine y_cI (pc' := 16) (as := [vR (some b), vI l2]) (r := [vR (some 137)]) f157_13 (yzvs ym_8_178 rfl (ysQ0 w hb) (yQ_32 hb) rfl rfl) (by omega) rfl ?_
    exact k
theorem W157_16 {d : Nat} {K : Int → Hp → Prop} (w : yWF zl nl h) {b nb : Nat} (hb : yStr b nb) {l2 : Int} {s1 : Int} (hd : 1 ≤ d) (k : yI (d - 1) 158 [vR (some 137), vI s1] h (fun x h' => ZW d prog_10_method_15_code 8 19 [some (vR (some 137)), some (vR (some b)), some (vI l2)] [vI x] h' (yq 2 (yqI K)))) : ZW d prog_10_method_15_code 8 16 [some (vR (some 137)), some (vR (some b)), some (vI l2)] [vI s1, vR (some 137)] h (yq 2 (yqI K)) := by
  refine y_cI (pc' := 19) (as := [vR (some 137), vI s1]) (r := []) f157_16 (yzv ym_8_182 rfl (ys137 w) rfl rfl) (by omega) rfl ?_
  exact k
theorem W157_19 {d : Nat} {K : Int → Hp → Prop} (w : yWF zl nl h) {b nb : Nat} (hb : yStr b nb) {l2 : Int} {s0 : Int} (k : ((s0 ≠ 0 → ZW d prog_10_method_15_code 8 2 [some (vR (some 137)), some (vR (some b)), some (vI (zw (l2 + 1)))] [] h (yq 2 (yqI K))) ∧ (¬ (s0 ≠ 0) → K 0 h))) : ZW d prog_10_method_15_code 8 19 [some (vR (some 137)), some (vR (some b)), some (vI l2)] [vI s0] h (yq 2 (yqI K)) := by
  refine y_if (pcT := 24) (pc' := 22) (P := s0 ≠ 0) f157_19 rfl rfl rfl (fun c => ?_) (fun c => ?_)
  · replace k := k.1 c
    refine y_inc (pc' := 27) (L' := [some (vR (some 137)), some (vR (some b)), some (vI (zw (l2 + 1)))]) f157_24 rfl rfl rfl rfl ?_
    refine y_go (pc' := 2) f157_27 rfl ?_
    exact k
  · replace k := k.2 c
    refine y_s (pc' := 23) (L' := [some (vR (some 137)), some (vR (some b)), some (vI l2)]) (st' := [vI 0]) (h' := h) f157_22 rfl ?_
    exact y_ri f157_23 ⟨rfl, k⟩
/-- HatterTunesModel.isTest()Z -/
theorem E166 {d : Nat} {K : Int → Hp → Prop} (w : yWF zl nl h) (hd : 1 ≤ d) (k : (((zV h 137 9) ≤ (zV h 137 11) → K 0 h) ∧ (¬ ((zV h 137 9) ≤ (zV h 137 11)) → ((0 ≤ (zV h 137 11) ∧ (zV h 137 11) < 100) ∧ (((zV h 144 ((zV h 137 11)).toNat) ≤ 0 → K 0 h) ∧ (¬ ((zV h 144 ((zV h 137 11)).toNat) ≤ 0) → ((0 ≤ (zV h 137 11) ∧ (zV h 137 11) < 100) ∧ yI (d - 1) 167 [vR (some (16)), vI (zV h 144 ((zV h 137 11)).toNat)] h (fun x h' => ZW d prog_10_method_17_code 8 37 [some (vR (some 137)), none, none] [vI x] h' (yq 2 (yqI K)))))))))) : yI d 166 [vR (some 137)] h K := by
  refine y_en (L := [some (vR (some 137)), none, none]) rfl rfl ?_
  refine y_s (pc' := 1) (L' := [some (vR (some 137)), none, none]) (st' := [vR (some 137)]) (h' := h) f166_0 rfl ?_
  refine y_gi (pc' := 4) f166_1 yf_8_160 rfl rfl (ys137 w) rfl ?_
  refine y_s (pc' := 5) (L' := [some (vR (some 137)), none, none]) (st' := [vR (some 137), vI (zV h 137 11)]) (h' := h) f166_4 rfl ?_
  refine y_gi (pc' := 8) f166_5 yf_8_157 rfl rfl (ys137 w) rfl ?_
  refine y_ic (pcT := 40) (pc' := 11) (P := (zV h 137 9) ≤ (zV h 137 11)) f166_8 rfl rfl rfl (fun c => ?_) (fun c => ?_)
  · replace k := k.1 c
    refine y_s (pc' := 41) (L' := [some (vR (some 137)), none, none]) (st' := [vI (-1)]) (h' := h) f166_40 rfl ?_
    refine y_sto (pc' := 42) (k := 1) (L' := [some (vR (some 137)), some (vI (-1)), none]) f166_41 rfl rfl rfl rfl rfl rfl ?_
    refine y_s (pc' := 43) (L' := [some (vR (some 137)), some (vI (-1)), none]) (st' := [vI (-1)]) (h' := h) f166_42 rfl ?_
    refine y_iff (pcT := 48) (pc' := 46) f166_43 rfl rfl rfl ?_
    refine y_s (pc' := 47) (L' := [some (vR (some 137)), some (vI (-1)), none]) (st' := [vI 0]) (h' := h) f166_46 rfl ?_
    exact y_ri f166_47 ⟨rfl, k⟩
  · replace k := k.2 c
    refine y_s (pc' := 12) (L' := [some (vR (some 137)), none, none]) (st' := [vR (some 137)]) (h' := h) f166_11 rfl ?_
    refine y_gr (pc' := 15) f166_12 yf_8_30 rfl rfl (ys137 w) (yp137_10 w) rfl ?_
    refine y_s (pc' := 16) (L' := [some (vR (some 137)), none, none]) (st' := [vR (some 137), vR (some 144)]) (h' := h) f166_15 rfl ?_
    refine y_gi (pc' := 19) f166_16 yf_8_160 rfl rfl (ys137 w) rfl ?_
    refine y_ia (pc' := 20) (x := (zV h 144 ((zV h 137 11)).toNat)) f166_19 (ys144 w) k.1 rfl rfl ?_
    replace k := k.2
    refine y_if (pcT := 40) (pc' := 23) (P := (zV h 144 ((zV h 137 11)).toNat) ≤ 0) f166_20 rfl rfl rfl (fun c => ?_) (fun c => ?_)
    · replace k := k.1 c
      refine y_s (pc' := 41) (L' := [some (vR (some 137)), none, none]) (st' := [vI (-1)]) (h' := h) f166_40 rfl ?_
      refine y_sto (pc' := 42) (k := 1) (L' := [some (vR (some 137)), some (vI (-1)), none]) f166_41 rfl rfl rfl rfl rfl rfl ?_
      refine y_s (pc' := 43) (L' := [some (vR (some 137)), some (vI (-1)), none]) (st' := [vI (-1)]) (h' := h) f166_42 rfl ?_
      refine y_iff (pcT := 48) (pc' := 46) f166_43 rfl rfl rfl ?_
      refine y_s (pc' := 47) (L' := [some (vR (some 137)), some (vI (-1)), none]) (st' := [vI 0]) (h' := h) f166_46 rfl ?_
      exact y_ri f166_47 ⟨rfl, k⟩
    · replace k := k.2 c
      refine y_s (pc' := 25) (L' := [some (vR (some 137)), none, none]) (st' := [vR (some (16))]) (h' := h) f166_23 rfl ?_
      refine y_s (pc' := 26) (L' := [some (vR (some 137)), none, none]) (st' := [vR (some 137), vR (some (16))]) (h' := h) f166_25 rfl ?_
      refine y_gr (pc' := 29) f166_26 yf_8_30 rfl rfl (ys137 w) (yp137_10 w) rfl ?_
      refine y_s (pc' := 30) (L' := [some (vR (some 137)), none, none]) (st' := [vR (some 137), vR (some 144), vR (some (16))]) (h' := h) f166_29 rfl ?_
      refine y_gi (pc' := 33) f166_30 yf_8_160 rfl rfl (ys137 w) rfl ?_
      refine y_ia (pc' := 34) (x := (zV h 144 ((zV h 137 11)).toNat)) f166_33 (ys144 w) k.1 rfl rfl ?_
      replace k := k.2
      refine y_cI (pc' := 37) (as := [vR (some (16)), vI (zV h 144 ((zV h 137 11)).toNat)]) (r := []) f166_34 (yzvs ym_8_190 rfl (ysQ0 w yst16) (yQ_32 yst16) rfl rfl) (by omega) rfl ?_
      exact k
theorem W166_37 {d : Nat} {K : Int → Hp → Prop} (w : yWF zl nl h) {s0 : Int} (hd : 1 ≤ d) (k : ((0 ≤ s0 → (((zV (zsetV h 137 11 (zw ((zV h 137 11) + 1))) 137 9) ≤ (zV (zsetV h 137 11 (zw ((zV h 137 11) + 1))) 137 11) → K 0 (zsetV h 137 11 (zw ((zV h 137 11) + 1)))) ∧ (¬ ((zV (zsetV h 137 11 (zw ((zV h 137 11) + 1))) 137 9) ≤ (zV (zsetV h 137 11 (zw ((zV h 137 11) + 1))) 137 11)) → ((0 ≤ (zV (zsetV h 137 11 (zw ((zV h 137 11) + 1))) 137 11) ∧ (zV (zsetV h 137 11 (zw ((zV h 137 11) + 1))) 137 11) < 100) ∧ (((zV (zsetV h 137 11 (zw ((zV h 137 11) + 1))) 144 ((zV (zsetV h 137 11 (zw ((zV h 137 11) + 1))) 137 11)).toNat) ≤ 0 → K 0 (zsetV h 137 11 (zw ((zV h 137 11) + 1)))) ∧ (¬ ((zV (zsetV h 137 11 (zw ((zV h 137 11) + 1))) 144 ((zV (zsetV h 137 11 (zw ((zV h 137 11) + 1))) 137 11)).toNat) ≤ 0) → ((0 ≤ (zV (zsetV h 137 11 (zw ((zV h 137 11) + 1))) 137 11) ∧ (zV (zsetV h 137 11 (zw ((zV h 137 11) + 1))) 137 11) < 100) ∧ yI (d - 1) 167 [vR (some (18)), vI (zV (zsetV h 137 11 (zw ((zV h 137 11) + 1))) 144 ((zV (zsetV h 137 11 (zw ((zV h 137 11) + 1))) 137 11)).toNat)] (zsetV h 137 11 (zw ((zV h 137 11) + 1))) (fun x h' => ZW d prog_10_method_17_code 8 95 [some (vR (some 137)), some (vI s0), none] [vI x] h' (yq 2 (yqI K)))))))))) ∧ (¬ (0 ≤ s0) → K 0 h))) : ZW d prog_10_method_17_code 8 37 [some (vR (some 137)), none, none] [vI s0] h (yq 2 (yqI K)) := by
  refine y_go (pc' := 41) f166_37 rfl ?_
  refine y_sto (pc' := 42) (k := 1) (L' := [some (vR (some 137)), some (vI s0), none]) f166_41 rfl rfl rfl rfl rfl rfl ?_
  refine y_s (pc' := 43) (L' := [some (vR (some 137)), some (vI s0), none]) (st' := [vI s0]) (h' := h) f166_42 rfl ?_
  refine y_if (pcT := 48) (pc' := 46) (P := 0 ≤ s0) f166_43 rfl rfl rfl (fun c => ?_) (fun c => ?_)
  · replace k := k.1 c
    refine y_s (pc' := 49) (L' := [some (vR (some 137)), some (vI s0), none]) (st' := [vR (some 137)]) (h' := h) f166_48 rfl ?_
    refine y_s (pc' := 50) (L' := [some (vR (some 137)), some (vI s0), none]) (st' := [vR (some 137), vR (some 137)]) (h' := h) f166_49 rfl ?_
    refine y_gi (pc' := 53) f166_50 yf_8_160 rfl rfl (ys137 w) rfl ?_
    refine y_s (pc' := 54) (L' := [some (vR (some 137)), some (vI s0), none]) (st' := [vI 1, vI (zV h 137 11), vR (some 137)]) (h' := h) f166_53 rfl ?_
    refine y_s (pc' := 55) (L' := [some (vR (some 137)), some (vI s0), none]) (st' := [vI (zw ((zV h 137 11) + 1)), vR (some 137)]) (h' := h) f166_54 rfl ?_
    refine y_pi (pc' := 58) f166_55 yf_8_160 rfl rfl (ys137 w) (by decide) (Or.inl rfl) rfl ?_
    refine y_s (pc' := 59) (L' := [some (vR (some 137)), some (vI s0), none]) (st' := [vR (some 137)]) (h' := (zsetV h 137 11 (zw ((zV h 137 11) + 1)))) f166_58 rfl ?_
    refine y_gi (pc' := 62) f166_59 yf_8_160 rfl rfl (ys137 w) rfl ?_
    refine y_s (pc' := 63) (L' := [some (vR (some 137)), some (vI s0), none]) (st' := [vR (some 137), vI (zV (zsetV h 137 11 (zw ((zV h 137 11) + 1))) 137 11)]) (h' := (zsetV h 137 11 (zw ((zV h 137 11) + 1)))) f166_62 rfl ?_
    refine y_gi (pc' := 66) f166_63 yf_8_157 rfl rfl (ys137 w) rfl ?_
    refine y_ic (pcT := 98) (pc' := 69) (P := (zV (zsetV h 137 11 (zw ((zV h 137 11) + 1))) 137 9) ≤ (zV (zsetV h 137 11 (zw ((zV h 137 11) + 1))) 137 11)) f166_66 rfl rfl rfl (fun c => ?_) (fun c => ?_)
    · replace k := k.1 c
      refine y_s (pc' := 99) (L' := [some (vR (some 137)), some (vI s0), none]) (st' := [vI (-1)]) (h' := (zsetV h 137 11 (zw ((zV h 137 11) + 1)))) f166_98 rfl ?_
      refine y_sto (pc' := 100) (k := 2) (L' := [some (vR (some 137)), some (vI s0), some (vI (-1))]) f166_99 rfl rfl rfl rfl rfl rfl ?_
      refine y_s (pc' := 101) (L' := [some (vR (some 137)), some (vI s0), some (vI (-1))]) (st' := [vI (-1)]) (h' := (zsetV h 137 11 (zw ((zV h 137 11) + 1)))) f166_100 rfl ?_
      refine y_iff (pcT := 106) (pc' := 104) f166_101 rfl rfl rfl ?_
      refine y_s (pc' := 105) (L' := [some (vR (some 137)), some (vI s0), some (vI (-1))]) (st' := [vI 0]) (h' := (zsetV h 137 11 (zw ((zV h 137 11) + 1)))) f166_104 rfl ?_
      exact y_ri f166_105 ⟨rfl, k⟩
    · replace k := k.2 c
      refine y_s (pc' := 70) (L' := [some (vR (some 137)), some (vI s0), none]) (st' := [vR (some 137)]) (h' := (zsetV h 137 11 (zw ((zV h 137 11) + 1)))) f166_69 rfl ?_
      refine y_gr (pc' := 73) f166_70 yf_8_30 rfl rfl (ys137 w) (yp137_10 w) rfl ?_
      refine y_s (pc' := 74) (L' := [some (vR (some 137)), some (vI s0), none]) (st' := [vR (some 137), vR (some 144)]) (h' := (zsetV h 137 11 (zw ((zV h 137 11) + 1)))) f166_73 rfl ?_
      refine y_gi (pc' := 77) f166_74 yf_8_160 rfl rfl (ys137 w) rfl ?_
      refine y_ia (pc' := 78) (x := (zV (zsetV h 137 11 (zw ((zV h 137 11) + 1))) 144 ((zV (zsetV h 137 11 (zw ((zV h 137 11) + 1))) 137 11)).toNat)) f166_77 (ys144 w) k.1 rfl rfl ?_
      replace k := k.2
      refine y_if (pcT := 98) (pc' := 81) (P := (zV (zsetV h 137 11 (zw ((zV h 137 11) + 1))) 144 ((zV (zsetV h 137 11 (zw ((zV h 137 11) + 1))) 137 11)).toNat) ≤ 0) f166_78 rfl rfl rfl (fun c => ?_) (fun c => ?_)
      · replace k := k.1 c
        refine y_s (pc' := 99) (L' := [some (vR (some 137)), some (vI s0), none]) (st' := [vI (-1)]) (h' := (zsetV h 137 11 (zw ((zV h 137 11) + 1)))) f166_98 rfl ?_
        refine y_sto (pc' := 100) (k := 2) (L' := [some (vR (some 137)), some (vI s0), some (vI (-1))]) f166_99 rfl rfl rfl rfl rfl rfl ?_
        refine y_s (pc' := 101) (L' := [some (vR (some 137)), some (vI s0), some (vI (-1))]) (st' := [vI (-1)]) (h' := (zsetV h 137 11 (zw ((zV h 137 11) + 1)))) f166_100 rfl ?_
        refine y_iff (pcT := 106) (pc' := 104) f166_101 rfl rfl rfl ?_
        refine y_s (pc' := 105) (L' := [some (vR (some 137)), some (vI s0), some (vI (-1))]) (st' := [vI 0]) (h' := (zsetV h 137 11 (zw ((zV h 137 11) + 1)))) f166_104 rfl ?_
        exact y_ri f166_105 ⟨rfl, k⟩
      · replace k := k.2 c
        refine y_s (pc' := 83) (L' := [some (vR (some 137)), some (vI s0), none]) (st' := [vR (some (18))]) (h' := (zsetV h 137 11 (zw ((zV h 137 11) + 1)))) f166_81 rfl ?_
        refine y_s (pc' := 84) (L' := [some (vR (some 137)), some (vI s0), none]) (st' := [vR (some 137), vR (some (18))]) (h' := (zsetV h 137 11 (zw ((zV h 137 11) + 1)))) f166_83 rfl ?_
        refine y_gr (pc' := 87) f166_84 yf_8_30 rfl rfl (ys137 w) (yp137_10 w) rfl ?_
        refine y_s (pc' := 88) (L' := [some (vR (some 137)), some (vI s0), none]) (st' := [vR (some 137), vR (some 144), vR (some (18))]) (h' := (zsetV h 137 11 (zw ((zV h 137 11) + 1)))) f166_87 rfl ?_
        refine y_gi (pc' := 91) f166_88 yf_8_160 rfl rfl (ys137 w) rfl ?_
        refine y_ia (pc' := 92) (x := (zV (zsetV h 137 11 (zw ((zV h 137 11) + 1))) 144 ((zV (zsetV h 137 11 (zw ((zV h 137 11) + 1))) 137 11)).toNat)) f166_91 (ys144 w) k.1 rfl rfl ?_
        replace k := k.2
        refine y_cI (pc' := 95) (as := [vR (some (18)), vI (zV (zsetV h 137 11 (zw ((zV h 137 11) + 1))) 144 ((zV (zsetV h 137 11 (zw ((zV h 137 11) + 1))) 137 11)).toNat)]) (r := []) f166_92 (yzvs ym_8_190 rfl (ysQ0 w yst18) (yQ_32 yst18) rfl rfl) (by omega) rfl ?_
        exact k
  · replace k := k.2 c
    refine y_s (pc' := 47) (L' := [some (vR (some 137)), some (vI s0), none]) (st' := [vI 0]) (h' := h) f166_46 rfl ?_
    exact y_ri f166_47 ⟨rfl, k⟩
theorem W166_95 {d : Nat} {K : Int → Hp → Prop} (w : yWF zl nl h) {l1 : Int} {s0 : Int} (hd : 1 ≤ d) (k : ((0 ≤ s0 → yI (d - 1) 159 [vR (some 137)] (zsetV h 137 11 (zw ((zV h 137 11) + 1))) (fun x h' => ZW d prog_10_method_17_code 8 120 [some (vR (some 137)), some (vI l1), some (vI s0)] [vI x] h' (yq 2 (yqI K)))) ∧ (¬ (0 ≤ s0) → K 0 h))) : ZW d prog_10_method_17_code 8 95 [some (vR (some 137)), some (vI l1), none] [vI s0] h (yq 2 (yqI K)) := by
  refine y_go (pc' := 99) f166_95 rfl ?_
  refine y_sto (pc' := 100) (k := 2) (L' := [some (vR (some 137)), some (vI l1), some (vI s0)]) f166_99 rfl rfl rfl rfl rfl rfl ?_
  refine y_s (pc' := 101) (L' := [some (vR (some 137)), some (vI l1), some (vI s0)]) (st' := [vI s0]) (h' := h) f166_100 rfl ?_
  refine y_if (pcT := 106) (pc' := 104) (P := 0 ≤ s0) f166_101 rfl rfl rfl (fun c => ?_) (fun c => ?_)
  · replace k := k.1 c
    refine y_s (pc' := 107) (L' := [some (vR (some 137)), some (vI l1), some (vI s0)]) (st' := [vR (some 137)]) (h' := h) f166_106 rfl ?_
    refine y_s (pc' := 108) (L' := [some (vR (some 137)), some (vI l1), some (vI s0)]) (st' := [vR (some 137), vR (some 137)]) (h' := h) f166_107 rfl ?_
    refine y_gi (pc' := 111) f166_108 yf_8_160 rfl rfl (ys137 w) rfl ?_
    refine y_s (pc' := 112) (L' := [some (vR (some 137)), some (vI l1), some (vI s0)]) (st' := [vI 1, vI (zV h 137 11), vR (some 137)]) (h' := h) f166_111 rfl ?_
    refine y_s (pc' := 113) (L' := [some (vR (some 137)), some (vI l1), some (vI s0)]) (st' := [vI (zw ((zV h 137 11) + 1)), vR (some 137)]) (h' := h) f166_112 rfl ?_
    refine y_pi (pc' := 116) f166_113 yf_8_160 rfl rfl (ys137 w) (by decide) (Or.inl rfl) rfl ?_
    refine y_s (pc' := 117) (L' := [some (vR (some 137)), some (vI l1), some (vI s0)]) (st' := [vR (some 137)]) (h' := (zsetV h 137 11 (zw ((zV h 137 11) + 1)))) f166_116 rfl ?_
    refine y_cI (pc' := 120) (as := [vR (some 137)]) (r := []) f166_117 (yzv ym_8_195 rfl (ys137 w) rfl rfl) (by omega) rfl ?_
    exact k
  · replace k := k.2 c
    refine y_s (pc' := 105) (L' := [some (vR (some 137)), some (vI l1), some (vI s0)]) (st' := [vI 0]) (h' := h) f166_104 rfl ?_
    exact y_ri f166_105 ⟨rfl, k⟩
theorem W166_120 {d : Nat} {K : Int → Hp → Prop} (w : yWF zl nl h) {l1 : Int} {l2 : Int} {s0 : Int} (hd : 1 ≤ d) (k : ((s0 = 0 → K 0 h) ∧ (¬ (s0 = 0) → yI (d - 1) 165 [vR (some 137), vI (zw ((zw ((zw (3 + (zw (300 * l1)))) + (zw (100 * l2)))) + (zV h 137 12)))] h (fun x h' => ZW d prog_10_method_17_code 8 144 [some (vR (some 137)), some (vI l1), some (vI l2)] [vI x] h' (yq 2 (yqI K)))))) : ZW d prog_10_method_17_code 8 120 [some (vR (some 137)), some (vI l1), some (vI l2)] [vI s0] h (yq 2 (yqI K)) := by
  refine y_if (pcT := 151) (pc' := 123) (P := s0 = 0) f166_120 rfl rfl rfl (fun c => ?_) (fun c => ?_)
  · replace k := k.1 c
    refine y_s (pc' := 152) (L' := [some (vR (some 137)), some (vI l1), some (vI l2)]) (st' := [vI 0]) (h' := h) f166_151 rfl ?_
    exact y_ri f166_152 ⟨rfl, k⟩
  · replace k := k.2 c
    refine y_s (pc' := 124) (L' := [some (vR (some 137)), some (vI l1), some (vI l2)]) (st' := [vR (some 137)]) (h' := h) f166_123 rfl ?_
    refine y_s (pc' := 125) (L' := [some (vR (some 137)), some (vI l1), some (vI l2)]) (st' := [vI 3, vR (some 137)]) (h' := h) f166_124 rfl ?_
    refine y_s (pc' := 128) (L' := [some (vR (some 137)), some (vI l1), some (vI l2)]) (st' := [vI 300, vI 3, vR (some 137)]) (h' := h) f166_125 rfl ?_
    refine y_s (pc' := 129) (L' := [some (vR (some 137)), some (vI l1), some (vI l2)]) (st' := [vI l1, vI 300, vI 3, vR (some 137)]) (h' := h) f166_128 rfl ?_
    refine y_s (pc' := 130) (L' := [some (vR (some 137)), some (vI l1), some (vI l2)]) (st' := [vI (zw (300 * l1)), vI 3, vR (some 137)]) (h' := h) f166_129 rfl ?_
    refine y_s (pc' := 131) (L' := [some (vR (some 137)), some (vI l1), some (vI l2)]) (st' := [vI (zw (3 + (zw (300 * l1)))), vR (some 137)]) (h' := h) f166_130 rfl ?_
    refine y_s (pc' := 133) (L' := [some (vR (some 137)), some (vI l1), some (vI l2)]) (st' := [vI 100, vI (zw (3 + (zw (300 * l1)))), vR (some 137)]) (h' := h) f166_131 rfl ?_
    refine y_s (pc' := 134) (L' := [some (vR (some 137)), some (vI l1), some (vI l2)]) (st' := [vI l2, vI 100, vI (zw (3 + (zw (300 * l1)))), vR (some 137)]) (h' := h) f166_133 rfl ?_
    refine y_s (pc' := 135) (L' := [some (vR (some 137)), some (vI l1), some (vI l2)]) (st' := [vI (zw (100 * l2)), vI (zw (3 + (zw (300 * l1)))), vR (some 137)]) (h' := h) f166_134 rfl ?_
    refine y_s (pc' := 136) (L' := [some (vR (some 137)), some (vI l1), some (vI l2)]) (st' := [vI (zw ((zw (3 + (zw (300 * l1)))) + (zw (100 * l2)))), vR (some 137)]) (h' := h) f166_135 rfl ?_
    refine y_s (pc' := 137) (L' := [some (vR (some 137)), some (vI l1), some (vI l2)]) (st' := [vR (some 137), vI (zw ((zw (3 + (zw (300 * l1)))) + (zw (100 * l2)))), vR (some 137)]) (h' := h) f166_136 rfl ?_
    refine y_gi (pc' := 140) f166_137 yf_8_163 rfl rfl (ys137 w) rfl ?_
    refine y_s (pc' := 141) (L' := [some (vR (some 137)), some (vI l1), some (vI l2)]) (st' := [vI (zw ((zw ((zw (3 + (zw (300 * l1)))) + (zw (100 * l2)))) + (zV h 137 12))), vR (some 137)]) (h' := h) f166_140 rfl ?_
    refine y_cI (pc' := 144) (as := [vR (some 137), vI (zw ((zw ((zw (3 + (zw (300 * l1)))) + (zw (100 * l2)))) + (zV h 137 12)))]) (r := []) f166_141 (yzv ym_8_198 rfl (ys137 w) rfl rfl) (by omega) rfl ?_
    exact k
theorem W166_144 {d : Nat} {K : Int → Hp → Prop} (w : yWF zl nl h) {l1 : Int} {l2 : Int} {s0 : Int} (k : ((s0 = 0 → K 0 h) ∧ (¬ (s0 = 0) → K 1 h))) : ZW d prog_10_method_17_code 8 144 [some (vR (some 137)), some (vI l1), some (vI l2)] [vI s0] h (yq 2 (yqI K)) := by
  refine y_if (pcT := 151) (pc' := 147) (P := s0 = 0) f166_144 rfl rfl rfl (fun c => ?_) (fun c => ?_)
  · replace k := k.1 c
    refine y_s (pc' := 152) (L' := [some (vR (some 137)), some (vI l1), some (vI l2)]) (st' := [vI 0]) (h' := h) f166_151 rfl ?_
    exact y_ri f166_152 ⟨rfl, k⟩
  · replace k := k.2 c
    refine y_s (pc' := 148) (L' := [some (vR (some 137)), some (vI l1), some (vI l2)]) (st' := [vI 1]) (h' := h) f166_147 rfl ?_
    refine y_go (pc' := 152) f166_148 rfl ?_
    exact y_ri f166_152 ⟨rfl, k⟩
/-- java/lang/String.indexOf(I)I -/
theorem E167 {d : Nat} {K : Int → Hp → Prop} (w : yWF zl nl h) {a na : Nat} (ha : yStr a na) {x0 : Int} (hd : 1 ≤ d) (k : yI (d - 1) 168 [vR (some a), vI x0, vI 0] h (fun x h' => ZW d prog_14_method_79_code 10 6 [some (vR (some a)), some (vI x0)] [vI x] h' (yq 1 (yqI K)))) : yI d 167 [vR (some a), vI x0] h K := by
  refine y_en (L := [some (vR (some a)), some (vI x0)]) rfl rfl ?_
  refine y_s (pc' := 1) (L' := [some (vR (some a)), some (vI x0)]) (st' := [vR (some a)]) (h' := h) f167_0 rfl ?_
  refine y_s (pc' := 2) (L' := [some (vR (some a)), some (vI x0)]) (st' := [vI x0, vR (some a)]) (h' := h) f167_1 rfl ?_
  refine y_s (pc' := 3) (L' := [some (vR (some a)), some (vI x0)]) (st' := [vI 0, vI x0, vR (some a)]) (h' := h) f167_2 rfl ?_
  refine y_cI (pc' := 6) (as := [vR (some a), vI x0, vI 0]) (r := []) f167_3 (yzvs ym_10_633 rfl (ysQ0 w ha) (yQ_32 ha) rfl rfl) (by omega) rfl ?_
  exact k
theorem W167_6 {d : Nat} {K : Int → Hp → Prop} (w : yWF zl nl h) {a na : Nat} (ha : yStr a na) {l1 : Int} {s0 : Int} (k : K s0 h) : ZW d prog_14_method_79_code 10 6 [some (vR (some a)), some (vI l1)] [vI s0] h (yq 1 (yqI K)) := by
  exact y_ri f167_6 ⟨rfl, k⟩
/-- java/lang/String.indexOf(II)I -/
theorem E168 {d : Nat} {K : Int → Hp → Prop} (w : yWF zl nl h) {a na : Nat} (ha : yStr a na) {x0 : Int} {x1 : Int} (hd : 1 ≤ d) (k : yI (d - 1) 55 [vR (some a)] h (fun x h' => ZW d prog_14_method_80_code 10 4 [some (vR (some a)), some (vI x0), some (vI x1)] [vI x] h' (yq 1 (yqI K)))) : yI d 168 [vR (some a), vI x0, vI x1] h K := by
  refine y_en (L := [some (vR (some a)), some (vI x0), some (vI x1)]) rfl rfl ?_
  refine y_s (pc' := 1) (L' := [some (vR (some a)), some (vI x0), some (vI x1)]) (st' := [vR (some a)]) (h' := h) f168_0 rfl ?_
  refine y_cI (pc' := 4) (as := [vR (some a)]) (r := []) f168_1 (yzvs ym_10_492 rfl (ysQ0 w ha) (yQ_32 ha) rfl rfl) (by omega) rfl ?_
  exact k
theorem W168_4 {d : Nat} {K : Int → Hp → Prop} (w : yWF zl nl h) {a na : Nat} (ha : yStr a na) {l1 : Int} {l2 : Int} {s0 : Int} (hd : 1 ≤ d) (k : ((s0 = 0 → yI (d - 1) 52 [vR (some a)] h (fun x h' => ZW d prog_14_method_80_code 10 33 [some (vR (some a)), some (vI l1), some (vI l2)] [vI x, vI l2, vI l1, vR (some (a + 1))] h' (yq 1 (yqI K)))) ∧ (¬ (s0 = 0) → yI (d - 1) 52 [vR (some a)] h (fun x h' => ZW d prog_14_method_80_code 10 17 [some (vR (some a)), some (vI l1), some (vI l2)] [vI x, vI l2, vI l1, vR (some (a + 1))] h' (yq 1 (yqI K)))))) : ZW d prog_14_method_80_code 10 4 [some (vR (some a)), some (vI l1), some (vI l2)] [vI s0] h (yq 1 (yqI K)) := by
  refine y_if (pcT := 23) (pc' := 7) (P := s0 = 0) f168_4 rfl rfl rfl (fun c => ?_) (fun c => ?_)
  · replace k := k.1 c
    refine y_s (pc' := 24) (L' := [some (vR (some a)), some (vI l1), some (vI l2)]) (st' := [vR (some a)]) (h' := h) f168_23 rfl ?_
    refine y_gq0 (pc' := 27) f168_24 yf_10_9 (ysQ0 w ha) (ypQ w ha) (yQ_32 ha) rfl ?_
    refine y_s (pc' := 28) (L' := [some (vR (some a)), some (vI l1), some (vI l2)]) (st' := [vI l1, vR (some (a + 1))]) (h' := h) f168_27 rfl ?_
    refine y_s (pc' := 29) (L' := [some (vR (some a)), some (vI l1), some (vI l2)]) (st' := [vI l2, vI l1, vR (some (a + 1))]) (h' := h) f168_28 rfl ?_
    refine y_s (pc' := 30) (L' := [some (vR (some a)), some (vI l1), some (vI l2)]) (st' := [vR (some a), vI l2, vI l1, vR (some (a + 1))]) (h' := h) f168_29 rfl ?_
    refine y_cI (pc' := 33) (as := [vR (some a)]) (r := [vI l2, vI l1, vR (some (a + 1))]) f168_30 (yzvs ym_10_505 rfl (ysQ0 w ha) (yQ_32 ha) rfl rfl) (by omega) rfl ?_
    exact k
  · replace k := k.2 c
    refine y_s (pc' := 8) (L' := [some (vR (some a)), some (vI l1), some (vI l2)]) (st' := [vR (some a)]) (h' := h) f168_7 rfl ?_
    refine y_gq0 (pc' := 11) f168_8 yf_10_9 (ysQ0 w ha) (ypQ w ha) (yQ_32 ha) rfl ?_
    refine y_s (pc' := 12) (L' := [some (vR (some a)), some (vI l1), some (vI l2)]) (st' := [vI l1, vR (some (a + 1))]) (h' := h) f168_11 rfl ?_
    refine y_s (pc' := 13) (L' := [some (vR (some a)), some (vI l1), some (vI l2)]) (st' := [vI l2, vI l1, vR (some (a + 1))]) (h' := h) f168_12 rfl ?_
    refine y_s (pc' := 14) (L' := [some (vR (some a)), some (vI l1), some (vI l2)]) (st' := [vR (some a), vI l2, vI l1, vR (some (a + 1))]) (h' := h) f168_13 rfl ?_
    refine y_cI (pc' := 17) (as := [vR (some a)]) (r := [vI l2, vI l1, vR (some (a + 1))]) f168_14 (yzvs ym_10_505 rfl (ysQ0 w ha) (yQ_32 ha) rfl rfl) (by omega) rfl ?_
    exact k
theorem W168_17 {d : Nat} {K : Int → Hp → Prop} (w : yWF zl nl h) {a na : Nat} (ha : yStr a na) {l1 : Int} {l2 : Int} {s1 : Int} {s2 : Int} {s3 : Int} (hd : 1 ≤ d) (k : yI (d - 1) 169 [vR (some (a + 1)), vI s1, vI s2, vI s3] h (fun x h' => ZW d prog_14_method_80_code 10 20 [some (vR (some a)), some (vI l1), some (vI l2)] [vI x] h' (yq 1 (yqI K)))) : ZW d prog_14_method_80_code 10 17 [some (vR (some a)), some (vI l1), some (vI l2)] [vI s3, vI s2, vI s1, vR (some (a + 1))] h (yq 1 (yqI K)) := by
  refine y_cI (pc' := 20) (as := [vR (some (a + 1)), vI s1, vI s2, vI s3]) (r := []) f168_17 rfl (by omega) rfl ?_
  exact k
theorem W168_20 {d : Nat} {K : Int → Hp → Prop} (w : yWF zl nl h) {a na : Nat} (ha : yStr a na) {l1 : Int} {l2 : Int} {s0 : Int} (k : K s0 h) : ZW d prog_14_method_80_code 10 20 [some (vR (some a)), some (vI l1), some (vI l2)] [vI s0] h (yq 1 (yqI K)) := by
  refine y_go (pc' := 36) f168_20 rfl ?_
  exact y_ri f168_36 ⟨rfl, k⟩
theorem W168_33 {d : Nat} {K : Int → Hp → Prop} (w : yWF zl nl h) {a na : Nat} (ha : yStr a na) {l1 : Int} {l2 : Int} {s1 : Int} {s2 : Int} {s3 : Int} (hd : 1 ≤ d) (k : yI (d - 1) 173 [vR (some (a + 1)), vI s1, vI s2, vI s3] h (fun x h' => ZW d prog_14_method_80_code 10 36 [some (vR (some a)), some (vI l1), some (vI l2)] [vI x] h' (yq 1 (yqI K)))) : ZW d prog_14_method_80_code 10 33 [some (vR (some a)), some (vI l1), some (vI l2)] [vI s3, vI s2, vI s1, vR (some (a + 1))] h (yq 1 (yqI K)) := by
  refine y_cI (pc' := 36) (as := [vR (some (a + 1)), vI s1, vI s2, vI s3]) (r := []) f168_33 rfl (by omega) rfl ?_
  exact k
theorem W168_36 {d : Nat} {K : Int → Hp → Prop} (w : yWF zl nl h) {a na : Nat} (ha : yStr a na) {l1 : Int} {l2 : Int} {s0 : Int} (k : K s0 h) : ZW d prog_14_method_80_code 10 36 [some (vR (some a)), some (vI l1), some (vI l2)] [vI s0] h (yq 1 (yqI K)) := by
  exact y_ri f168_36 ⟨rfl, k⟩
/-- java/lang/StringLatin1.indexOf([BIII)I -/
theorem E169 {d : Nat} {K : Int → Hp → Prop} (w : yWF zl nl h) {a na : Nat} (ha : yStr a na) {x1 : Int} {x2 : Int} {x3 : Int} (hd : 1 ≤ d) (k : yI (d - 1) 170 [vI x1] h (fun x h' => ZW d prog_15_method_22_code 11 4 [some (vR (some (a + 1))), some (vI x1), some (vI x2), some (vI x3)] [vI x] h' (yq 1 (yqI K)))) : yI d 169 [vR (some (a + 1)), vI x1, vI x2, vI x3] h K := by
  refine y_en (L := [some (vR (some (a + 1))), some (vI x1), some (vI x2), some (vI x3)]) rfl rfl ?_
  refine y_s (pc' := 1) (L' := [some (vR (some (a + 1))), some (vI x1), some (vI x2), some (vI x3)]) (st' := [vI x1]) (h' := h) f169_0 rfl ?_
  refine y_cI (pc' := 4) (as := [vI x1]) (r := []) f169_1 rfl (by omega) rfl ?_
  exact k
theorem W169_4 {d : Nat} {K : Int → Hp → Prop} (w : yWF zl nl h) {a na : Nat} (ha : yStr a na) {l1 : Int} {l2 : Int} {l3 : Int} {s0 : Int} (hd : 1 ≤ d) (k : ((s0 ≠ 0 → (((ymax l2 0) < (ymin l3 (na : Int)) → yI (d - 1) 172 [vR (some (a + 1)), vI l1, vI (ymax l2 0), vI (ymin l3 (na : Int))] h (fun x h' => ZW d prog_15_method_22_code 11 36 [some (vR (some (a + 1))), some (vI l1), some (vI (ymax l2 0)), some (vI (ymin l3 (na : Int)))] [vI x] h' (yq 1 (yqI K)))) ∧ (¬ ((ymax l2 0) < (ymin l3 (na : Int))) → K (-1) h))) ∧ (¬ (s0 ≠ 0) → K (-1) h))) : ZW d prog_15_method_22_code 11 4 [some (vR (some (a + 1))), some (vI l1), some (vI l2), some (vI l3)] [vI s0] h (yq 1 (yqI K)) := by
  refine y_if (pcT := 9) (pc' := 7) (P := s0 ≠ 0) f169_4 rfl rfl rfl (fun c => ?_) (fun c => ?_)
  · replace k := k.1 c
    refine y_s (pc' := 10) (L' := [some (vR (some (a + 1))), some (vI l1), some (vI l2), some (vI l3)]) (st' := [vI l2]) (h' := h) f169_9 rfl ?_
    refine y_s (pc' := 11) (L' := [some (vR (some (a + 1))), some (vI l1), some (vI l2), some (vI l3)]) (st' := [vI 0, vI l2]) (h' := h) f169_10 rfl ?_
    refine y_mx (pc' := 14) f169_11 ym_11_92 (by omega) rfl rfl ?_
    refine y_sto (pc' := 15) (k := 2) (L' := [some (vR (some (a + 1))), some (vI l1), some (vI (ymax l2 0)), some (vI l3)]) f169_14 rfl rfl rfl rfl rfl rfl ?_
    refine y_s (pc' := 16) (L' := [some (vR (some (a + 1))), some (vI l1), some (vI (ymax l2 0)), some (vI l3)]) (st' := [vI l3]) (h' := h) f169_15 rfl ?_
    refine y_s (pc' := 17) (L' := [some (vR (some (a + 1))), some (vI l1), some (vI (ymax l2 0)), some (vI l3)]) (st' := [vR (some (a + 1)), vI l3]) (h' := h) f169_16 rfl ?_
    refine y_alb (pc' := 18) f169_17 (ysQ1 w ha) (yQ1_32 ha) (by have := yQ_n ha; omega) rfl ?_
    refine y_mn (pc' := 21) f169_18 ym_11_38 (by omega) rfl rfl ?_
    refine y_sto (pc' := 22) (k := 3) (L' := [some (vR (some (a + 1))), some (vI l1), some (vI (ymax l2 0)), some (vI (ymin l3 (na : Int)))]) f169_21 rfl rfl rfl rfl rfl rfl ?_
    refine y_s (pc' := 23) (L' := [some (vR (some (a + 1))), some (vI l1), some (vI (ymax l2 0)), some (vI (ymin l3 (na : Int)))]) (st' := [vI (ymax l2 0)]) (h' := h) f169_22 rfl ?_
    refine y_s (pc' := 24) (L' := [some (vR (some (a + 1))), some (vI l1), some (vI (ymax l2 0)), some (vI (ymin l3 (na : Int)))]) (st' := [vI (ymin l3 (na : Int)), vI (ymax l2 0)]) (h' := h) f169_23 rfl ?_
    refine y_ic (pcT := 29) (pc' := 27) (P := (ymax l2 0) < (ymin l3 (na : Int))) f169_24 rfl rfl rfl (fun c => ?_) (fun c => ?_)
    · replace k := k.1 c
      refine y_s (pc' := 30) (L' := [some (vR (some (a + 1))), some (vI l1), some (vI (ymax l2 0)), some (vI (ymin l3 (na : Int)))]) (st' := [vR (some (a + 1))]) (h' := h) f169_29 rfl ?_
      refine y_s (pc' := 31) (L' := [some (vR (some (a + 1))), some (vI l1), some (vI (ymax l2 0)), some (vI (ymin l3 (na : Int)))]) (st' := [vI l1, vR (some (a + 1))]) (h' := h) f169_30 rfl ?_
      refine y_s (pc' := 32) (L' := [some (vR (some (a + 1))), some (vI l1), some (vI (ymax l2 0)), some (vI (ymin l3 (na : Int)))]) (st' := [vI (ymax l2 0), vI l1, vR (some (a + 1))]) (h' := h) f169_31 rfl ?_
      refine y_s (pc' := 33) (L' := [some (vR (some (a + 1))), some (vI l1), some (vI (ymax l2 0)), some (vI (ymin l3 (na : Int)))]) (st' := [vI (ymin l3 (na : Int)), vI (ymax l2 0), vI l1, vR (some (a + 1))]) (h' := h) f169_32 rfl ?_
      refine y_cI (pc' := 36) (as := [vR (some (a + 1)), vI l1, vI (ymax l2 0), vI (ymin l3 (na : Int))]) (r := []) f169_33 rfl (by omega) rfl ?_
      exact k
    · replace k := k.2 c
      refine y_s (pc' := 28) (L' := [some (vR (some (a + 1))), some (vI l1), some (vI (ymax l2 0)), some (vI (ymin l3 (na : Int)))]) (st' := [vI (-1)]) (h' := h) f169_27 rfl ?_
      exact y_ri f169_28 ⟨rfl, k⟩
  · replace k := k.2 c
    refine y_s (pc' := 8) (L' := [some (vR (some (a + 1))), some (vI l1), some (vI l2), some (vI l3)]) (st' := [vI (-1)]) (h' := h) f169_7 rfl ?_
    exact y_ri f169_8 ⟨rfl, k⟩
theorem W169_36 {d : Nat} {K : Int → Hp → Prop} (w : yWF zl nl h) {a na : Nat} (ha : yStr a na) {l1 : Int} {l2 : Int} {l3 : Int} {s0 : Int} (k : K s0 h) : ZW d prog_15_method_22_code 11 36 [some (vR (some (a + 1))), some (vI l1), some (vI l2), some (vI l3)] [vI s0] h (yq 1 (yqI K)) := by
  exact y_ri f169_36 ⟨rfl, k⟩
/-- java/lang/StringLatin1.canEncode(I)Z -/
theorem E170 {d : Nat} {K : Int → Hp → Prop} (w : yWF zl nl h) {x0 : Int} (k : ((x0 < 0 → K 0 h) ∧ (¬ (x0 < 0) → ((255 < x0 → K 0 h) ∧ (¬ (255 < x0) → K 1 h))))) : yI d 170 [vI x0] h K := by
  refine y_en (L := [some (vI x0)]) rfl rfl ?_
  refine y_s (pc' := 1) (L' := [some (vI x0)]) (st' := [vI x0]) (h' := h) f170_0 rfl ?_
  refine y_if (pcT := 15) (pc' := 4) (P := x0 < 0) f170_1 rfl rfl rfl (fun c => ?_) (fun c => ?_)
  · replace k := k.1 c
    refine y_s (pc' := 16) (L' := [some (vI x0)]) (st' := [vI 0]) (h' := h) f170_15 rfl ?_
    exact y_ri f170_16 ⟨rfl, k⟩
  · replace k := k.2 c
    refine y_s (pc' := 5) (L' := [some (vI x0)]) (st' := [vI x0]) (h' := h) f170_4 rfl ?_
    refine y_s (pc' := 8) (L' := [some (vI x0)]) (st' := [vI 255, vI x0]) (h' := h) f170_5 rfl ?_
    refine y_ic (pcT := 15) (pc' := 11) (P := 255 < x0) f170_8 rfl rfl rfl (fun c => ?_) (fun c => ?_)
    · replace k := k.1 c
      refine y_s (pc' := 16) (L' := [some (vI x0)]) (st' := [vI 0]) (h' := h) f170_15 rfl ?_
      exact y_ri f170_16 ⟨rfl, k⟩
    · replace k := k.2 c
      refine y_s (pc' := 12) (L' := [some (vI x0)]) (st' := [vI 1]) (h' := h) f170_11 rfl ?_
      refine y_go (pc' := 16) f170_12 rfl ?_
      exact y_ri f170_16 ⟨rfl, k⟩
/-- java/lang/StringLatin1.indexOfChar([BIII)I -/
theorem E172 {d : Nat} {K : Int → Hp → Prop} (w : yWF zl nl h) {a na : Nat} (ha : yStr a na) {x1 : Int} {x2 : Int} {x3 : Int} (k : ZW d prog_15_method_23_code 11 7 [some (vR (some (a + 1))), some (vI x1), some (vI x2), some (vI x3), some (vI ((zi x1).toInt8.toInt32.toInt)), some (vI x2)] [] h (yq 1 (yqI K))) : yI d 172 [vR (some (a + 1)), vI x1, vI x2, vI x3] h K := by
  refine y_en (L := [some (vR (some (a + 1))), some (vI x1), some (vI x2), some (vI x3), none, none]) rfl rfl ?_
  refine y_s (pc' := 1) (L' := [some (vR (some (a + 1))), some (vI x1), some (vI x2), some (vI x3), none, none]) (st' := [vI x1]) (h' := h) f172_0 rfl ?_
  refine y_s (pc' := 2) (L' := [some (vR (some (a + 1))), some (vI x1), some (vI x2), some (vI x3), none, none]) (st' := [vI ((zi x1).toInt8.toInt32.toInt)]) (h' := h) f172_1 rfl ?_
  refine y_sto (pc' := 4) (k := 4) (L' := [some (vR (some (a + 1))), some (vI x1), some (vI x2), some (vI x3), some (vI ((zi x1).toInt8.toInt32.toInt)), none]) f172_2 rfl rfl rfl rfl rfl rfl ?_
  refine y_s (pc' := 5) (L' := [some (vR (some (a + 1))), some (vI x1), some (vI x2), some (vI x3), some (vI ((zi x1).toInt8.toInt32.toInt)), none]) (st' := [vI x2]) (h' := h) f172_4 rfl ?_
  refine y_sto (pc' := 7) (k := 5) (L' := [some (vR (some (a + 1))), some (vI x1), some (vI x2), some (vI x3), some (vI ((zi x1).toInt8.toInt32.toInt)), some (vI x2)]) f172_5 rfl rfl rfl rfl rfl rfl ?_
  exact k
theorem W172_7 {d : Nat} {K : Int → Hp → Prop} (w : yWF zl nl h) {a na : Nat} (ha : yStr a na) {l1 : Int} {l2 : Int} {l3 : Int} {l4 : Int} {l5 : Int} (k : ((l3 ≤ l5 → K (-1) h) ∧ (¬ (l3 ≤ l5) → ((0 ≤ l5 ∧ l5 < (na : Int)) ∧ (((zV h (a + 1) (l5).toNat) ≠ l4 → ZW d prog_15_method_23_code 11 7 [some (vR (some (a + 1))), some (vI l1), some (vI l2), some (vI l3), some (vI l4), some (vI (zw (l5 + 1)))] [] h (yq 1 (yqI K))) ∧ (¬ ((zV h (a + 1) (l5).toNat) ≠ l4) → K l5 h)))))) : ZW d prog_15_method_23_code 11 7 [some (vR (some (a + 1))), some (vI l1), some (vI l2), some (vI l3), some (vI l4), some (vI l5)] [] h (yq 1 (yqI K)) := by
  refine y_s (pc' := 9) (L' := [some (vR (some (a + 1))), some (vI l1), some (vI l2), some (vI l3), some (vI l4), some (vI l5)]) (st' := [vI l5]) (h' := h) f172_7 rfl ?_
  refine y_s (pc' := 10) (L' := [some (vR (some (a + 1))), some (vI l1), some (vI l2), some (vI l3), some (vI l4), some (vI l5)]) (st' := [vI l3, vI l5]) (h' := h) f172_9 rfl ?_
  refine y_ic (pcT := 31) (pc' := 13) (P := l3 ≤ l5) f172_10 rfl rfl rfl (fun c => ?_) (fun c => ?_)
  · replace k := k.1 c
    refine y_s (pc' := 32) (L' := [some (vR (some (a + 1))), some (vI l1), some (vI l2), some (vI l3), some (vI l4), some (vI l5)]) (st' := [vI (-1)]) (h' := h) f172_31 rfl ?_
    exact y_ri f172_32 ⟨rfl, k⟩
  · replace k := k.2 c
    refine y_s (pc' := 14) (L' := [some (vR (some (a + 1))), some (vI l1), some (vI l2), some (vI l3), some (vI l4), some (vI l5)]) (st' := [vR (some (a + 1))]) (h' := h) f172_13 rfl ?_
    refine y_s (pc' := 16) (L' := [some (vR (some (a + 1))), some (vI l1), some (vI l2), some (vI l3), some (vI l4), some (vI l5)]) (st' := [vI l5, vR (some (a + 1))]) (h' := h) f172_14 rfl ?_
    refine y_by (pc' := 17) f172_16 (ysQ1 w ha) (yQ1_32 ha) k.1 rfl ?_
    replace k := k.2
    refine y_s (pc' := 19) (L' := [some (vR (some (a + 1))), some (vI l1), some (vI l2), some (vI l3), some (vI l4), some (vI l5)]) (st' := [vI l4, vI (zV h (a + 1) (l5).toNat)]) (h' := h) f172_17 rfl ?_
    refine y_ic (pcT := 25) (pc' := 22) (P := (zV h (a + 1) (l5).toNat) ≠ l4) f172_19 rfl rfl rfl (fun c => ?_) (fun c => ?_)
    · replace k := k.1 c
      refine y_inc (pc' := 28) (L' := [some (vR (some (a + 1))), some (vI l1), some (vI l2), some (vI l3), some (vI l4), some (vI (zw (l5 + 1)))]) f172_25 rfl rfl rfl rfl ?_
      refine y_go (pc' := 7) f172_28 rfl ?_
      exact k
    · replace k := k.2 c
      refine y_s (pc' := 24) (L' := [some (vR (some (a + 1))), some (vI l1), some (vI l2), some (vI l3), some (vI l4), some (vI l5)]) (st' := [vI l5]) (h' := h) f172_22 rfl ?_
      exact y_ri f172_24 ⟨rfl, k⟩
/-- HatterTunesModel.told(I)I -/
theorem E183 {d : Nat} {K : Int → Hp → Prop} (w : yWF zl nl h) {x0 : Int} (hd : 1 ≤ d) (k : ((((0 : Int) ≤ (zw (x0 - 10)) ∧ (zw (x0 - 10)) ≤ (zw ((zV h 137 6) - 1))) → ((0 ≤ (zw (x0 - 10)) ∧ (zw (x0 - 10)) < 8) ∧ K (zV h 143 ((zw (x0 - 10))).toNat) h)) ∧ (¬ (((0 : Int) ≤ (zw (x0 - 10)) ∧ (zw (x0 - 10)) ≤ (zw ((zV h 137 6) - 1)))) → ((x0 = 0 → K (zV h 137 8) h) ∧ (x0 = 1 → yI (d - 1) 143 [vR (some 137)] h (fun x h' => ZW d prog_10_method_36_code 8 69 [some (vR (some 137)), some (vI x0)] [vI x] h' (yq 1 (yqI K)))) ∧ (x0 = 2 → yI (d - 1) 184 [vR (some 137)] h (fun x h' => ZW d prog_10_method_36_code 8 74 [some (vR (some 137)), some (vI x0)] [vI x] h' (yq 1 (yqI K)))) ∧ (x0 = 3 → yI (d - 1) 185 [vR (some 137)] h (fun x h' => ZW d prog_10_method_36_code 8 79 [some (vR (some 137)), some (vI x0)] [vI x] h' (yq 1 (yqI K)))) ∧ (x0 < 0 ∨ 3 < x0 → K (-1) h))))) : yI d 183 [vR (some 137), vI x0] h K := by
  refine y_en (L := [some (vR (some 137)), some (vI x0)]) rfl rfl ?_
  refine y_s (pc' := 1) (L' := [some (vR (some 137)), some (vI x0)]) (st' := [vI x0]) (h' := h) f183_0 rfl ?_
  refine y_s (pc' := 3) (L' := [some (vR (some 137)), some (vI x0)]) (st' := [vI 10, vI x0]) (h' := h) f183_1 rfl ?_
  refine y_s (pc' := 4) (L' := [some (vR (some 137)), some (vI x0)]) (st' := [vI (zw (x0 - 10))]) (h' := h) f183_3 rfl ?_
  refine y_s (pc' := 5) (L' := [some (vR (some 137)), some (vI x0)]) (st' := [vI 0, vI (zw (x0 - 10))]) (h' := h) f183_4 rfl ?_
  refine y_s (pc' := 6) (L' := [some (vR (some 137)), some (vI x0)]) (st' := [vR (some 137), vI 0, vI (zw (x0 - 10))]) (h' := h) f183_5 rfl ?_
  refine y_gi (pc' := 9) f183_6 yf_8_154 rfl rfl (ys137 w) rfl ?_
  refine y_s (pc' := 10) (L' := [some (vR (some 137)), some (vI x0)]) (st' := [vI 1, vI (zV h 137 6), vI 0, vI (zw (x0 - 10))]) (h' := h) f183_9 rfl ?_
  refine y_s (pc' := 11) (L' := [some (vR (some 137)), some (vI x0)]) (st' := [vI (zw ((zV h 137 6) - 1)), vI 0, vI (zw (x0 - 10))]) (h' := h) f183_10 rfl ?_
  refine y_cI (pc' := 14) (as := [vI (zw (x0 - 10)), vI 0, vI (zw ((zV h 137 6) - 1))]) (r := []) f183_11 rfl (by omega) rfl ?_
  refine sp129 w (fun c => ?_) (fun c => ?_)
  · replace k := k.1 c
    refine y_iff (pcT := 27) (pc' := 17) f183_14 rfl rfl rfl ?_
    refine y_s (pc' := 18) (L' := [some (vR (some 137)), some (vI x0)]) (st' := [vR (some 137)]) (h' := h) f183_17 rfl ?_
    refine y_gr (pc' := 21) f183_18 yf_8_27 rfl rfl (ys137 w) (yp137_7 w) rfl ?_
    refine y_s (pc' := 22) (L' := [some (vR (some 137)), some (vI x0)]) (st' := [vI x0, vR (some 143)]) (h' := h) f183_21 rfl ?_
    refine y_s (pc' := 24) (L' := [some (vR (some 137)), some (vI x0)]) (st' := [vI 10, vI x0, vR (some 143)]) (h' := h) f183_22 rfl ?_
    refine y_s (pc' := 25) (L' := [some (vR (some 137)), some (vI x0)]) (st' := [vI (zw (x0 - 10)), vR (some 143)]) (h' := h) f183_24 rfl ?_
    refine y_ia (pc' := 26) (x := (zV h 143 ((zw (x0 - 10))).toNat)) f183_25 (ys143 w) k.1 rfl rfl ?_
    replace k := k.2
    exact y_ri f183_26 ⟨rfl, k⟩
  · replace k := k.2 c
    refine y_ift (pcT := 27) f183_14 rfl rfl ?_
    refine y_s (pc' := 28) (L' := [some (vR (some 137)), some (vI x0)]) (st' := [vI x0]) (h' := h) f183_27 rfl ?_
    by_cases c : x0 = 0
    · refine y_tc (pc' := 60) (v := 0) f183_28 c rfl rfl rfl ?_
      replace k := k.1 c
      refine y_s (pc' := 61) (L' := [some (vR (some 137)), some (vI x0)]) (st' := [vR (some 137)]) (h' := h) f183_60 rfl ?_
      refine y_gi (pc' := 64) f183_61 yf_8_235 rfl rfl (ys137 w) rfl ?_
      exact y_ri f183_64 ⟨rfl, k⟩
    replace k := k.2
    have c0 := c
    by_cases c : x0 = 1
    · refine y_tc (pc' := 65) (v := 1) f183_28 c rfl rfl rfl ?_
      replace k := k.1 c
      refine y_s (pc' := 66) (L' := [some (vR (some 137)), some (vI x0)]) (st' := [vR (some 137)]) (h' := h) f183_65 rfl ?_
      refine y_cI (pc' := 69) (as := [vR (some 137)]) (r := []) f183_66 (yzv ym_8_257 rfl (ys137 w) rfl rfl) (by omega) rfl ?_
      exact k
    replace k := k.2
    have c1 := c
    by_cases c : x0 = 2
    · refine y_tc (pc' := 70) (v := 2) f183_28 c rfl rfl rfl ?_
      replace k := k.1 c
      refine y_s (pc' := 71) (L' := [some (vR (some 137)), some (vI x0)]) (st' := [vR (some 137)]) (h' := h) f183_70 rfl ?_
      refine y_cI (pc' := 74) (as := [vR (some 137)]) (r := []) f183_71 (yzv ym_8_260 rfl (ys137 w) rfl rfl) (by omega) rfl ?_
      exact k
    replace k := k.2
    have c2 := c
    by_cases c : x0 = 3
    · refine y_tc (pc' := 75) (v := 3) f183_28 c rfl rfl rfl ?_
      replace k := k.1 c
      refine y_s (pc' := 76) (L' := [some (vR (some 137)), some (vI x0)]) (st' := [vR (some 137)]) (h' := h) f183_75 rfl ?_
      refine y_cI (pc' := 79) (as := [vR (some 137)]) (r := []) f183_76 (yzv ym_8_263 rfl (ys137 w) rfl rfl) (by omega) rfl ?_
      exact k
    replace k := k.2
    have c3 := c
    have cc : x0 < 0 ∨ 3 < x0 := by omega
    refine y_td (pc' := 80) f183_28 cc rfl ?_
    replace k := k cc
    refine y_s (pc' := 81) (L' := [some (vR (some 137)), some (vI x0)]) (st' := [vI (-1)]) (h' := h) f183_80 rfl ?_
    exact y_ri f183_81 ⟨rfl, k⟩
theorem W183_69 {d : Nat} {K : Int → Hp → Prop} (w : yWF zl nl h) {l1 : Int} {s0 : Int} (k : K s0 h) : ZW d prog_10_method_36_code 8 69 [some (vR (some 137)), some (vI l1)] [vI s0] h (yq 1 (yqI K)) := by
  exact y_ri f183_69 ⟨rfl, k⟩
theorem W183_74 {d : Nat} {K : Int → Hp → Prop} (w : yWF zl nl h) {l1 : Int} {s0 : Int} (k : K s0 h) : ZW d prog_10_method_36_code 8 74 [some (vR (some 137)), some (vI l1)] [vI s0] h (yq 1 (yqI K)) := by
  exact y_ri f183_74 ⟨rfl, k⟩
theorem W183_79 {d : Nat} {K : Int → Hp → Prop} (w : yWF zl nl h) {l1 : Int} {s0 : Int} (k : K s0 h) : ZW d prog_10_method_36_code 8 79 [some (vR (some 137)), some (vI l1)] [vI s0] h (yq 1 (yqI K)) := by
  exact y_ri f183_79 ⟨rfl, k⟩
/-- HatterTunesModel.pass(I)I -/
theorem E186 {d : Nat} {K : Int → Hp → Prop} (w : yWF zl nl h) {x0 : Int} (hd : 1 ≤ d) (k : ((((0 : Int) ≤ x0 ∧ x0 ≤ 60) → (((zw ((zV h 137 8) + x0)) ≤ 9999 → ZW d prog_10_method_37_code 8 30 [some (vR (some 137)), some (vI x0), some (vI 0), none] [] h (yq 1 (yqI K))) ∧ (¬ ((zw ((zV h 137 8) + x0)) ≤ 9999) → K (-3) h))) ∧ (¬ (((0 : Int) ≤ x0 ∧ x0 ≤ 60)) → K (-2) h))) : yI d 186 [vR (some 137), vI x0] h K := by
  refine y_en (L := [some (vR (some 137)), some (vI x0), none, none]) rfl rfl ?_
  refine y_s (pc' := 1) (L' := [some (vR (some 137)), some (vI x0), none, none]) (st' := [vI x0]) (h' := h) f186_0 rfl ?_
  refine y_s (pc' := 2) (L' := [some (vR (some 137)), some (vI x0), none, none]) (st' := [vI 0, vI x0]) (h' := h) f186_1 rfl ?_
  refine y_s (pc' := 4) (L' := [some (vR (some 137)), some (vI x0), none, none]) (st' := [vI 60, vI 0, vI x0]) (h' := h) f186_2 rfl ?_
  refine y_cI (pc' := 7) (as := [vI x0, vI 0, vI 60]) (r := []) f186_4 rfl (by omega) rfl ?_
  refine sp129 w (fun c => ?_) (fun c => ?_)
  · replace k := k.1 c
    refine y_ift (pcT := 13) f186_7 rfl rfl ?_
    refine y_s (pc' := 14) (L' := [some (vR (some 137)), some (vI x0), none, none]) (st' := [vR (some 137)]) (h' := h) f186_13 rfl ?_
    refine y_gi (pc' := 17) f186_14 yf_8_235 rfl rfl (ys137 w) rfl ?_
    refine y_s (pc' := 18) (L' := [some (vR (some 137)), some (vI x0), none, none]) (st' := [vI x0, vI (zV h 137 8)]) (h' := h) f186_17 rfl ?_
    refine y_s (pc' := 19) (L' := [some (vR (some 137)), some (vI x0), none, none]) (st' := [vI (zw ((zV h 137 8) + x0))]) (h' := h) f186_18 rfl ?_
    refine y_s (pc' := 22) (L' := [some (vR (some 137)), some (vI x0), none, none]) (st' := [vI 9999, vI (zw ((zV h 137 8) + x0))]) (h' := h) f186_19 rfl ?_
    refine y_ic (pcT := 28) (pc' := 25) (P := (zw ((zV h 137 8) + x0)) ≤ 9999) f186_22 rfl rfl rfl (fun c => ?_) (fun c => ?_)
    · replace k := k.1 c
      refine y_s (pc' := 29) (L' := [some (vR (some 137)), some (vI x0), none, none]) (st' := [vI 0]) (h' := h) f186_28 rfl ?_
      refine y_sto (pc' := 30) (k := 2) (L' := [some (vR (some 137)), some (vI x0), some (vI 0), none]) f186_29 rfl rfl rfl rfl rfl rfl ?_
      exact k
    · replace k := k.2 c
      refine y_s (pc' := 27) (L' := [some (vR (some 137)), some (vI x0), none, none]) (st' := [vI (-3)]) (h' := h) f186_25 rfl ?_
      exact y_ri f186_27 ⟨rfl, k⟩
  · replace k := k.2 c
    refine y_iff (pcT := 13) (pc' := 10) f186_7 rfl rfl rfl ?_
    refine y_s (pc' := 12) (L' := [some (vR (some 137)), some (vI x0), none, none]) (st' := [vI (-2)]) (h' := h) f186_10 rfl ?_
    exact y_ri f186_12 ⟨rfl, k⟩
theorem W186_30 {d : Nat} {K : Int → Hp → Prop} (w : yWF zl nl h) {l1 : Int} {l2 : Int} {l3 : Option Int} (hd : 1 ≤ d) (k : ((l1 ≤ l2 → K (zV h 137 8) h) ∧ (¬ (l1 ≤ l2) → yU (d - 1) 142 [vR (some 137)] h (fun h' => ZW d prog_10_method_37_code 8 39 [some (vR (some 137)), some (vI l1), some (vI l2), yo l3] [] h' (yq 1 (yqI K)))))) : ZW d prog_10_method_37_code 8 30 [some (vR (some 137)), some (vI l1), some (vI l2), yo l3] [] h (yq 1 (yqI K)) := by
  refine y_s (pc' := 31) (L' := [some (vR (some 137)), some (vI l1), some (vI l2), yo l3]) (st' := [vI l2]) (h' := h) f186_30 rfl ?_
  refine y_s (pc' := 32) (L' := [some (vR (some 137)), some (vI l1), some (vI l2), yo l3]) (st' := [vI l1, vI l2]) (h' := h) f186_31 rfl ?_
  refine y_ic (pcT := 79) (pc' := 35) (P := l1 ≤ l2) f186_32 rfl rfl rfl (fun c => ?_) (fun c => ?_)
  · replace k := k.1 c
    refine y_s (pc' := 80) (L' := [some (vR (some 137)), some (vI l1), some (vI l2), yo l3]) (st' := [vR (some 137)]) (h' := h) f186_79 rfl ?_
    refine y_gi (pc' := 83) f186_80 yf_8_235 rfl rfl (ys137 w) rfl ?_
    exact y_ri f186_83 ⟨rfl, k⟩
  · replace k := k.2 c
    refine y_s (pc' := 36) (L' := [some (vR (some 137)), some (vI l1), some (vI l2), yo l3]) (st' := [vR (some 137)]) (h' := h) f186_35 rfl ?_
    refine y_cU (pc' := 39) (as := [vR (some 137)]) (r := []) f186_36 (yzv ym_8_266 rfl (ys137 w) rfl rfl) (by omega) rfl ?_
    exact k
theorem W186_39 {d : Nat} {K : Int → Hp → Prop} (w : yWF zl nl h) {l1 : Int} {l2 : Int} {l3 : Option Int} (k : ZW d prog_10_method_37_code 8 41 [some (vR (some 137)), some (vI l1), some (vI l2), some (vI 0)] [] h (yq 1 (yqI K))) : ZW d prog_10_method_37_code 8 39 [some (vR (some 137)), some (vI l1), some (vI l2), yo l3] [] h (yq 1 (yqI K)) := by
  refine y_s (pc' := 40) (L' := [some (vR (some 137)), some (vI l1), some (vI l2), yo l3]) (st' := [vI 0]) (h' := h) f186_39 rfl ?_
  refine y_sto (pc' := 41) (k := 3) (L' := [some (vR (some 137)), some (vI l1), some (vI l2), some (vI 0)]) f186_40 rfl rfl rfl rfl rfl rfl ?_
  exact k
theorem W186_41 {d : Nat} {K : Int → Hp → Prop} (w : yWF zl nl h) {l1 : Int} {l2 : Int} {l3 : Int} (hd : 1 ≤ d) (k : (((zV h 137 0) ≤ l3 → ZW d prog_10_method_37_code 8 30 [some (vR (some 137)), some (vI l1), some (vI (zw (l2 + 1))), some (vI l3)] [] h (yq 1 (yqI K))) ∧ (¬ ((zV h 137 0) ≤ l3) → ((0 ≤ l3 ∧ l3 < 6) ∧ ((0 ≤ l3 ∧ l3 < 6) ∧ ZW d prog_10_method_37_code 8 41 [some (vR (some 137)), some (vI l1), some (vI l2), some (vI (zw (l3 + 1)))] [] (zsetV h 141 (l3).toNat (ymin 9999 (zV h 141 (l3).toNat))) (yq 1 (yqI K))))))) : ZW d prog_10_method_37_code 8 41 [some (vR (some 137)), some (vI l1), some (vI l2), some (vI l3)] [] h (yq 1 (yqI K)) := by
  refine y_s (pc' := 42) (L' := [some (vR (some 137)), some (vI l1), some (vI l2), some (vI l3)]) (st' := [vI l3]) (h' := h) f186_41 rfl ?_
  refine y_s (pc' := 43) (L' := [some (vR (some 137)), some (vI l1), some (vI l2), some (vI l3)]) (st' := [vR (some 137), vI l3]) (h' := h) f186_42 rfl ?_
  refine y_gi (pc' := 46) f186_43 yf_8_114 rfl rfl (ys137 w) rfl ?_
  refine y_ic (pcT := 73) (pc' := 49) (P := (zV h 137 0) ≤ l3) f186_46 rfl rfl rfl (fun c => ?_) (fun c => ?_)
  · replace k := k.1 c
    refine y_inc (pc' := 76) (L' := [some (vR (some 137)), some (vI l1), some (vI (zw (l2 + 1))), some (vI l3)]) f186_73 rfl rfl rfl rfl ?_
    refine y_go (pc' := 30) f186_76 rfl ?_
    exact k
  · replace k := k.2 c
    refine y_s (pc' := 50) (L' := [some (vR (some 137)), some (vI l1), some (vI l2), some (vI l3)]) (st' := [vR (some 137)]) (h' := h) f186_49 rfl ?_
    refine y_gr (pc' := 53) f186_50 yf_8_21 rfl rfl (ys137 w) (yp137_4 w) rfl ?_
    refine y_s (pc' := 54) (L' := [some (vR (some 137)), some (vI l1), some (vI l2), some (vI l3)]) (st' := [vI l3, vR (some 141)]) (h' := h) f186_53 rfl ?_
    refine y_s (pc' := 57) (L' := [some (vR (some 137)), some (vI l1), some (vI l2), some (vI l3)]) (st' := [vI 9999, vI l3, vR (some 141)]) (h' := h) f186_54 rfl ?_
    refine y_s (pc' := 58) (L' := [some (vR (some 137)), some (vI l1), some (vI l2), some (vI l3)]) (st' := [vR (some 137), vI 9999, vI l3, vR (some 141)]) (h' := h) f186_57 rfl ?_
    refine y_gr (pc' := 61) f186_58 yf_8_21 rfl rfl (ys137 w) (yp137_4 w) rfl ?_
    refine y_s (pc' := 62) (L' := [some (vR (some 137)), some (vI l1), some (vI l2), some (vI l3)]) (st' := [vI l3, vR (some 141), vI 9999, vI l3, vR (some 141)]) (h' := h) f186_61 rfl ?_
    refine y_ia (pc' := 63) (x := (zV h 141 (l3).toNat)) f186_62 (ys141 w) k.1 rfl rfl ?_
    replace k := k.2
    refine y_mn (pc' := 66) f186_63 ym_8_248 (by omega) rfl rfl ?_
    refine y_is (pc' := 67) (h' := (zsetV h 141 (l3).toNat (ymin 9999 (zV h 141 (l3).toNat)))) f186_66 (ys141 w) (by decide) k.1 rfl rfl ?_
    replace k := k.2
    refine y_inc (pc' := 70) (L' := [some (vR (some 137)), some (vI l1), some (vI l2), some (vI (zw (l3 + 1)))]) f186_67 rfl rfl rfl rfl ?_
    refine y_go (pc' := 41) f186_70 rfl ?_
    exact k
/-- HatterTunesModel.shared(II)I -/
theorem E187 {d : Nat} {K : Int → Hp → Prop} (w : yWF zl nl h) {x0 : Int} {x1 : Int} (hd : 2 ≤ d) (k : (((0 : Int) ≤ zV h 137 0 ∧ zV h 137 0 ≤ 6) ∧ ((((0 : Int) ≤ x0 ∧ x0 < zV h 137 0) → (((0 : Int) ≤ zV h 137 0 ∧ zV h 137 0 ≤ 6) ∧ ((((0 : Int) ≤ x1 ∧ x1 < zV h 137 0) → yI (d - 1) 188 [vR (some 137), vI x0, vI x1] h (fun x h' => ZW d prog_10_method_41_code 8 22 [some (vR (some 137)), some (vI x0), some (vI x1)] [vI x] h' (yq 1 (yqI K)))) ∧ (¬ (((0 : Int) ≤ x1 ∧ x1 < zV h 137 0)) → K (-1) h)))) ∧ (¬ (((0 : Int) ≤ x0 ∧ x0 < zV h 137 0)) → K (-1) h)))) : yI d 187 [vR (some 137), vI x0, vI x1] h K := by
  refine y_en (L := [some (vR (some 137)), some (vI x0), some (vI x1)]) rfl rfl ?_
  refine y_s (pc' := 1) (L' := [some (vR (some 137)), some (vI x0), some (vI x1)]) (st' := [vR (some 137)]) (h' := h) f187_0 rfl ?_
  refine y_s (pc' := 2) (L' := [some (vR (some 137)), some (vI x0), some (vI x1)]) (st' := [vI x0, vR (some 137)]) (h' := h) f187_1 rfl ?_
  refine y_cI (pc' := 5) (as := [vR (some 137), vI x0]) (r := []) f187_2 (yzv ym_8_121 rfl (ys137 w) rfl rfl) (by omega) rfl ?_
  have p0 := k.1
  replace k := k.2
  refine sp131 w (by omega) p0 (fun c => ?_) (fun c => ?_)
  · replace k := k.1 c
    refine y_iff (pcT := 25) (pc' := 8) f187_5 rfl rfl rfl ?_
    refine y_s (pc' := 9) (L' := [some (vR (some 137)), some (vI x0), some (vI x1)]) (st' := [vR (some 137)]) (h' := h) f187_8 rfl ?_
    refine y_s (pc' := 10) (L' := [some (vR (some 137)), some (vI x0), some (vI x1)]) (st' := [vI x1, vR (some 137)]) (h' := h) f187_9 rfl ?_
    refine y_cI (pc' := 13) (as := [vR (some 137), vI x1]) (r := []) f187_10 (yzv ym_8_121 rfl (ys137 w) rfl rfl) (by omega) rfl ?_
    have p0 := k.1
    replace k := k.2
    refine sp131 w (by omega) p0 (fun c => ?_) (fun c => ?_)
    · replace k := k.1 c
      refine y_iff (pcT := 25) (pc' := 16) f187_13 rfl rfl rfl ?_
      refine y_s (pc' := 17) (L' := [some (vR (some 137)), some (vI x0), some (vI x1)]) (st' := [vR (some 137)]) (h' := h) f187_16 rfl ?_
      refine y_s (pc' := 18) (L' := [some (vR (some 137)), some (vI x0), some (vI x1)]) (st' := [vI x0, vR (some 137)]) (h' := h) f187_17 rfl ?_
      refine y_s (pc' := 19) (L' := [some (vR (some 137)), some (vI x0), some (vI x1)]) (st' := [vI x1, vI x0, vR (some 137)]) (h' := h) f187_18 rfl ?_
      refine y_cI (pc' := 22) (as := [vR (some 137), vI x0, vI x1]) (r := []) f187_19 (yzv ym_8_276 rfl (ys137 w) rfl rfl) (by omega) rfl ?_
      exact k
    · replace k := k.2 c
      refine y_ift (pcT := 25) f187_13 rfl rfl ?_
      refine y_s (pc' := 26) (L' := [some (vR (some 137)), some (vI x0), some (vI x1)]) (st' := [vI (-1)]) (h' := h) f187_25 rfl ?_
      exact y_ri f187_26 ⟨rfl, k⟩
  · replace k := k.2 c
    refine y_ift (pcT := 25) f187_5 rfl rfl ?_
    refine y_s (pc' := 26) (L' := [some (vR (some 137)), some (vI x0), some (vI x1)]) (st' := [vI (-1)]) (h' := h) f187_25 rfl ?_
    exact y_ri f187_26 ⟨rfl, k⟩
theorem W187_22 {d : Nat} {K : Int → Hp → Prop} (w : yWF zl nl h) {l1 : Int} {l2 : Int} {s0 : Int} (k : K s0 h) : ZW d prog_10_method_41_code 8 22 [some (vR (some 137)), some (vI l1), some (vI l2)] [vI s0] h (yq 1 (yqI K)) := by
  refine y_go (pc' := 26) f187_22 rfl ?_
  exact y_ri f187_26 ⟨rfl, k⟩
/-- HatterTunesModel.anthem(II)I -/
theorem E189 {d : Nat} {K : Int → Hp → Prop} (w : yWF zl nl h) {x0 : Int} {x1 : Int} (hd : 1 ≤ d) (k : (((((-1) : Int) ≤ x1 ∧ x1 ≤ 5) → ((((0 : Int) ≤ x0 ∧ x0 ≤ (zw ((zshl 1 (zV h 137 0)) - 1))) → yU (d - 1) 190 [vR (some 137), vI 0, vI x0, vI 0] (zsetV h 137 45 9999) (fun h' => ZW d prog_10_method_43_code 8 44 [some (vR (some 137)), some (vI x0), some (vI x1)] [] h' (yq 1 (yqI K)))) ∧ (¬ (((0 : Int) ≤ x0 ∧ x0 ≤ (zw ((zshl 1 (zV h 137 0)) - 1)))) → K (-2) h))) ∧ (¬ ((((-1) : Int) ≤ x1 ∧ x1 ≤ 5)) → K (-1) h))) : yI d 189 [vR (some 137), vI x0, vI x1] h K := by
  refine y_en (L := [some (vR (some 137)), some (vI x0), some (vI x1)]) rfl rfl ?_
  refine y_s (pc' := 1) (L' := [some (vR (some 137)), some (vI x0), some (vI x1)]) (st' := [vI x1]) (h' := h) f189_0 rfl ?_
  refine y_s (pc' := 2) (L' := [some (vR (some 137)), some (vI x0), some (vI x1)]) (st' := [vI (-1), vI x1]) (h' := h) f189_1 rfl ?_
  refine y_s (pc' := 3) (L' := [some (vR (some 137)), some (vI x0), some (vI x1)]) (st' := [vI 5, vI (-1), vI x1]) (h' := h) f189_2 rfl ?_
  refine y_cI (pc' := 6) (as := [vI x1, vI (-1), vI 5]) (r := []) f189_3 rfl (by omega) rfl ?_
  refine sp129 w (fun c => ?_) (fun c => ?_)
  · replace k := k.1 c
    refine y_ift (pcT := 11) f189_6 rfl rfl ?_
    refine y_s (pc' := 12) (L' := [some (vR (some 137)), some (vI x0), some (vI x1)]) (st' := [vI x0]) (h' := h) f189_11 rfl ?_
    refine y_s (pc' := 13) (L' := [some (vR (some 137)), some (vI x0), some (vI x1)]) (st' := [vI 0, vI x0]) (h' := h) f189_12 rfl ?_
    refine y_s (pc' := 14) (L' := [some (vR (some 137)), some (vI x0), some (vI x1)]) (st' := [vI 1, vI 0, vI x0]) (h' := h) f189_13 rfl ?_
    refine y_s (pc' := 15) (L' := [some (vR (some 137)), some (vI x0), some (vI x1)]) (st' := [vR (some 137), vI 1, vI 0, vI x0]) (h' := h) f189_14 rfl ?_
    refine y_gi (pc' := 18) f189_15 yf_8_114 rfl rfl (ys137 w) rfl ?_
    refine y_s (pc' := 19) (L' := [some (vR (some 137)), some (vI x0), some (vI x1)]) (st' := [vI (zshl 1 (zV h 137 0)), vI 0, vI x0]) (h' := h) f189_18 rfl ?_
    refine y_s (pc' := 20) (L' := [some (vR (some 137)), some (vI x0), some (vI x1)]) (st' := [vI 1, vI (zshl 1 (zV h 137 0)), vI 0, vI x0]) (h' := h) f189_19 rfl ?_
    refine y_s (pc' := 21) (L' := [some (vR (some 137)), some (vI x0), some (vI x1)]) (st' := [vI (zw ((zshl 1 (zV h 137 0)) - 1)), vI 0, vI x0]) (h' := h) f189_20 rfl ?_
    refine y_cI (pc' := 24) (as := [vI x0, vI 0, vI (zw ((zshl 1 (zV h 137 0)) - 1))]) (r := []) f189_21 rfl (by omega) rfl ?_
    refine sp129 w (fun c => ?_) (fun c => ?_)
    · replace k := k.1 c
      refine y_ift (pcT := 30) f189_24 rfl rfl ?_
      refine y_s (pc' := 31) (L' := [some (vR (some 137)), some (vI x0), some (vI x1)]) (st' := [vR (some 137)]) (h' := h) f189_30 rfl ?_
      refine y_s (pc' := 34) (L' := [some (vR (some 137)), some (vI x0), some (vI x1)]) (st' := [vI 9999, vR (some 137)]) (h' := h) f189_31 rfl ?_
      refine y_pi (pc' := 37) f189_34 yf_8_279 rfl rfl (ys137 w) (by decide) (Or.inl rfl) rfl ?_
      refine y_s (pc' := 38) (L' := [some (vR (some 137)), some (vI x0), some (vI x1)]) (st' := [vR (some 137)]) (h' := (zsetV h 137 45 9999)) f189_37 rfl ?_
      refine y_s (pc' := 39) (L' := [some (vR (some 137)), some (vI x0), some (vI x1)]) (st' := [vI 0, vR (some 137)]) (h' := (zsetV h 137 45 9999)) f189_38 rfl ?_
      refine y_s (pc' := 40) (L' := [some (vR (some 137)), some (vI x0), some (vI x1)]) (st' := [vI x0, vI 0, vR (some 137)]) (h' := (zsetV h 137 45 9999)) f189_39 rfl ?_
      refine y_s (pc' := 41) (L' := [some (vR (some 137)), some (vI x0), some (vI x1)]) (st' := [vI 0, vI x0, vI 0, vR (some 137)]) (h' := (zsetV h 137 45 9999)) f189_40 rfl ?_
      refine y_cU (pc' := 44) (as := [vR (some 137), vI 0, vI x0, vI 0]) (r := []) f189_41 (yzv ym_8_282 rfl (ys137 w) rfl rfl) (by omega) rfl ?_
      exact k
    · replace k := k.2 c
      refine y_iff (pcT := 30) (pc' := 27) f189_24 rfl rfl rfl ?_
      refine y_s (pc' := 29) (L' := [some (vR (some 137)), some (vI x0), some (vI x1)]) (st' := [vI (-2)]) (h' := h) f189_27 rfl ?_
      exact y_ri f189_29 ⟨rfl, k⟩
  · replace k := k.2 c
    refine y_iff (pcT := 11) (pc' := 9) f189_6 rfl rfl rfl ?_
    refine y_s (pc' := 10) (L' := [some (vR (some 137)), some (vI x0), some (vI x1)]) (st' := [vI (-1)]) (h' := h) f189_9 rfl ?_
    exact y_ri f189_10 ⟨rfl, k⟩
theorem W189_44 {d : Nat} {K : Int → Hp → Prop} (w : yWF zl nl h) {l1 : Int} {l2 : Int} (k : ((l2 ≠ (-1) → ((0 ≤ l2 ∧ l2 < 6) ∧ K (zV h 166 (l2).toNat) h)) ∧ (¬ (l2 ≠ (-1)) → K (zV h 137 45) h))) : ZW d prog_10_method_43_code 8 44 [some (vR (some 137)), some (vI l1), some (vI l2)] [] h (yq 1 (yqI K)) := by
  refine y_s (pc' := 45) (L' := [some (vR (some 137)), some (vI l1), some (vI l2)]) (st' := [vI l2]) (h' := h) f189_44 rfl ?_
  refine y_s (pc' := 46) (L' := [some (vR (some 137)), some (vI l1), some (vI l2)]) (st' := [vI (-1), vI l2]) (h' := h) f189_45 rfl ?_
  refine y_ic (pcT := 56) (pc' := 49) (P := l2 ≠ (-1)) f189_46 rfl rfl rfl (fun c => ?_) (fun c => ?_)
  · replace k := k.1 c
    refine y_s (pc' := 57) (L' := [some (vR (some 137)), some (vI l1), some (vI l2)]) (st' := [vR (some 137)]) (h' := h) f189_56 rfl ?_
    refine y_gr (pc' := 60) f189_57 yf_8_97 rfl rfl (ys137 w) (yp137_44 w) rfl ?_
    refine y_s (pc' := 61) (L' := [some (vR (some 137)), some (vI l1), some (vI l2)]) (st' := [vI l2, vR (some 166)]) (h' := h) f189_60 rfl ?_
    refine y_ia (pc' := 62) (x := (zV h 166 (l2).toNat)) f189_61 (ys166 w) k.1 rfl rfl ?_
    replace k := k.2
    exact y_ri f189_62 ⟨rfl, k⟩
  · replace k := k.2 c
    refine y_s (pc' := 50) (L' := [some (vR (some 137)), some (vI l1), some (vI l2)]) (st' := [vR (some 137)]) (h' := h) f189_49 rfl ?_
    refine y_gi (pc' := 53) f189_50 yf_8_279 rfl rfl (ys137 w) rfl ?_
    refine y_go (pc' := 62) f189_53 rfl ?_
    exact y_ri f189_62 ⟨rfl, k⟩
/-- HatterTunesModel.rowsFrom(III)V -/
theorem E190 {d : Nat} {K : Hp → Prop} (w : yWF zl nl h) {x0 : Int} {x1 : Int} {x2 : Int} (k : ((x1 ≠ 0 → ZW d prog_10_method_42_code 8 63 [some (vR (some 137)), some (vI x0), some (vI x1), some (vI x2), some (vI 0)] [] h (yq 0 (yqU K))) ∧ (¬ (x1 ≠ 0) → ((x2 < (zV h 137 45) → ZW d prog_10_method_42_code 8 21 [some (vR (some 137)), some (vI x0), some (vI x1), some (vI x2), some (vI 0)] [] (zsetV h 137 45 x2) (yq 0 (yqU K))) ∧ (¬ (x2 < (zV h 137 45)) → K h))))) : yU d 190 [vR (some 137), vI x0, vI x1, vI x2] h K := by
  refine y_en (L := [some (vR (some 137)), some (vI x0), some (vI x1), some (vI x2), none]) rfl rfl ?_
  refine y_s (pc' := 1) (L' := [some (vR (some 137)), some (vI x0), some (vI x1), some (vI x2), none]) (st' := [vI x1]) (h' := h) f190_0 rfl ?_
  refine y_if (pcT := 60) (pc' := 4) (P := x1 ≠ 0) f190_1 rfl rfl rfl (fun c => ?_) (fun c => ?_)
  · replace k := k.1 c
    refine y_s (pc' := 61) (L' := [some (vR (some 137)), some (vI x0), some (vI x1), some (vI x2), none]) (st' := [vI 0]) (h' := h) f190_60 rfl ?_
    refine y_sto (pc' := 63) (k := 4) (L' := [some (vR (some 137)), some (vI x0), some (vI x1), some (vI x2), some (vI 0)]) f190_61 rfl rfl rfl rfl rfl rfl ?_
    exact k
  · replace k := k.2 c
    refine y_s (pc' := 5) (L' := [some (vR (some 137)), some (vI x0), some (vI x1), some (vI x2), none]) (st' := [vI x2]) (h' := h) f190_4 rfl ?_
    refine y_s (pc' := 6) (L' := [some (vR (some 137)), some (vI x0), some (vI x1), some (vI x2), none]) (st' := [vR (some 137), vI x2]) (h' := h) f190_5 rfl ?_
    refine y_gi (pc' := 9) f190_6 yf_8_279 rfl rfl (ys137 w) rfl ?_
    refine y_ic (pcT := 13) (pc' := 12) (P := x2 < (zV h 137 45)) f190_9 rfl rfl rfl (fun c => ?_) (fun c => ?_)
    · replace k := k.1 c
      refine y_s (pc' := 14) (L' := [some (vR (some 137)), some (vI x0), some (vI x1), some (vI x2), none]) (st' := [vR (some 137)]) (h' := h) f190_13 rfl ?_
      refine y_s (pc' := 15) (L' := [some (vR (some 137)), some (vI x0), some (vI x1), some (vI x2), none]) (st' := [vI x2, vR (some 137)]) (h' := h) f190_14 rfl ?_
      refine y_pi (pc' := 18) f190_15 yf_8_279 rfl rfl (ys137 w) (by decide) (Or.inl rfl) rfl ?_
      refine y_s (pc' := 19) (L' := [some (vR (some 137)), some (vI x0), some (vI x1), some (vI x2), none]) (st' := [vI 0]) (h' := (zsetV h 137 45 x2)) f190_18 rfl ?_
      refine y_sto (pc' := 21) (k := 4) (L' := [some (vR (some 137)), some (vI x0), some (vI x1), some (vI x2), some (vI 0)]) f190_19 rfl rfl rfl rfl rfl rfl ?_
      exact k
    · replace k := k.2 c
      exact y_ru f190_12 ⟨rfl, k⟩
theorem W190_21 {d : Nat} {K : Hp → Prop} (w : yWF zl nl h) {l1 : Int} {l2 : Int} {l3 : Int} {l4 : Int} (k : ((6 ≤ l4 → K h) ∧ (¬ (6 ≤ l4) → ((l1 ≤ l4 → ((0 ≤ l4 ∧ l4 < 6) ∧ ZW d prog_10_method_42_code 8 21 [some (vR (some 137)), some (vI l1), some (vI l2), some (vI l3), some (vI (zw (l4 + 1)))] [] (zsetV h 166 (l4).toNat (-5)) (yq 0 (yqU K)))) ∧ (¬ (l1 ≤ l4) → ((0 ≤ l4 ∧ l4 < 6) ∧ ((0 ≤ l4 ∧ l4 < 6) ∧ ZW d prog_10_method_42_code 8 21 [some (vR (some 137)), some (vI l1), some (vI l2), some (vI l3), some (vI (zw (l4 + 1)))] [] (zsetV h 166 (l4).toNat (zV h 165 (l4).toNat)) (yq 0 (yqU K))))))))) : ZW d prog_10_method_42_code 8 21 [some (vR (some 137)), some (vI l1), some (vI l2), some (vI l3), some (vI l4)] [] h (yq 0 (yqU K)) := by
  refine y_s (pc' := 23) (L' := [some (vR (some 137)), some (vI l1), some (vI l2), some (vI l3), some (vI l4)]) (st' := [vI l4]) (h' := h) f190_21 rfl ?_
  refine y_s (pc' := 25) (L' := [some (vR (some 137)), some (vI l1), some (vI l2), some (vI l3), some (vI l4)]) (st' := [vI 6, vI l4]) (h' := h) f190_23 rfl ?_
  refine y_ic (pcT := 59) (pc' := 28) (P := 6 ≤ l4) f190_25 rfl rfl rfl (fun c => ?_) (fun c => ?_)
  · replace k := k.1 c
    exact y_ru f190_59 ⟨rfl, k⟩
  · replace k := k.2 c
    refine y_s (pc' := 29) (L' := [some (vR (some 137)), some (vI l1), some (vI l2), some (vI l3), some (vI l4)]) (st' := [vR (some 137)]) (h' := h) f190_28 rfl ?_
    refine y_gr (pc' := 32) f190_29 yf_8_97 rfl rfl (ys137 w) (yp137_44 w) rfl ?_
    refine y_s (pc' := 34) (L' := [some (vR (some 137)), some (vI l1), some (vI l2), some (vI l3), some (vI l4)]) (st' := [vI l4, vR (some 166)]) (h' := h) f190_32 rfl ?_
    refine y_s (pc' := 36) (L' := [some (vR (some 137)), some (vI l1), some (vI l2), some (vI l3), some (vI l4)]) (st' := [vI l4, vI l4, vR (some 166)]) (h' := h) f190_34 rfl ?_
    refine y_s (pc' := 37) (L' := [some (vR (some 137)), some (vI l1), some (vI l2), some (vI l3), some (vI l4)]) (st' := [vI l1, vI l4, vI l4, vR (some 166)]) (h' := h) f190_36 rfl ?_
    refine y_ic (pcT := 50) (pc' := 40) (P := l1 ≤ l4) f190_37 rfl rfl rfl (fun c => ?_) (fun c => ?_)
    · replace k := k.1 c
      refine y_s (pc' := 52) (L' := [some (vR (some 137)), some (vI l1), some (vI l2), some (vI l3), some (vI l4)]) (st' := [vI (-5), vI l4, vR (some 166)]) (h' := h) f190_50 rfl ?_
      refine y_is (pc' := 53) (h' := (zsetV h 166 (l4).toNat (-5))) f190_52 (ys166 w) (by decide) k.1 rfl rfl ?_
      replace k := k.2
      refine y_inc (pc' := 56) (L' := [some (vR (some 137)), some (vI l1), some (vI l2), some (vI l3), some (vI (zw (l4 + 1)))]) f190_53 rfl rfl rfl rfl ?_
      refine y_go (pc' := 21) f190_56 rfl ?_
      exact k
    · replace k := k.2 c
      refine y_s (pc' := 41) (L' := [some (vR (some 137)), some (vI l1), some (vI l2), some (vI l3), some (vI l4)]) (st' := [vR (some 137), vI l4, vR (some 166)]) (h' := h) f190_40 rfl ?_
      refine y_gr (pc' := 44) f190_41 yf_8_94 rfl rfl (ys137 w) (yp137_43 w) rfl ?_
      refine y_s (pc' := 46) (L' := [some (vR (some 137)), some (vI l1), some (vI l2), some (vI l3), some (vI l4)]) (st' := [vI l4, vR (some 165), vI l4, vR (some 166)]) (h' := h) f190_44 rfl ?_
      refine y_ia (pc' := 47) (x := (zV h 165 (l4).toNat)) f190_46 (ys165 w) k.1 rfl rfl ?_
      replace k := k.2
      refine y_go (pc' := 52) f190_47 rfl ?_
      refine y_is (pc' := 53) (h' := (zsetV h 166 (l4).toNat (zV h 165 (l4).toNat))) f190_52 (ys166 w) (by decide) k.1 rfl rfl ?_
      replace k := k.2
      refine y_inc (pc' := 56) (L' := [some (vR (some 137)), some (vI l1), some (vI l2), some (vI l3), some (vI (zw (l4 + 1)))]) f190_53 rfl rfl rfl rfl ?_
      refine y_go (pc' := 21) f190_56 rfl ?_
      exact k
theorem W190_63 {d : Nat} {K : Hp → Prop} (w : yWF zl nl h) {l1 : Int} {l2 : Int} {l3 : Int} {l4 : Int} (hd : 1 ≤ d) (k : (((zV h 137 0) ≤ l4 → K h) ∧ (¬ ((zV h 137 0) ≤ l4) → (((zand (zshr l2 l4) 1) ≠ 0 → ((0 ≤ l1 ∧ l1 < 6) ∧ ((l1 ≠ 0 → ((0 ≤ (zw (l1 - 1)) ∧ (zw (l1 - 1)) < 6) ∧ yI (d - 1) 188 [vR (some 137), vI (zV (zsetV h 165 (l1).toNat l4) 165 ((zw (l1 - 1))).toNat), vI l4] (zsetV h 165 (l1).toNat l4) (fun x h' => ZW d prog_10_method_42_code 8 130 [some (vR (some 137)), some (vI l1), some (vI l2), some (vI l3), some (vI l4)] [vI x, vI (zw (l3 + 6)), vI (zand l2 (zxor (zshl 1 l4) (-1))), vI (zw (l1 + 1)), vR (some 137)] h' (yq 0 (yqU K))))) ∧ (¬ (l1 ≠ 0) → yU (d - 1) 190 [vR (some 137), vI (zw (l1 + 1)), vI (zand l2 (zxor (zshl 1 l4) (-1))), vI (zw ((zw (l3 + 6)) - 0))] (zsetV h 165 (l1).toNat l4) (fun h' => ZW d prog_10_method_42_code 8 134 [some (vR (some 137)), some (vI l1), some (vI l2), some (vI l3), some (vI l4)] [] h' (yq 0 (yqU K))))))) ∧ (¬ ((zand (zshr l2 l4) 1) ≠ 0) → ZW d prog_10_method_42_code 8 63 [some (vR (some 137)), some (vI l1), some (vI l2), some (vI l3), some (vI (zw (l4 + 1)))] [] h (yq 0 (yqU K))))))) : ZW d prog_10_method_42_code 8 63 [some (vR (some 137)), some (vI l1), some (vI l2), some (vI l3), some (vI l4)] [] h (yq 0 (yqU K)) := by
  refine y_s (pc' := 65) (L' := [some (vR (some 137)), some (vI l1), some (vI l2), some (vI l3), some (vI l4)]) (st' := [vI l4]) (h' := h) f190_63 rfl ?_
  refine y_s (pc' := 66) (L' := [some (vR (some 137)), some (vI l1), some (vI l2), some (vI l3), some (vI l4)]) (st' := [vR (some 137), vI l4]) (h' := h) f190_65 rfl ?_
  refine y_gi (pc' := 69) f190_66 yf_8_114 rfl rfl (ys137 w) rfl ?_
  refine y_ic (pcT := 140) (pc' := 72) (P := (zV h 137 0) ≤ l4) f190_69 rfl rfl rfl (fun c => ?_) (fun c => ?_)
  · replace k := k.1 c
    exact y_ru f190_140 ⟨rfl, k⟩
  · replace k := k.2 c
    refine y_s (pc' := 73) (L' := [some (vR (some 137)), some (vI l1), some (vI l2), some (vI l3), some (vI l4)]) (st' := [vI l2]) (h' := h) f190_72 rfl ?_
    refine y_s (pc' := 75) (L' := [some (vR (some 137)), some (vI l1), some (vI l2), some (vI l3), some (vI l4)]) (st' := [vI l4, vI l2]) (h' := h) f190_73 rfl ?_
    refine y_s (pc' := 76) (L' := [some (vR (some 137)), some (vI l1), some (vI l2), some (vI l3), some (vI l4)]) (st' := [vI (zshr l2 l4)]) (h' := h) f190_75 rfl ?_
    refine y_s (pc' := 77) (L' := [some (vR (some 137)), some (vI l1), some (vI l2), some (vI l3), some (vI l4)]) (st' := [vI 1, vI (zshr l2 l4)]) (h' := h) f190_76 rfl ?_
    refine y_s (pc' := 78) (L' := [some (vR (some 137)), some (vI l1), some (vI l2), some (vI l3), some (vI l4)]) (st' := [vI (zand (zshr l2 l4) 1)]) (h' := h) f190_77 rfl ?_
    refine y_if (pcT := 84) (pc' := 81) (P := (zand (zshr l2 l4) 1) ≠ 0) f190_78 rfl rfl rfl (fun c => ?_) (fun c => ?_)
    · replace k := k.1 c
      refine y_s (pc' := 85) (L' := [some (vR (some 137)), some (vI l1), some (vI l2), some (vI l3), some (vI l4)]) (st' := [vR (some 137)]) (h' := h) f190_84 rfl ?_
      refine y_gr (pc' := 88) f190_85 yf_8_94 rfl rfl (ys137 w) (yp137_43 w) rfl ?_
      refine y_s (pc' := 89) (L' := [some (vR (some 137)), some (vI l1), some (vI l2), some (vI l3), some (vI l4)]) (st' := [vI l1, vR (some 165)]) (h' := h) f190_88 rfl ?_
      refine y_s (pc' := 91) (L' := [some (vR (some 137)), some (vI l1), some (vI l2), some (vI l3), some (vI l4)]) (st' := [vI l4, vI l1, vR (some 165)]) (h' := h) f190_89 rfl ?_
      refine y_is (pc' := 92) (h' := (zsetV h 165 (l1).toNat l4)) f190_91 (ys165 w) (by decide) k.1 rfl rfl ?_
      replace k := k.2
      refine y_s (pc' := 93) (L' := [some (vR (some 137)), some (vI l1), some (vI l2), some (vI l3), some (vI l4)]) (st' := [vR (some 137)]) (h' := (zsetV h 165 (l1).toNat l4)) f190_92 rfl ?_
      refine y_s (pc' := 94) (L' := [some (vR (some 137)), some (vI l1), some (vI l2), some (vI l3), some (vI l4)]) (st' := [vI l1, vR (some 137)]) (h' := (zsetV h 165 (l1).toNat l4)) f190_93 rfl ?_
      refine y_s (pc' := 95) (L' := [some (vR (some 137)), some (vI l1), some (vI l2), some (vI l3), some (vI l4)]) (st' := [vI 1, vI l1, vR (some 137)]) (h' := (zsetV h 165 (l1).toNat l4)) f190_94 rfl ?_
      refine y_s (pc' := 96) (L' := [some (vR (some 137)), some (vI l1), some (vI l2), some (vI l3), some (vI l4)]) (st' := [vI (zw (l1 + 1)), vR (some 137)]) (h' := (zsetV h 165 (l1).toNat l4)) f190_95 rfl ?_
      refine y_s (pc' := 97) (L' := [some (vR (some 137)), some (vI l1), some (vI l2), some (vI l3), some (vI l4)]) (st' := [vI l2, vI (zw (l1 + 1)), vR (some 137)]) (h' := (zsetV h 165 (l1).toNat l4)) f190_96 rfl ?_
      refine y_s (pc' := 98) (L' := [some (vR (some 137)), some (vI l1), some (vI l2), some (vI l3), some (vI l4)]) (st' := [vI 1, vI l2, vI (zw (l1 + 1)), vR (some 137)]) (h' := (zsetV h 165 (l1).toNat l4)) f190_97 rfl ?_
      refine y_s (pc' := 100) (L' := [some (vR (some 137)), some (vI l1), some (vI l2), some (vI l3), some (vI l4)]) (st' := [vI l4, vI 1, vI l2, vI (zw (l1 + 1)), vR (some 137)]) (h' := (zsetV h 165 (l1).toNat l4)) f190_98 rfl ?_
      refine y_s (pc' := 101) (L' := [some (vR (some 137)), some (vI l1), some (vI l2), some (vI l3), some (vI l4)]) (st' := [vI (zshl 1 l4), vI l2, vI (zw (l1 + 1)), vR (some 137)]) (h' := (zsetV h 165 (l1).toNat l4)) f190_100 rfl ?_
      refine y_s (pc' := 102) (L' := [some (vR (some 137)), some (vI l1), some (vI l2), some (vI l3), some (vI l4)]) (st' := [vI (-1), vI (zshl 1 l4), vI l2, vI (zw (l1 + 1)), vR (some 137)]) (h' := (zsetV h 165 (l1).toNat l4)) f190_101 rfl ?_
      refine y_s (pc' := 103) (L' := [some (vR (some 137)), some (vI l1), some (vI l2), some (vI l3), some (vI l4)]) (st' := [vI (zxor (zshl 1 l4) (-1)), vI l2, vI (zw (l1 + 1)), vR (some 137)]) (h' := (zsetV h 165 (l1).toNat l4)) f190_102 rfl ?_
      refine y_s (pc' := 104) (L' := [some (vR (some 137)), some (vI l1), some (vI l2), some (vI l3), some (vI l4)]) (st' := [vI (zand l2 (zxor (zshl 1 l4) (-1))), vI (zw (l1 + 1)), vR (some 137)]) (h' := (zsetV h 165 (l1).toNat l4)) f190_103 rfl ?_
      refine y_s (pc' := 105) (L' := [some (vR (some 137)), some (vI l1), some (vI l2), some (vI l3), some (vI l4)]) (st' := [vI l3, vI (zand l2 (zxor (zshl 1 l4) (-1))), vI (zw (l1 + 1)), vR (some 137)]) (h' := (zsetV h 165 (l1).toNat l4)) f190_104 rfl ?_
      refine y_s (pc' := 107) (L' := [some (vR (some 137)), some (vI l1), some (vI l2), some (vI l3), some (vI l4)]) (st' := [vI 6, vI l3, vI (zand l2 (zxor (zshl 1 l4) (-1))), vI (zw (l1 + 1)), vR (some 137)]) (h' := (zsetV h 165 (l1).toNat l4)) f190_105 rfl ?_
      refine y_s (pc' := 108) (L' := [some (vR (some 137)), some (vI l1), some (vI l2), some (vI l3), some (vI l4)]) (st' := [vI (zw (l3 + 6)), vI (zand l2 (zxor (zshl 1 l4) (-1))), vI (zw (l1 + 1)), vR (some 137)]) (h' := (zsetV h 165 (l1).toNat l4)) f190_107 rfl ?_
      refine y_s (pc' := 109) (L' := [some (vR (some 137)), some (vI l1), some (vI l2), some (vI l3), some (vI l4)]) (st' := [vI l1, vI (zw (l3 + 6)), vI (zand l2 (zxor (zshl 1 l4) (-1))), vI (zw (l1 + 1)), vR (some 137)]) (h' := (zsetV h 165 (l1).toNat l4)) f190_108 rfl ?_
      refine y_if (pcT := 116) (pc' := 112) (P := l1 ≠ 0) f190_109 rfl rfl rfl (fun c => ?_) (fun c => ?_)
      · replace k := k.1 c
        refine y_s (pc' := 117) (L' := [some (vR (some 137)), some (vI l1), some (vI l2), some (vI l3), some (vI l4)]) (st' := [vR (some 137), vI (zw (l3 + 6)), vI (zand l2 (zxor (zshl 1 l4) (-1))), vI (zw (l1 + 1)), vR (some 137)]) (h' := (zsetV h 165 (l1).toNat l4)) f190_116 rfl ?_
        refine y_s (pc' := 118) (L' := [some (vR (some 137)), some (vI l1), some (vI l2), some (vI l3), some (vI l4)]) (st' := [vR (some 137), vR (some 137), vI (zw (l3 + 6)), vI (zand l2 (zxor (zshl 1 l4) (-1))), vI (zw (l1 + 1)), vR (some 137)]) (h' := (zsetV h 165 (l1).toNat l4)) f190_117 rfl ?_
        refine y_gr (pc' := 121) f190_118 yf_8_94 rfl rfl (ys137 w) (yp137_43 w) rfl ?_
        refine y_s (pc' := 122) (L' := [some (vR (some 137)), some (vI l1), some (vI l2), some (vI l3), some (vI l4)]) (st' := [vI l1, vR (some 165), vR (some 137), vI (zw (l3 + 6)), vI (zand l2 (zxor (zshl 1 l4) (-1))), vI (zw (l1 + 1)), vR (some 137)]) (h' := (zsetV h 165 (l1).toNat l4)) f190_121 rfl ?_
        refine y_s (pc' := 123) (L' := [some (vR (some 137)), some (vI l1), some (vI l2), some (vI l3), some (vI l4)]) (st' := [vI 1, vI l1, vR (some 165), vR (some 137), vI (zw (l3 + 6)), vI (zand l2 (zxor (zshl 1 l4) (-1))), vI (zw (l1 + 1)), vR (some 137)]) (h' := (zsetV h 165 (l1).toNat l4)) f190_122 rfl ?_
        refine y_s (pc' := 124) (L' := [some (vR (some 137)), some (vI l1), some (vI l2), some (vI l3), some (vI l4)]) (st' := [vI (zw (l1 - 1)), vR (some 165), vR (some 137), vI (zw (l3 + 6)), vI (zand l2 (zxor (zshl 1 l4) (-1))), vI (zw (l1 + 1)), vR (some 137)]) (h' := (zsetV h 165 (l1).toNat l4)) f190_123 rfl ?_
        refine y_ia (pc' := 125) (x := (zV (zsetV h 165 (l1).toNat l4) 165 ((zw (l1 - 1))).toNat)) f190_124 (ys165 w) k.1 rfl rfl ?_
        replace k := k.2
        refine y_s (pc' := 127) (L' := [some (vR (some 137)), some (vI l1), some (vI l2), some (vI l3), some (vI l4)]) (st' := [vI l4, vI (zV (zsetV h 165 (l1).toNat l4) 165 ((zw (l1 - 1))).toNat), vR (some 137), vI (zw (l3 + 6)), vI (zand l2 (zxor (zshl 1 l4) (-1))), vI (zw (l1 + 1)), vR (some 137)]) (h' := (zsetV h 165 (l1).toNat l4)) f190_125 rfl ?_
        refine y_cI (pc' := 130) (as := [vR (some 137), vI (zV (zsetV h 165 (l1).toNat l4) 165 ((zw (l1 - 1))).toNat), vI l4]) (r := [vI (zw (l3 + 6)), vI (zand l2 (zxor (zshl 1 l4) (-1))), vI (zw (l1 + 1)), vR (some 137)]) f190_127 (yzv ym_8_276 rfl (ys137 w) rfl rfl) (by omega) rfl ?_
        exact k
      · replace k := k.2 c
        refine y_s (pc' := 113) (L' := [some (vR (some 137)), some (vI l1), some (vI l2), some (vI l3), some (vI l4)]) (st' := [vI 0, vI (zw (l3 + 6)), vI (zand l2 (zxor (zshl 1 l4) (-1))), vI (zw (l1 + 1)), vR (some 137)]) (h' := (zsetV h 165 (l1).toNat l4)) f190_112 rfl ?_
        refine y_go (pc' := 130) f190_113 rfl ?_
        refine y_s (pc' := 131) (L' := [some (vR (some 137)), some (vI l1), some (vI l2), some (vI l3), some (vI l4)]) (st' := [vI (zw ((zw (l3 + 6)) - 0)), vI (zand l2 (zxor (zshl 1 l4) (-1))), vI (zw (l1 + 1)), vR (some 137)]) (h' := (zsetV h 165 (l1).toNat l4)) f190_130 rfl ?_
        refine y_cU (pc' := 134) (as := [vR (some 137), vI (zw (l1 + 1)), vI (zand l2 (zxor (zshl 1 l4) (-1))), vI (zw ((zw (l3 + 6)) - 0))]) (r := []) f190_131 (yzv ym_8_282 rfl (ys137 w) rfl rfl) (by omega) rfl ?_
        exact k
    · replace k := k.2 c
      refine y_go (pc' := 134) f190_81 rfl ?_
      refine y_inc (pc' := 137) (L' := [some (vR (some 137)), some (vI l1), some (vI l2), some (vI l3), some (vI (zw (l4 + 1)))]) f190_134 rfl rfl rfl rfl ?_
      refine y_go (pc' := 63) f190_137 rfl ?_
      exact k
theorem W190_130 {d : Nat} {K : Hp → Prop} (w : yWF zl nl h) {l1 : Int} {l2 : Int} {l3 : Int} {l4 : Int} {s1 : Int} {s2 : Int} {s3 : Int} {s4 : Int} (hd : 1 ≤ d) (k : yU (d - 1) 190 [vR (some 137), vI s1, vI s2, vI (zw (s3 - s4))] h (fun h' => ZW d prog_10_method_42_code 8 134 [some (vR (some 137)), some (vI l1), some (vI l2), some (vI l3), some (vI l4)] [] h' (yq 0 (yqU K)))) : ZW d prog_10_method_42_code 8 130 [some (vR (some 137)), some (vI l1), some (vI l2), some (vI l3), some (vI l4)] [vI s4, vI s3, vI s2, vI s1, vR (some 137)] h (yq 0 (yqU K)) := by
  refine y_s (pc' := 131) (L' := [some (vR (some 137)), some (vI l1), some (vI l2), some (vI l3), some (vI l4)]) (st' := [vI (zw (s3 - s4)), vI s2, vI s1, vR (some 137)]) (h' := h) f190_130 rfl ?_
  refine y_cU (pc' := 134) (as := [vR (some 137), vI s1, vI s2, vI (zw (s3 - s4))]) (r := []) f190_131 (yzv ym_8_282 rfl (ys137 w) rfl rfl) (by omega) rfl ?_
  exact k
theorem W190_134 {d : Nat} {K : Hp → Prop} (w : yWF zl nl h) {l1 : Int} {l2 : Int} {l3 : Int} {l4 : Int} (k : ZW d prog_10_method_42_code 8 63 [some (vR (some 137)), some (vI l1), some (vI l2), some (vI l3), some (vI (zw (l4 + 1)))] [] h (yq 0 (yqU K))) : ZW d prog_10_method_42_code 8 134 [some (vR (some 137)), some (vI l1), some (vI l2), some (vI l3), some (vI l4)] [] h (yq 0 (yqU K)) := by
  refine y_inc (pc' := 137) (L' := [some (vR (some 137)), some (vI l1), some (vI l2), some (vI l3), some (vI (zw (l4 + 1)))]) f190_134 rfl rfl rfl rfl ?_
  refine y_go (pc' := 63) f190_137 rfl ?_
  exact k
/-- HatterTunesModel.can(II)I -/
theorem E192 {d : Nat} {K : Int → Hp → Prop} (w : yWF zl nl h) {x0 : Int} {x1 : Int} (hd : 2 ≤ d) (k : (((0 : Int) ≤ zV h 137 0 ∧ zV h 137 0 ≤ 6) ∧ ((((0 : Int) ≤ x0 ∧ x0 < zV h 137 0) → ((((0 : Int) ≤ x1 ∧ x1 ≤ 1) → ((0 ≤ x0 ∧ x0 < 6) ∧ ZW d prog_10_method_48_code 8 37 [some (vR (some 137)), some (vI x0), some (vI x1), some (vI (zV h 139 (x0).toNat)), some (vI 0), some (vI (-5)), some (vI 9)] [] h (yq 1 (yqI K)))) ∧ (¬ (((0 : Int) ≤ x1 ∧ x1 ≤ 1)) → K (-1) h))) ∧ (¬ (((0 : Int) ≤ x0 ∧ x0 < zV h 137 0)) → K (-1) h)))) : yI d 192 [vR (some 137), vI x0, vI x1] h K := by
  refine y_en (L := [some (vR (some 137)), some (vI x0), some (vI x1), none, none, none, none]) rfl rfl ?_
  refine y_s (pc' := 1) (L' := [some (vR (some 137)), some (vI x0), some (vI x1), none, none, none, none]) (st' := [vR (some 137)]) (h' := h) f192_0 rfl ?_
  refine y_s (pc' := 2) (L' := [some (vR (some 137)), some (vI x0), some (vI x1), none, none, none, none]) (st' := [vI x0, vR (some 137)]) (h' := h) f192_1 rfl ?_
  refine y_cI (pc' := 5) (as := [vR (some 137), vI x0]) (r := []) f192_2 (yzv ym_8_121 rfl (ys137 w) rfl rfl) (by omega) rfl ?_
  have p0 := k.1
  replace k := k.2
  refine sp131 w (by omega) p0 (fun c => ?_) (fun c => ?_)
  · replace k := k.1 c
    refine y_iff (pcT := 17) (pc' := 8) f192_5 rfl rfl rfl ?_
    refine y_s (pc' := 9) (L' := [some (vR (some 137)), some (vI x0), some (vI x1), none, none, none, none]) (st' := [vI x1]) (h' := h) f192_8 rfl ?_
    refine y_s (pc' := 10) (L' := [some (vR (some 137)), some (vI x0), some (vI x1), none, none, none, none]) (st' := [vI 0, vI x1]) (h' := h) f192_9 rfl ?_
    refine y_s (pc' := 11) (L' := [some (vR (some 137)), some (vI x0), some (vI x1), none, none, none, none]) (st' := [vI 1, vI 0, vI x1]) (h' := h) f192_10 rfl ?_
    refine y_cI (pc' := 14) (as := [vI x1, vI 0, vI 1]) (r := []) f192_11 rfl (by omega) rfl ?_
    refine sp129 w (fun c => ?_) (fun c => ?_)
    · replace k := k.1 c
      refine y_ift (pcT := 19) f192_14 rfl rfl ?_
      refine y_s (pc' := 20) (L' := [some (vR (some 137)), some (vI x0), some (vI x1), none, none, none, none]) (st' := [vR (some 137)]) (h' := h) f192_19 rfl ?_
      refine y_gr (pc' := 23) f192_20 yf_8_15 rfl rfl (ys137 w) (yp137_2 w) rfl ?_
      refine y_s (pc' := 24) (L' := [some (vR (some 137)), some (vI x0), some (vI x1), none, none, none, none]) (st' := [vI x0, vR (some 139)]) (h' := h) f192_23 rfl ?_
      refine y_ia (pc' := 25) (x := (zV h 139 (x0).toNat)) f192_24 (ys139 w) k.1 rfl rfl ?_
      replace k := k.2
      refine y_sto (pc' := 26) (k := 3) (L' := [some (vR (some 137)), some (vI x0), some (vI x1), some (vI (zV h 139 (x0).toNat)), none, none, none]) f192_25 rfl rfl rfl rfl rfl rfl ?_
      refine y_s (pc' := 27) (L' := [some (vR (some 137)), some (vI x0), some (vI x1), some (vI (zV h 139 (x0).toNat)), none, none, none]) (st' := [vI 0]) (h' := h) f192_26 rfl ?_
      refine y_sto (pc' := 29) (k := 4) (L' := [some (vR (some 137)), some (vI x0), some (vI x1), some (vI (zV h 139 (x0).toNat)), some (vI 0), none, none]) f192_27 rfl rfl rfl rfl rfl rfl ?_
      refine y_s (pc' := 31) (L' := [some (vR (some 137)), some (vI x0), some (vI x1), some (vI (zV h 139 (x0).toNat)), some (vI 0), none, none]) (st' := [vI (-5)]) (h' := h) f192_29 rfl ?_
      refine y_sto (pc' := 33) (k := 5) (L' := [some (vR (some 137)), some (vI x0), some (vI x1), some (vI (zV h 139 (x0).toNat)), some (vI 0), some (vI (-5)), none]) f192_31 rfl rfl rfl rfl rfl rfl ?_
      refine y_s (pc' := 35) (L' := [some (vR (some 137)), some (vI x0), some (vI x1), some (vI (zV h 139 (x0).toNat)), some (vI 0), some (vI (-5)), none]) (st' := [vI 9]) (h' := h) f192_33 rfl ?_
      refine y_sto (pc' := 37) (k := 6) (L' := [some (vR (some 137)), some (vI x0), some (vI x1), some (vI (zV h 139 (x0).toNat)), some (vI 0), some (vI (-5)), some (vI 9)]) f192_35 rfl rfl rfl rfl rfl rfl ?_
      exact k
    · replace k := k.2 c
      refine y_iff (pcT := 19) (pc' := 17) f192_14 rfl rfl rfl ?_
      refine y_s (pc' := 18) (L' := [some (vR (some 137)), some (vI x0), some (vI x1), none, none, none, none]) (st' := [vI (-1)]) (h' := h) f192_17 rfl ?_
      exact y_ri f192_18 ⟨rfl, k⟩
  · replace k := k.2 c
    refine y_ift (pcT := 17) f192_5 rfl rfl ?_
    refine y_s (pc' := 18) (L' := [some (vR (some 137)), some (vI x0), some (vI x1), none, none, none, none]) (st' := [vI (-1)]) (h' := h) f192_17 rfl ?_
    exact y_ri f192_18 ⟨rfl, k⟩
theorem W192_37 {d : Nat} {K : Int → Hp → Prop} (w : yWF zl nl h) {l1 : Int} {l2 : Int} {l3 : Int} {l4 : Int} {l5 : Int} {l6 : Int} (hd : 1 ≤ d) (k : ((l6 < 0 → ((0 ≤ l1 ∧ l1 < 6) ∧ ((l2 ≠ 0 → K l5 (zsetV h 139 (l1).toNat l3)) ∧ (¬ (l2 ≠ 0) → K l4 (zsetV h 139 (l1).toNat l3))))) ∧ (¬ (l6 < 0) → ((0 ≤ l1 ∧ l1 < 6) ∧ yI (d - 1) 139 [vR (some 137), vI l1] (zsetV h 139 (l1).toNat l6) (fun x h' => ZW d prog_10_method_48_code 8 55 [some (vR (some 137)), some (vI l1), some (vI l2), some (vI l3), some (vI l4), some (vI l5), some (vI l6)] [vI x] h' (yq 1 (yqI K))))))) : ZW d prog_10_method_48_code 8 37 [some (vR (some 137)), some (vI l1), some (vI l2), some (vI l3), some (vI l4), some (vI l5), some (vI l6)] [] h (yq 1 (yqI K)) := by
  refine y_s (pc' := 39) (L' := [some (vR (some 137)), some (vI l1), some (vI l2), some (vI l3), some (vI l4), some (vI l5), some (vI l6)]) (st' := [vI l6]) (h' := h) f192_37 rfl ?_
  refine y_if (pcT := 74) (pc' := 42) (P := l6 < 0) f192_39 rfl rfl rfl (fun c => ?_) (fun c => ?_)
  · replace k := k.1 c
    refine y_s (pc' := 75) (L' := [some (vR (some 137)), some (vI l1), some (vI l2), some (vI l3), some (vI l4), some (vI l5), some (vI l6)]) (st' := [vR (some 137)]) (h' := h) f192_74 rfl ?_
    refine y_gr (pc' := 78) f192_75 yf_8_15 rfl rfl (ys137 w) (yp137_2 w) rfl ?_
    refine y_s (pc' := 79) (L' := [some (vR (some 137)), some (vI l1), some (vI l2), some (vI l3), some (vI l4), some (vI l5), some (vI l6)]) (st' := [vI l1, vR (some 139)]) (h' := h) f192_78 rfl ?_
    refine y_s (pc' := 80) (L' := [some (vR (some 137)), some (vI l1), some (vI l2), some (vI l3), some (vI l4), some (vI l5), some (vI l6)]) (st' := [vI l3, vI l1, vR (some 139)]) (h' := h) f192_79 rfl ?_
    refine y_is (pc' := 81) (h' := (zsetV h 139 (l1).toNat l3)) f192_80 (ys139 w) (by decide) k.1 rfl rfl ?_
    replace k := k.2
    refine y_s (pc' := 82) (L' := [some (vR (some 137)), some (vI l1), some (vI l2), some (vI l3), some (vI l4), some (vI l5), some (vI l6)]) (st' := [vI l2]) (h' := (zsetV h 139 (l1).toNat l3)) f192_81 rfl ?_
    refine y_if (pcT := 90) (pc' := 85) (P := l2 ≠ 0) f192_82 rfl rfl rfl (fun c => ?_) (fun c => ?_)
    · replace k := k.1 c
      refine y_s (pc' := 92) (L' := [some (vR (some 137)), some (vI l1), some (vI l2), some (vI l3), some (vI l4), some (vI l5), some (vI l6)]) (st' := [vI l5]) (h' := (zsetV h 139 (l1).toNat l3)) f192_90 rfl ?_
      exact y_ri f192_92 ⟨rfl, k⟩
    · replace k := k.2 c
      refine y_s (pc' := 87) (L' := [some (vR (some 137)), some (vI l1), some (vI l2), some (vI l3), some (vI l4), some (vI l5), some (vI l6)]) (st' := [vI l4]) (h' := (zsetV h 139 (l1).toNat l3)) f192_85 rfl ?_
      refine y_go (pc' := 92) f192_87 rfl ?_
      exact y_ri f192_92 ⟨rfl, k⟩
  · replace k := k.2 c
    refine y_s (pc' := 43) (L' := [some (vR (some 137)), some (vI l1), some (vI l2), some (vI l3), some (vI l4), some (vI l5), some (vI l6)]) (st' := [vR (some 137)]) (h' := h) f192_42 rfl ?_
    refine y_gr (pc' := 46) f192_43 yf_8_15 rfl rfl (ys137 w) (yp137_2 w) rfl ?_
    refine y_s (pc' := 47) (L' := [some (vR (some 137)), some (vI l1), some (vI l2), some (vI l3), some (vI l4), some (vI l5), some (vI l6)]) (st' := [vI l1, vR (some 139)]) (h' := h) f192_46 rfl ?_
    refine y_s (pc' := 49) (L' := [some (vR (some 137)), some (vI l1), some (vI l2), some (vI l3), some (vI l4), some (vI l5), some (vI l6)]) (st' := [vI l6, vI l1, vR (some 139)]) (h' := h) f192_47 rfl ?_
    refine y_is (pc' := 50) (h' := (zsetV h 139 (l1).toNat l6)) f192_49 (ys139 w) (by decide) k.1 rfl rfl ?_
    replace k := k.2
    refine y_s (pc' := 51) (L' := [some (vR (some 137)), some (vI l1), some (vI l2), some (vI l3), some (vI l4), some (vI l5), some (vI l6)]) (st' := [vR (some 137)]) (h' := (zsetV h 139 (l1).toNat l6)) f192_50 rfl ?_
    refine y_s (pc' := 52) (L' := [some (vR (some 137)), some (vI l1), some (vI l2), some (vI l3), some (vI l4), some (vI l5), some (vI l6)]) (st' := [vI l1, vR (some 137)]) (h' := (zsetV h 139 (l1).toNat l6)) f192_51 rfl ?_
    refine y_cI (pc' := 55) (as := [vR (some 137), vI l1]) (r := []) f192_52 (yzv ym_8_292 rfl (ys137 w) rfl rfl) (by omega) rfl ?_
    exact k
theorem W192_55 {d : Nat} {K : Int → Hp → Prop} (w : yWF zl nl h) {l1 : Int} {l2 : Int} {l3 : Int} {l4 : Int} {l5 : Int} {l6 : Int} {s0 : Int} (k : ((s0 ≠ 0 → ZW d prog_10_method_48_code 8 37 [some (vR (some 137)), some (vI l1), some (vI l2), some (vI l3), some (vI (zw (l4 + 1))), some (vI l6), some (vI (zw (l6 + (-1))))] [] h (yq 1 (yqI K))) ∧ (¬ (s0 ≠ 0) → ZW d prog_10_method_48_code 8 37 [some (vR (some 137)), some (vI l1), some (vI l2), some (vI l3), some (vI l4), some (vI l5), some (vI (zw (l6 + (-1))))] [] h (yq 1 (yqI K))))) : ZW d prog_10_method_48_code 8 55 [some (vR (some 137)), some (vI l1), some (vI l2), some (vI l3), some (vI l4), some (vI l5), some (vI l6)] [vI s0] h (yq 1 (yqI K)) := by
  refine y_if (pcT := 61) (pc' := 58) (P := s0 ≠ 0) f192_55 rfl rfl rfl (fun c => ?_) (fun c => ?_)
  · replace k := k.1 c
    refine y_inc (pc' := 64) (L' := [some (vR (some 137)), some (vI l1), some (vI l2), some (vI l3), some (vI (zw (l4 + 1))), some (vI l5), some (vI l6)]) f192_61 rfl rfl rfl rfl ?_
    refine y_s (pc' := 66) (L' := [some (vR (some 137)), some (vI l1), some (vI l2), some (vI l3), some (vI (zw (l4 + 1))), some (vI l5), some (vI l6)]) (st' := [vI l6]) (h' := h) f192_64 rfl ?_
    refine y_sto (pc' := 68) (k := 5) (L' := [some (vR (some 137)), some (vI l1), some (vI l2), some (vI l3), some (vI (zw (l4 + 1))), some (vI l6), some (vI l6)]) f192_66 rfl rfl rfl rfl rfl rfl ?_
    refine y_inc (pc' := 71) (L' := [some (vR (some 137)), some (vI l1), some (vI l2), some (vI l3), some (vI (zw (l4 + 1))), some (vI l6), some (vI (zw (l6 + (-1))))]) f192_68 rfl rfl rfl rfl ?_
    refine y_go (pc' := 37) f192_71 rfl ?_
    exact k
  · replace k := k.2 c
    refine y_go (pc' := 68) f192_58 rfl ?_
    refine y_inc (pc' := 71) (L' := [some (vR (some 137)), some (vI l1), some (vI l2), some (vI l3), some (vI l4), some (vI l5), some (vI (zw (l6 + (-1))))]) f192_68 rfl rfl rfl rfl ?_
    refine y_go (pc' := 37) f192_71 rfl ?_
    exact k
/-- HatterTunesModel.odds(II)J -/
theorem E193 {d : Nat} {K : Int64 → Hp → Prop} (w : yWF zl nl h) {x0 : Int} {x1 : Int} (hd : 2 ≤ d) (k : (((0 : Int) ≤ zV h 137 0 ∧ zV h 137 0 ≤ 6) ∧ ((((0 : Int) ≤ x0 ∧ x0 < zV h 137 0) → ((((0 : Int) ≤ x1 ∧ x1 ≤ 1) → ZW d prog_10_method_50_code 8 26 [some (vR (some 137)), some (vI x0), some (vI x1), some (vI 0), some (vI 0), none, none] [] h (yq 4 (yqJ K))) ∧ (¬ (((0 : Int) ≤ x1 ∧ x1 ≤ 1)) → K (-9223372036854775808 : Int64) h))) ∧ (¬ (((0 : Int) ≤ x0 ∧ x0 < zV h 137 0)) → K (-9223372036854775808 : Int64) h)))) : yJ d 193 [vR (some 137), vI x0, vI x1] h K := by
  refine y_en (L := [some (vR (some 137)), some (vI x0), some (vI x1), none, none, none, none]) rfl rfl ?_
  refine y_s (pc' := 1) (L' := [some (vR (some 137)), some (vI x0), some (vI x1), none, none, none, none]) (st' := [vR (some 137)]) (h' := h) f193_0 rfl ?_
  refine y_s (pc' := 2) (L' := [some (vR (some 137)), some (vI x0), some (vI x1), none, none, none, none]) (st' := [vI x0, vR (some 137)]) (h' := h) f193_1 rfl ?_
  refine y_cI (pc' := 5) (as := [vR (some 137), vI x0]) (r := []) f193_2 (yzv ym_8_121 rfl (ys137 w) rfl rfl) (by omega) rfl ?_
  have p0 := k.1
  replace k := k.2
  refine sp131 w (by omega) p0 (fun c => ?_) (fun c => ?_)
  · replace k := k.1 c
    refine y_iff (pcT := 17) (pc' := 8) f193_5 rfl rfl rfl ?_
    refine y_s (pc' := 9) (L' := [some (vR (some 137)), some (vI x0), some (vI x1), none, none, none, none]) (st' := [vI x1]) (h' := h) f193_8 rfl ?_
    refine y_s (pc' := 10) (L' := [some (vR (some 137)), some (vI x0), some (vI x1), none, none, none, none]) (st' := [vI 0, vI x1]) (h' := h) f193_9 rfl ?_
    refine y_s (pc' := 11) (L' := [some (vR (some 137)), some (vI x0), some (vI x1), none, none, none, none]) (st' := [vI 1, vI 0, vI x1]) (h' := h) f193_10 rfl ?_
    refine y_cI (pc' := 14) (as := [vI x1, vI 0, vI 1]) (r := []) f193_11 rfl (by omega) rfl ?_
    refine sp129 w (fun c => ?_) (fun c => ?_)
    · replace k := k.1 c
      refine y_ift (pcT := 21) f193_14 rfl rfl ?_
      refine y_s (pc' := 22) (L' := [some (vR (some 137)), some (vI x0), some (vI x1), none, none, none, none]) (st' := [vI 0]) (h' := h) f193_21 rfl ?_
      refine y_sto (pc' := 23) (k := 3) (L' := [some (vR (some 137)), some (vI x0), some (vI x1), some (vI 0), none, none, none]) f193_22 rfl rfl rfl rfl rfl rfl ?_
      refine y_s (pc' := 24) (L' := [some (vR (some 137)), some (vI x0), some (vI x1), some (vI 0), none, none, none]) (st' := [vI 0]) (h' := h) f193_23 rfl ?_
      refine y_sto (pc' := 26) (k := 4) (L' := [some (vR (some 137)), some (vI x0), some (vI x1), some (vI 0), some (vI 0), none, none]) f193_24 rfl rfl rfl rfl rfl rfl ?_
      exact k
    · replace k := k.2 c
      refine y_iff (pcT := 21) (pc' := 17) f193_14 rfl rfl rfl ?_
      refine y_s (pc' := 20) (L' := [some (vR (some 137)), some (vI x0), some (vI x1), none, none, none, none]) (st' := [vJ (-9223372036854775808 : Int64)]) (h' := h) f193_17 rfl ?_
      exact y_rj f193_20 ⟨rfl, k⟩
  · replace k := k.2 c
    refine y_ift (pcT := 17) f193_5 rfl rfl ?_
    refine y_s (pc' := 20) (L' := [some (vR (some 137)), some (vI x0), some (vI x1), none, none, none, none]) (st' := [vJ (-9223372036854775808 : Int64)]) (h' := h) f193_17 rfl ?_
    exact y_rj f193_20 ⟨rfl, k⟩
theorem W193_26 {d : Nat} {K : Int64 → Hp → Prop} (w : yWF zl nl h) {l1 : Int} {l2 : Int} {l3 : Int} {l4 : Int} {l5 : Option Int} {l6 : Option Int} (hd : 1 ≤ d) (k : ((6 ≤ l4 → yJ (d - 1) 194 [vJ ((zi l3).toInt64), vJ (60 : Int64), vI l2] h (fun x h' => ZW d prog_10_method_50_code 8 119 [some (vR (some 137)), some (vI l1), some (vI l2), some (vI l3), some (vI l4), yo l5, yo l6] [vJ x] h' (yq 4 (yqJ K)))) ∧ (¬ (6 ≤ l4) → ((0 ≤ (zw ((zw (6 * l1)) + l4)) ∧ (zw ((zw (6 * l1)) + l4)) < 36) ∧ ZW d prog_10_method_50_code 8 50 [some (vR (some 137)), some (vI l1), some (vI l2), some (vI l3), some (vI l4), some (vI (zV h 140 ((zw ((zw (6 * l1)) + l4))).toNat)), some (vI 0)] [] h (yq 4 (yqJ K)))))) : ZW d prog_10_method_50_code 8 26 [some (vR (some 137)), some (vI l1), some (vI l2), some (vI l3), some (vI l4), yo l5, yo l6] [] h (yq 4 (yqJ K)) := by
  refine y_s (pc' := 28) (L' := [some (vR (some 137)), some (vI l1), some (vI l2), some (vI l3), some (vI l4), yo l5, yo l6]) (st' := [vI l4]) (h' := h) f193_26 rfl ?_
  refine y_s (pc' := 30) (L' := [some (vR (some 137)), some (vI l1), some (vI l2), some (vI l3), some (vI l4), yo l5, yo l6]) (st' := [vI 6, vI l4]) (h' := h) f193_28 rfl ?_
  refine y_ic (pcT := 110) (pc' := 33) (P := 6 ≤ l4) f193_30 rfl rfl rfl (fun c => ?_) (fun c => ?_)
  · replace k := k.1 c
    refine y_s (pc' := 111) (L' := [some (vR (some 137)), some (vI l1), some (vI l2), some (vI l3), some (vI l4), yo l5, yo l6]) (st' := [vI l3]) (h' := h) f193_110 rfl ?_
    refine y_s (pc' := 112) (L' := [some (vR (some 137)), some (vI l1), some (vI l2), some (vI l3), some (vI l4), yo l5, yo l6]) (st' := [vJ ((zi l3).toInt64)]) (h' := h) f193_111 rfl ?_
    refine y_s (pc' := 115) (L' := [some (vR (some 137)), some (vI l1), some (vI l2), some (vI l3), some (vI l4), yo l5, yo l6]) (st' := [vJ (60 : Int64), vJ ((zi l3).toInt64)]) (h' := h) f193_112 rfl ?_
    refine y_s (pc' := 116) (L' := [some (vR (some 137)), some (vI l1), some (vI l2), some (vI l3), some (vI l4), yo l5, yo l6]) (st' := [vI l2, vJ (60 : Int64), vJ ((zi l3).toInt64)]) (h' := h) f193_115 rfl ?_
    refine y_cJ (pc' := 119) (as := [vJ ((zi l3).toInt64), vJ (60 : Int64), vI l2]) (r := []) f193_116 rfl (by omega) rfl ?_
    exact k
  · replace k := k.2 c
    refine y_s (pc' := 34) (L' := [some (vR (some 137)), some (vI l1), some (vI l2), some (vI l3), some (vI l4), yo l5, yo l6]) (st' := [vR (some 137)]) (h' := h) f193_33 rfl ?_
    refine y_gr (pc' := 37) f193_34 yf_8_18 rfl rfl (ys137 w) (yp137_3 w) rfl ?_
    refine y_s (pc' := 39) (L' := [some (vR (some 137)), some (vI l1), some (vI l2), some (vI l3), some (vI l4), yo l5, yo l6]) (st' := [vI 6, vR (some 140)]) (h' := h) f193_37 rfl ?_
    refine y_s (pc' := 40) (L' := [some (vR (some 137)), some (vI l1), some (vI l2), some (vI l3), some (vI l4), yo l5, yo l6]) (st' := [vI l1, vI 6, vR (some 140)]) (h' := h) f193_39 rfl ?_
    refine y_s (pc' := 41) (L' := [some (vR (some 137)), some (vI l1), some (vI l2), some (vI l3), some (vI l4), yo l5, yo l6]) (st' := [vI (zw (6 * l1)), vR (some 140)]) (h' := h) f193_40 rfl ?_
    refine y_s (pc' := 43) (L' := [some (vR (some 137)), some (vI l1), some (vI l2), some (vI l3), some (vI l4), yo l5, yo l6]) (st' := [vI l4, vI (zw (6 * l1)), vR (some 140)]) (h' := h) f193_41 rfl ?_
    refine y_s (pc' := 44) (L' := [some (vR (some 137)), some (vI l1), some (vI l2), some (vI l3), some (vI l4), yo l5, yo l6]) (st' := [vI (zw ((zw (6 * l1)) + l4)), vR (some 140)]) (h' := h) f193_43 rfl ?_
    refine y_ia (pc' := 45) (x := (zV h 140 ((zw ((zw (6 * l1)) + l4))).toNat)) f193_44 (ys140 w) k.1 rfl rfl ?_
    replace k := k.2
    refine y_sto (pc' := 47) (k := 5) (L' := [some (vR (some 137)), some (vI l1), some (vI l2), some (vI l3), some (vI l4), some (vI (zV h 140 ((zw ((zw (6 * l1)) + l4))).toNat)), yo l6]) f193_45 rfl rfl rfl rfl rfl rfl ?_
    refine y_s (pc' := 48) (L' := [some (vR (some 137)), some (vI l1), some (vI l2), some (vI l3), some (vI l4), some (vI (zV h 140 ((zw ((zw (6 * l1)) + l4))).toNat)), yo l6]) (st' := [vI 0]) (h' := h) f193_47 rfl ?_
    refine y_sto (pc' := 50) (k := 6) (L' := [some (vR (some 137)), some (vI l1), some (vI l2), some (vI l3), some (vI l4), some (vI (zV h 140 ((zw ((zw (6 * l1)) + l4))).toNat)), some (vI 0)]) f193_48 rfl rfl rfl rfl rfl rfl ?_
    exact k
theorem W193_50 {d : Nat} {K : Int64 → Hp → Prop} (w : yWF zl nl h) {l1 : Int} {l2 : Int} {l3 : Int} {l4 : Int} {l5 : Int} {l6 : Int} (hd : 1 ≤ d) (k : ((10 ≤ l6 → ((0 ≤ (zw ((zw (6 * l1)) + l4)) ∧ (zw ((zw (6 * l1)) + l4)) < 36) ∧ ZW d prog_10_method_50_code 8 26 [some (vR (some 137)), some (vI l1), some (vI l2), some (vI l3), some (vI (zw (l4 + 1))), some (vI l5), some (vI l6)] [] (zsetV h 140 ((zw ((zw (6 * l1)) + l4))).toNat l5) (yq 4 (yqJ K)))) ∧ (¬ (10 ≤ l6) → ((0 ≤ (zw ((zw (6 * l1)) + l4)) ∧ (zw ((zw (6 * l1)) + l4)) < 36) ∧ yI (d - 1) 146 [vR (some 137), vI l1] (zsetV h 140 ((zw ((zw (6 * l1)) + l4))).toNat l6) (fun x h' => ZW d prog_10_method_50_code 8 76 [some (vR (some 137)), some (vI l1), some (vI l2), some (vI l3), some (vI l4), some (vI l5), some (vI l6)] [vI x] h' (yq 4 (yqJ K))))))) : ZW d prog_10_method_50_code 8 50 [some (vR (some 137)), some (vI l1), some (vI l2), some (vI l3), some (vI l4), some (vI l5), some (vI l6)] [] h (yq 4 (yqJ K)) := by
  refine y_s (pc' := 52) (L' := [some (vR (some 137)), some (vI l1), some (vI l2), some (vI l3), some (vI l4), some (vI l5), some (vI l6)]) (st' := [vI l6]) (h' := h) f193_50 rfl ?_
  refine y_s (pc' := 54) (L' := [some (vR (some 137)), some (vI l1), some (vI l2), some (vI l3), some (vI l4), some (vI l5), some (vI l6)]) (st' := [vI 10, vI l6]) (h' := h) f193_52 rfl ?_
  refine y_ic (pcT := 90) (pc' := 57) (P := 10 ≤ l6) f193_54 rfl rfl rfl (fun c => ?_) (fun c => ?_)
  · replace k := k.1 c
    refine y_s (pc' := 91) (L' := [some (vR (some 137)), some (vI l1), some (vI l2), some (vI l3), some (vI l4), some (vI l5), some (vI l6)]) (st' := [vR (some 137)]) (h' := h) f193_90 rfl ?_
    refine y_gr (pc' := 94) f193_91 yf_8_18 rfl rfl (ys137 w) (yp137_3 w) rfl ?_
    refine y_s (pc' := 96) (L' := [some (vR (some 137)), some (vI l1), some (vI l2), some (vI l3), some (vI l4), some (vI l5), some (vI l6)]) (st' := [vI 6, vR (some 140)]) (h' := h) f193_94 rfl ?_
    refine y_s (pc' := 97) (L' := [some (vR (some 137)), some (vI l1), some (vI l2), some (vI l3), some (vI l4), some (vI l5), some (vI l6)]) (st' := [vI l1, vI 6, vR (some 140)]) (h' := h) f193_96 rfl ?_
    refine y_s (pc' := 98) (L' := [some (vR (some 137)), some (vI l1), some (vI l2), some (vI l3), some (vI l4), some (vI l5), some (vI l6)]) (st' := [vI (zw (6 * l1)), vR (some 140)]) (h' := h) f193_97 rfl ?_
    refine y_s (pc' := 100) (L' := [some (vR (some 137)), some (vI l1), some (vI l2), some (vI l3), some (vI l4), some (vI l5), some (vI l6)]) (st' := [vI l4, vI (zw (6 * l1)), vR (some 140)]) (h' := h) f193_98 rfl ?_
    refine y_s (pc' := 101) (L' := [some (vR (some 137)), some (vI l1), some (vI l2), some (vI l3), some (vI l4), some (vI l5), some (vI l6)]) (st' := [vI (zw ((zw (6 * l1)) + l4)), vR (some 140)]) (h' := h) f193_100 rfl ?_
    refine y_s (pc' := 103) (L' := [some (vR (some 137)), some (vI l1), some (vI l2), some (vI l3), some (vI l4), some (vI l5), some (vI l6)]) (st' := [vI l5, vI (zw ((zw (6 * l1)) + l4)), vR (some 140)]) (h' := h) f193_101 rfl ?_
    refine y_is (pc' := 104) (h' := (zsetV h 140 ((zw ((zw (6 * l1)) + l4))).toNat l5)) f193_103 (ys140 w) (by decide) k.1 rfl rfl ?_
    replace k := k.2
    refine y_inc (pc' := 107) (L' := [some (vR (some 137)), some (vI l1), some (vI l2), some (vI l3), some (vI (zw (l4 + 1))), some (vI l5), some (vI l6)]) f193_104 rfl rfl rfl rfl ?_
    refine y_go (pc' := 26) f193_107 rfl ?_
    exact k
  · replace k := k.2 c
    refine y_s (pc' := 58) (L' := [some (vR (some 137)), some (vI l1), some (vI l2), some (vI l3), some (vI l4), some (vI l5), some (vI l6)]) (st' := [vR (some 137)]) (h' := h) f193_57 rfl ?_
    refine y_gr (pc' := 61) f193_58 yf_8_18 rfl rfl (ys137 w) (yp137_3 w) rfl ?_
    refine y_s (pc' := 63) (L' := [some (vR (some 137)), some (vI l1), some (vI l2), some (vI l3), some (vI l4), some (vI l5), some (vI l6)]) (st' := [vI 6, vR (some 140)]) (h' := h) f193_61 rfl ?_
    refine y_s (pc' := 64) (L' := [some (vR (some 137)), some (vI l1), some (vI l2), some (vI l3), some (vI l4), some (vI l5), some (vI l6)]) (st' := [vI l1, vI 6, vR (some 140)]) (h' := h) f193_63 rfl ?_
    refine y_s (pc' := 65) (L' := [some (vR (some 137)), some (vI l1), some (vI l2), some (vI l3), some (vI l4), some (vI l5), some (vI l6)]) (st' := [vI (zw (6 * l1)), vR (some 140)]) (h' := h) f193_64 rfl ?_
    refine y_s (pc' := 67) (L' := [some (vR (some 137)), some (vI l1), some (vI l2), some (vI l3), some (vI l4), some (vI l5), some (vI l6)]) (st' := [vI l4, vI (zw (6 * l1)), vR (some 140)]) (h' := h) f193_65 rfl ?_
    refine y_s (pc' := 68) (L' := [some (vR (some 137)), some (vI l1), some (vI l2), some (vI l3), some (vI l4), some (vI l5), some (vI l6)]) (st' := [vI (zw ((zw (6 * l1)) + l4)), vR (some 140)]) (h' := h) f193_67 rfl ?_
    refine y_s (pc' := 70) (L' := [some (vR (some 137)), some (vI l1), some (vI l2), some (vI l3), some (vI l4), some (vI l5), some (vI l6)]) (st' := [vI l6, vI (zw ((zw (6 * l1)) + l4)), vR (some 140)]) (h' := h) f193_68 rfl ?_
    refine y_is (pc' := 71) (h' := (zsetV h 140 ((zw ((zw (6 * l1)) + l4))).toNat l6)) f193_70 (ys140 w) (by decide) k.1 rfl rfl ?_
    replace k := k.2
    refine y_s (pc' := 72) (L' := [some (vR (some 137)), some (vI l1), some (vI l2), some (vI l3), some (vI l4), some (vI l5), some (vI l6)]) (st' := [vR (some 137)]) (h' := (zsetV h 140 ((zw ((zw (6 * l1)) + l4))).toNat l6)) f193_71 rfl ?_
    refine y_s (pc' := 73) (L' := [some (vR (some 137)), some (vI l1), some (vI l2), some (vI l3), some (vI l4), some (vI l5), some (vI l6)]) (st' := [vI l1, vR (some 137)]) (h' := (zsetV h 140 ((zw ((zw (6 * l1)) + l4))).toNat l6)) f193_72 rfl ?_
    refine y_cI (pc' := 76) (as := [vR (some 137), vI l1]) (r := []) f193_73 (yzv ym_8_142 rfl (ys137 w) rfl rfl) (by omega) rfl ?_
    exact k
theorem W193_76 {d : Nat} {K : Int64 → Hp → Prop} (w : yWF zl nl h) {l1 : Int} {l2 : Int} {l3 : Int} {l4 : Int} {l5 : Int} {l6 : Int} {s0 : Int} (k : ((s0 = (-5) → ZW d prog_10_method_50_code 8 50 [some (vR (some 137)), some (vI l1), some (vI l2), some (vI l3), some (vI l4), some (vI l5), some (vI (zw (l6 + 1)))] [] h (yq 4 (yqJ K))) ∧ (¬ (s0 = (-5)) → ZW d prog_10_method_50_code 8 50 [some (vR (some 137)), some (vI l1), some (vI l2), some (vI (zw (l3 + 1))), some (vI l4), some (vI l5), some (vI (zw (l6 + 1)))] [] h (yq 4 (yqJ K))))) : ZW d prog_10_method_50_code 8 76 [some (vR (some 137)), some (vI l1), some (vI l2), some (vI l3), some (vI l4), some (vI l5), some (vI l6)] [vI s0] h (yq 4 (yqJ K)) := by
  refine y_s (pc' := 78) (L' := [some (vR (some 137)), some (vI l1), some (vI l2), some (vI l3), some (vI l4), some (vI l5), some (vI l6)]) (st' := [vI (-5), vI s0]) (h' := h) f193_76 rfl ?_
  refine y_ic (pcT := 84) (pc' := 81) (P := s0 = (-5)) f193_78 rfl rfl rfl (fun c => ?_) (fun c => ?_)
  · replace k := k.1 c
    refine y_inc (pc' := 87) (L' := [some (vR (some 137)), some (vI l1), some (vI l2), some (vI l3), some (vI l4), some (vI l5), some (vI (zw (l6 + 1)))]) f193_84 rfl rfl rfl rfl ?_
    refine y_go (pc' := 50) f193_87 rfl ?_
    exact k
  · replace k := k.2 c
    refine y_inc (pc' := 84) (L' := [some (vR (some 137)), some (vI l1), some (vI l2), some (vI (zw (l3 + 1))), some (vI l4), some (vI l5), some (vI l6)]) f193_81 rfl rfl rfl rfl ?_
    refine y_inc (pc' := 87) (L' := [some (vR (some 137)), some (vI l1), some (vI l2), some (vI (zw (l3 + 1))), some (vI l4), some (vI l5), some (vI (zw (l6 + 1)))]) f193_84 rfl rfl rfl rfl ?_
    refine y_go (pc' := 50) f193_87 rfl ?_
    exact k
theorem W193_119 {d : Nat} {K : Int64 → Hp → Prop} (w : yWF zl nl h) {l1 : Int} {l2 : Int} {l3 : Int} {l4 : Int} {l5 : Option Int} {l6 : Option Int} {s0 : Int64} (k : K s0 h) : ZW d prog_10_method_50_code 8 119 [some (vR (some 137)), some (vI l1), some (vI l2), some (vI l3), some (vI l4), yo l5, yo l6] [vJ s0] h (yq 4 (yqJ K)) := by
  exact y_rj f193_119 ⟨rfl, k⟩
/-- HatterTunesModel.mean(II)J -/
theorem E196 {d : Nat} {K : Int64 → Hp → Prop} (w : yWF zl nl h) {x0 : Int} {x1 : Int} (hd : 1 ≤ d) (k : ((((0 : Int) ≤ x0 ∧ x0 ≤ 60) → ((((0 : Int) ≤ x1 ∧ x1 ≤ 1) → (((zV h 137 0) ≠ 0 → yU (d - 1) 141 [vR (some 137), vR (some 162)] h (fun h' => ZW d prog_10_method_51_code 8 38 [some (vR (some 137)), some (vI x0), some (vI x1), none] [] h' (yq 4 (yqJ K)))) ∧ (¬ ((zV h 137 0) ≠ 0) → K (-9223372036854775808 : Int64) h))) ∧ (¬ (((0 : Int) ≤ x1 ∧ x1 ≤ 1)) → K (-9223372036854775808 : Int64) h))) ∧ (¬ (((0 : Int) ≤ x0 ∧ x0 ≤ 60)) → K (-9223372036854775808 : Int64) h))) : yJ d 196 [vR (some 137), vI x0, vI x1] h K := by
  refine y_en (L := [some (vR (some 137)), some (vI x0), some (vI x1), none]) rfl rfl ?_
  refine y_s (pc' := 1) (L' := [some (vR (some 137)), some (vI x0), some (vI x1), none]) (st' := [vI x0]) (h' := h) f196_0 rfl ?_
  refine y_s (pc' := 2) (L' := [some (vR (some 137)), some (vI x0), some (vI x1), none]) (st' := [vI 0, vI x0]) (h' := h) f196_1 rfl ?_
  refine y_s (pc' := 4) (L' := [some (vR (some 137)), some (vI x0), some (vI x1), none]) (st' := [vI 60, vI 0, vI x0]) (h' := h) f196_2 rfl ?_
  refine y_cI (pc' := 7) (as := [vI x0, vI 0, vI 60]) (r := []) f196_4 rfl (by omega) rfl ?_
  refine sp129 w (fun c => ?_) (fun c => ?_)
  · replace k := k.1 c
    refine y_iff (pcT := 26) (pc' := 10) f196_7 rfl rfl rfl ?_
    refine y_s (pc' := 11) (L' := [some (vR (some 137)), some (vI x0), some (vI x1), none]) (st' := [vI x1]) (h' := h) f196_10 rfl ?_
    refine y_s (pc' := 12) (L' := [some (vR (some 137)), some (vI x0), some (vI x1), none]) (st' := [vI 0, vI x1]) (h' := h) f196_11 rfl ?_
    refine y_s (pc' := 13) (L' := [some (vR (some 137)), some (vI x0), some (vI x1), none]) (st' := [vI 1, vI 0, vI x1]) (h' := h) f196_12 rfl ?_
    refine y_cI (pc' := 16) (as := [vI x1, vI 0, vI 1]) (r := []) f196_13 rfl (by omega) rfl ?_
    refine sp129 w (fun c => ?_) (fun c => ?_)
    · replace k := k.1 c
      refine y_iff (pcT := 26) (pc' := 19) f196_16 rfl rfl rfl ?_
      refine y_s (pc' := 20) (L' := [some (vR (some 137)), some (vI x0), some (vI x1), none]) (st' := [vR (some 137)]) (h' := h) f196_19 rfl ?_
      refine y_gi (pc' := 23) f196_20 yf_8_114 rfl rfl (ys137 w) rfl ?_
      refine y_if (pcT := 30) (pc' := 26) (P := (zV h 137 0) ≠ 0) f196_23 rfl rfl rfl (fun c => ?_) (fun c => ?_)
      · replace k := k.1 c
        refine y_s (pc' := 31) (L' := [some (vR (some 137)), some (vI x0), some (vI x1), none]) (st' := [vR (some 137)]) (h' := h) f196_30 rfl ?_
        refine y_s (pc' := 32) (L' := [some (vR (some 137)), some (vI x0), some (vI x1), none]) (st' := [vR (some 137), vR (some 137)]) (h' := h) f196_31 rfl ?_
        refine y_gr (pc' := 35) f196_32 yf_8_85 rfl rfl (ys137 w) (yp137_40 w) rfl ?_
        refine y_cU (pc' := 38) (as := [vR (some 137), vR (some 162)]) (r := []) f196_35 (yzv ym_8_269 rfl (ys137 w) rfl rfl) (by omega) rfl ?_
        exact k
      · replace k := k.2 c
        refine y_s (pc' := 29) (L' := [some (vR (some 137)), some (vI x0), some (vI x1), none]) (st' := [vJ (-9223372036854775808 : Int64)]) (h' := h) f196_26 rfl ?_
        exact y_rj f196_29 ⟨rfl, k⟩
    · replace k := k.2 c
      refine y_ift (pcT := 26) f196_16 rfl rfl ?_
      refine y_s (pc' := 29) (L' := [some (vR (some 137)), some (vI x0), some (vI x1), none]) (st' := [vJ (-9223372036854775808 : Int64)]) (h' := h) f196_26 rfl ?_
      exact y_rj f196_29 ⟨rfl, k⟩
  · replace k := k.2 c
    refine y_ift (pcT := 26) f196_7 rfl rfl ?_
    refine y_s (pc' := 29) (L' := [some (vR (some 137)), some (vI x0), some (vI x1), none]) (st' := [vJ (-9223372036854775808 : Int64)]) (h' := h) f196_26 rfl ?_
    exact y_rj f196_29 ⟨rfl, k⟩
theorem W196_38 {d : Nat} {K : Int64 → Hp → Prop} (w : yWF zl nl h) {l1 : Int} {l2 : Int} (k : ZW d prog_10_method_51_code 8 40 [some (vR (some 137)), some (vI l1), some (vI l2), some (vI 0)] [] h (yq 4 (yqJ K))) : ZW d prog_10_method_51_code 8 38 [some (vR (some 137)), some (vI l1), some (vI l2), none] [] h (yq 4 (yqJ K)) := by
  refine y_s (pc' := 39) (L' := [some (vR (some 137)), some (vI l1), some (vI l2), none]) (st' := [vI 0]) (h' := h) f196_38 rfl ?_
  refine y_sto (pc' := 40) (k := 3) (L' := [some (vR (some 137)), some (vI l1), some (vI l2), some (vI 0)]) f196_39 rfl rfl rfl rfl rfl rfl ?_
  exact k
theorem W196_40 {d : Nat} {K : Int64 → Hp → Prop} (w : yWF zl nl h) {l1 : Int} {l2 : Int} {l3 : Int} (hd : 1 ≤ d) (k : ((l1 ≤ l3 → yI (d - 1) 185 [vR (some 137)] h (fun x h' => ZW d prog_10_method_51_code 8 59 [some (vR (some 137)), some (vI l1), some (vI l2), some (vI l3)] [vI x] h' (yq 4 (yqJ K)))) ∧ (¬ (l1 ≤ l3) → yU (d - 1) 142 [vR (some 137)] h (fun h' => ZW d prog_10_method_51_code 8 49 [some (vR (some 137)), some (vI l1), some (vI l2), some (vI l3)] [] h' (yq 4 (yqJ K)))))) : ZW d prog_10_method_51_code 8 40 [some (vR (some 137)), some (vI l1), some (vI l2), some (vI l3)] [] h (yq 4 (yqJ K)) := by
  refine y_s (pc' := 41) (L' := [some (vR (some 137)), some (vI l1), some (vI l2), some (vI l3)]) (st' := [vI l3]) (h' := h) f196_40 rfl ?_
  refine y_s (pc' := 42) (L' := [some (vR (some 137)), some (vI l1), some (vI l2), some (vI l3)]) (st' := [vI l1, vI l3]) (h' := h) f196_41 rfl ?_
  refine y_ic (pcT := 55) (pc' := 45) (P := l1 ≤ l3) f196_42 rfl rfl rfl (fun c => ?_) (fun c => ?_)
  · replace k := k.1 c
    refine y_s (pc' := 56) (L' := [some (vR (some 137)), some (vI l1), some (vI l2), some (vI l3)]) (st' := [vR (some 137)]) (h' := h) f196_55 rfl ?_
    refine y_cI (pc' := 59) (as := [vR (some 137)]) (r := []) f196_56 (yzv ym_8_263 rfl (ys137 w) rfl rfl) (by omega) rfl ?_
    exact k
  · replace k := k.2 c
    refine y_s (pc' := 46) (L' := [some (vR (some 137)), some (vI l1), some (vI l2), some (vI l3)]) (st' := [vR (some 137)]) (h' := h) f196_45 rfl ?_
    refine y_cU (pc' := 49) (as := [vR (some 137)]) (r := []) f196_46 (yzv ym_8_266 rfl (ys137 w) rfl rfl) (by omega) rfl ?_
    exact k
theorem W196_49 {d : Nat} {K : Int64 → Hp → Prop} (w : yWF zl nl h) {l1 : Int} {l2 : Int} {l3 : Int} (k : ZW d prog_10_method_51_code 8 40 [some (vR (some 137)), some (vI l1), some (vI l2), some (vI (zw (l3 + 1)))] [] h (yq 4 (yqJ K))) : ZW d prog_10_method_51_code 8 49 [some (vR (some 137)), some (vI l1), some (vI l2), some (vI l3)] [] h (yq 4 (yqJ K)) := by
  refine y_inc (pc' := 52) (L' := [some (vR (some 137)), some (vI l1), some (vI l2), some (vI (zw (l3 + 1)))]) f196_49 rfl rfl rfl rfl ?_
  refine y_go (pc' := 40) f196_52 rfl ?_
  exact k
theorem W196_59 {d : Nat} {K : Int64 → Hp → Prop} (w : yWF zl nl h) {l1 : Int} {l2 : Int} {l3 : Int} {s0 : Int} (hd : 1 ≤ d) (k : yU (d - 1) 145 [vR (some 137), vR (some 162)] h (fun h' => ZW d prog_10_method_51_code 8 68 [some (vR (some 137)), some (vI l1), some (vI l2), some (vI s0)] [] h' (yq 4 (yqJ K)))) : ZW d prog_10_method_51_code 8 59 [some (vR (some 137)), some (vI l1), some (vI l2), some (vI l3)] [vI s0] h (yq 4 (yqJ K)) := by
  refine y_sto (pc' := 60) (k := 3) (L' := [some (vR (some 137)), some (vI l1), some (vI l2), some (vI s0)]) f196_59 rfl rfl rfl rfl rfl rfl ?_
  refine y_s (pc' := 61) (L' := [some (vR (some 137)), some (vI l1), some (vI l2), some (vI s0)]) (st' := [vR (some 137)]) (h' := h) f196_60 rfl ?_
  refine y_s (pc' := 62) (L' := [some (vR (some 137)), some (vI l1), some (vI l2), some (vI s0)]) (st' := [vR (some 137), vR (some 137)]) (h' := h) f196_61 rfl ?_
  refine y_gr (pc' := 65) f196_62 yf_8_85 rfl rfl (ys137 w) (yp137_40 w) rfl ?_
  refine y_cU (pc' := 68) (as := [vR (some 137), vR (some 162)]) (r := []) f196_65 (yzv ym_8_273 rfl (ys137 w) rfl rfl) (by omega) rfl ?_
  exact k
theorem W196_68 {d : Nat} {K : Int64 → Hp → Prop} (w : yWF zl nl h) {l1 : Int} {l2 : Int} {l3 : Int} (hd : 1 ≤ d) (k : yJ (d - 1) 194 [vJ ((zi l3).toInt64), vJ ((zi (zw (6 * (zV h 137 0)))).toInt64), vI l2] h (fun x h' => ZW d prog_10_method_51_code 8 82 [some (vR (some 137)), some (vI l1), some (vI l2), some (vI l3)] [vJ x] h' (yq 4 (yqJ K)))) : ZW d prog_10_method_51_code 8 68 [some (vR (some 137)), some (vI l1), some (vI l2), some (vI l3)] [] h (yq 4 (yqJ K)) := by
  refine y_s (pc' := 69) (L' := [some (vR (some 137)), some (vI l1), some (vI l2), some (vI l3)]) (st' := [vI l3]) (h' := h) f196_68 rfl ?_
  refine y_s (pc' := 70) (L' := [some (vR (some 137)), some (vI l1), some (vI l2), some (vI l3)]) (st' := [vJ ((zi l3).toInt64)]) (h' := h) f196_69 rfl ?_
  refine y_s (pc' := 72) (L' := [some (vR (some 137)), some (vI l1), some (vI l2), some (vI l3)]) (st' := [vI 6, vJ ((zi l3).toInt64)]) (h' := h) f196_70 rfl ?_
  refine y_s (pc' := 73) (L' := [some (vR (some 137)), some (vI l1), some (vI l2), some (vI l3)]) (st' := [vR (some 137), vI 6, vJ ((zi l3).toInt64)]) (h' := h) f196_72 rfl ?_
  refine y_gi (pc' := 76) f196_73 yf_8_114 rfl rfl (ys137 w) rfl ?_
  refine y_s (pc' := 77) (L' := [some (vR (some 137)), some (vI l1), some (vI l2), some (vI l3)]) (st' := [vI (zw (6 * (zV h 137 0))), vJ ((zi l3).toInt64)]) (h' := h) f196_76 rfl ?_
  refine y_s (pc' := 78) (L' := [some (vR (some 137)), some (vI l1), some (vI l2), some (vI l3)]) (st' := [vJ ((zi (zw (6 * (zV h 137 0)))).toInt64), vJ ((zi l3).toInt64)]) (h' := h) f196_77 rfl ?_
  refine y_s (pc' := 79) (L' := [some (vR (some 137)), some (vI l1), some (vI l2), some (vI l3)]) (st' := [vI l2, vJ ((zi (zw (6 * (zV h 137 0)))).toInt64), vJ ((zi l3).toInt64)]) (h' := h) f196_78 rfl ?_
  refine y_cJ (pc' := 82) (as := [vJ ((zi l3).toInt64), vJ ((zi (zw (6 * (zV h 137 0)))).toInt64), vI l2]) (r := []) f196_79 rfl (by omega) rfl ?_
  exact k
theorem W196_82 {d : Nat} {K : Int64 → Hp → Prop} (w : yWF zl nl h) {l1 : Int} {l2 : Int} {l3 : Int} {s0 : Int64} (k : K s0 h) : ZW d prog_10_method_51_code 8 82 [some (vR (some 137)), some (vI l1), some (vI l2), some (vI l3)] [vJ s0] h (yq 4 (yqJ K)) := by
  exact y_rj f196_82 ⟨rfl, k⟩
/-- HatterTunesModel.ends(I)I -/
theorem E198 {d : Nat} {K : Int → Hp → Prop} (w : yWF zl nl h) {x0 : Int} (hd : 1 ≤ d) (k : ((((0 : Int) ≤ x0 ∧ x0 ≤ 1) → yU (d - 1) 141 [vR (some 137), vR (some 162)] h (fun h' => ZW d prog_10_method_53_code 8 19 [some (vR (some 137)), some (vI x0), none, none, none] [] h' (yq 1 (yqI K)))) ∧ (¬ (((0 : Int) ≤ x0 ∧ x0 ≤ 1)) → K (-1) h))) : yI d 198 [vR (some 137), vI x0] h K := by
  refine y_en (L := [some (vR (some 137)), some (vI x0), none, none, none]) rfl rfl ?_
  refine y_s (pc' := 1) (L' := [some (vR (some 137)), some (vI x0), none, none, none]) (st' := [vI x0]) (h' := h) f198_0 rfl ?_
  refine y_s (pc' := 2) (L' := [some (vR (some 137)), some (vI x0), none, none, none]) (st' := [vI 0, vI x0]) (h' := h) f198_1 rfl ?_
  refine y_s (pc' := 3) (L' := [some (vR (some 137)), some (vI x0), none, none, none]) (st' := [vI 1, vI 0, vI x0]) (h' := h) f198_2 rfl ?_
  refine y_cI (pc' := 6) (as := [vI x0, vI 0, vI 1]) (r := []) f198_3 rfl (by omega) rfl ?_
  refine sp129 w (fun c => ?_) (fun c => ?_)
  · replace k := k.1 c
    refine y_ift (pcT := 11) f198_6 rfl rfl ?_
    refine y_s (pc' := 12) (L' := [some (vR (some 137)), some (vI x0), none, none, none]) (st' := [vR (some 137)]) (h' := h) f198_11 rfl ?_
    refine y_s (pc' := 13) (L' := [some (vR (some 137)), some (vI x0), none, none, none]) (st' := [vR (some 137), vR (some 137)]) (h' := h) f198_12 rfl ?_
    refine y_gr (pc' := 16) f198_13 yf_8_85 rfl rfl (ys137 w) (yp137_40 w) rfl ?_
    refine y_cU (pc' := 19) (as := [vR (some 137), vR (some 162)]) (r := []) f198_16 (yzv ym_8_269 rfl (ys137 w) rfl rfl) (by omega) rfl ?_
    exact k
  · replace k := k.2 c
    refine y_iff (pcT := 11) (pc' := 9) f198_6 rfl rfl rfl ?_
    refine y_s (pc' := 10) (L' := [some (vR (some 137)), some (vI x0), none, none, none]) (st' := [vI (-1)]) (h' := h) f198_9 rfl ?_
    exact y_ri f198_10 ⟨rfl, k⟩
theorem W198_19 {d : Nat} {K : Int → Hp → Prop} (w : yWF zl nl h) {l1 : Int} (k : ZW d prog_10_method_53_code 8 21 [some (vR (some 137)), some (vI l1), some (vI 0), none, none] [] h (yq 1 (yqI K))) : ZW d prog_10_method_53_code 8 19 [some (vR (some 137)), some (vI l1), none, none, none] [] h (yq 1 (yqI K)) := by
  refine y_s (pc' := 20) (L' := [some (vR (some 137)), some (vI l1), none, none, none]) (st' := [vI 0]) (h' := h) f198_19 rfl ?_
  refine y_sto (pc' := 21) (k := 2) (L' := [some (vR (some 137)), some (vI l1), some (vI 0), none, none]) f198_20 rfl rfl rfl rfl rfl rfl ?_
  exact k
theorem W198_21 {d : Nat} {K : Int → Hp → Prop} (w : yWF zl nl h) {l1 : Int} {l2 : Int} {l3 : Option Int} {l4 : Option Int} (hd : 1 ≤ d) (k : (((zV h 137 30) ≤ l2 → ((l1 ≠ 0 → yI (d - 1) 184 [vR (some 137)] h (fun x h' => ZW d prog_10_method_53_code 8 152 [some (vR (some 137)), some (vI l1), some (vI l2), yo l3, yo l4] [vI x] h' (yq 1 (yqI K)))) ∧ (¬ (l1 ≠ 0) → yI (d - 1) 185 [vR (some 137)] h (fun x h' => ZW d prog_10_method_53_code 8 145 [some (vR (some 137)), some (vI l1), some (vI l2), yo l3, yo l4] [vI x] h' (yq 1 (yqI K)))))) ∧ (¬ ((zV h 137 30) ≤ l2) → ((0 ≤ l2 ∧ l2 < 10) ∧ ((0 ≤ l2 ∧ l2 < 10) ∧ (((zV h 156 (l2).toNat) ≠ 0 → ((0 ≤ l2 ∧ l2 < 10) ∧ (((zV h 156 (l2).toNat) ≠ 2 → ZW d prog_10_method_53_code 8 75 [some (vR (some 137)), some (vI l1), some (vI l2), some (vI (zV h 157 (l2).toNat)), some (vI 0)] [] h (yq 1 (yqI K))) ∧ (¬ ((zV h 156 (l2).toNat) ≠ 2) → ((0 ≤ (zV h 157 (l2).toNat) ∧ (zV h 157 (l2).toNat) < 6) ∧ ZW d prog_10_method_53_code 8 21 [some (vR (some 137)), some (vI l1), some (vI (zw (l2 + 1))), some (vI (zV h 157 (l2).toNat)), yo l4] [] (zsetV h 141 ((zV h 157 (l2).toNat)).toNat 0) (yq 1 (yqI K))))))) ∧ (¬ ((zV h 156 (l2).toNat) ≠ 0) → yU (d - 1) 142 [vR (some 137)] h (fun h' => ZW d prog_10_method_53_code 8 49 [some (vR (some 137)), some (vI l1), some (vI l2), some (vI (zV h 157 (l2).toNat)), yo l4] [] h' (yq 1 (yqI K)))))))))) : ZW d prog_10_method_53_code 8 21 [some (vR (some 137)), some (vI l1), some (vI l2), yo l3, yo l4] [] h (yq 1 (yqI K)) := by
  refine y_s (pc' := 22) (L' := [some (vR (some 137)), some (vI l1), some (vI l2), yo l3, yo l4]) (st' := [vI l2]) (h' := h) f198_21 rfl ?_
  refine y_s (pc' := 23) (L' := [some (vR (some 137)), some (vI l1), some (vI l2), yo l3, yo l4]) (st' := [vR (some 137), vI l2]) (h' := h) f198_22 rfl ?_
  refine y_gi (pc' := 26) f198_23 yf_8_307 rfl rfl (ys137 w) rfl ?_
  refine y_ic (pcT := 137) (pc' := 29) (P := (zV h 137 30) ≤ l2) f198_26 rfl rfl rfl (fun c => ?_) (fun c => ?_)
  · replace k := k.1 c
    refine y_s (pc' := 138) (L' := [some (vR (some 137)), some (vI l1), some (vI l2), yo l3, yo l4]) (st' := [vI l1]) (h' := h) f198_137 rfl ?_
    refine y_if (pcT := 148) (pc' := 141) (P := l1 ≠ 0) f198_138 rfl rfl rfl (fun c => ?_) (fun c => ?_)
    · replace k := k.1 c
      refine y_s (pc' := 149) (L' := [some (vR (some 137)), some (vI l1), some (vI l2), yo l3, yo l4]) (st' := [vR (some 137)]) (h' := h) f198_148 rfl ?_
      refine y_cI (pc' := 152) (as := [vR (some 137)]) (r := []) f198_149 (yzv ym_8_260 rfl (ys137 w) rfl rfl) (by omega) rfl ?_
      exact k
    · replace k := k.2 c
      refine y_s (pc' := 142) (L' := [some (vR (some 137)), some (vI l1), some (vI l2), yo l3, yo l4]) (st' := [vR (some 137)]) (h' := h) f198_141 rfl ?_
      refine y_cI (pc' := 145) (as := [vR (some 137)]) (r := []) f198_142 (yzv ym_8_263 rfl (ys137 w) rfl rfl) (by omega) rfl ?_
      exact k
  · replace k := k.2 c
    refine y_s (pc' := 30) (L' := [some (vR (some 137)), some (vI l1), some (vI l2), yo l3, yo l4]) (st' := [vR (some 137)]) (h' := h) f198_29 rfl ?_
    refine y_gr (pc' := 33) f198_30 yf_8_70 rfl rfl (ys137 w) (yp137_32 w) rfl ?_
    refine y_s (pc' := 34) (L' := [some (vR (some 137)), some (vI l1), some (vI l2), yo l3, yo l4]) (st' := [vI l2, vR (some 157)]) (h' := h) f198_33 rfl ?_
    refine y_ia (pc' := 35) (x := (zV h 157 (l2).toNat)) f198_34 (ys157 w) k.1 rfl rfl ?_
    replace k := k.2
    refine y_sto (pc' := 36) (k := 3) (L' := [some (vR (some 137)), some (vI l1), some (vI l2), some (vI (zV h 157 (l2).toNat)), yo l4]) f198_35 rfl rfl rfl rfl rfl rfl ?_
    refine y_s (pc' := 37) (L' := [some (vR (some 137)), some (vI l1), some (vI l2), some (vI (zV h 157 (l2).toNat)), yo l4]) (st' := [vR (some 137)]) (h' := h) f198_36 rfl ?_
    refine y_gr (pc' := 40) f198_37 yf_8_67 rfl rfl (ys137 w) (yp137_31 w) rfl ?_
    refine y_s (pc' := 41) (L' := [some (vR (some 137)), some (vI l1), some (vI l2), some (vI (zV h 157 (l2).toNat)), yo l4]) (st' := [vI l2, vR (some 156)]) (h' := h) f198_40 rfl ?_
    refine y_ia (pc' := 42) (x := (zV h 156 (l2).toNat)) f198_41 (ys156 w) k.1 rfl rfl ?_
    replace k := k.2
    refine y_if (pcT := 52) (pc' := 45) (P := (zV h 156 (l2).toNat) ≠ 0) f198_42 rfl rfl rfl (fun c => ?_) (fun c => ?_)
    · replace k := k.1 c
      refine y_s (pc' := 53) (L' := [some (vR (some 137)), some (vI l1), some (vI l2), some (vI (zV h 157 (l2).toNat)), yo l4]) (st' := [vR (some 137)]) (h' := h) f198_52 rfl ?_
      refine y_gr (pc' := 56) f198_53 yf_8_67 rfl rfl (ys137 w) (yp137_31 w) rfl ?_
      refine y_s (pc' := 57) (L' := [some (vR (some 137)), some (vI l1), some (vI l2), some (vI (zV h 157 (l2).toNat)), yo l4]) (st' := [vI l2, vR (some 156)]) (h' := h) f198_56 rfl ?_
      refine y_ia (pc' := 58) (x := (zV h 156 (l2).toNat)) f198_57 (ys156 w) k.1 rfl rfl ?_
      replace k := k.2
      refine y_s (pc' := 59) (L' := [some (vR (some 137)), some (vI l1), some (vI l2), some (vI (zV h 157 (l2).toNat)), yo l4]) (st' := [vI 2, vI (zV h 156 (l2).toNat)]) (h' := h) f198_58 rfl ?_
      refine y_ic (pcT := 72) (pc' := 62) (P := (zV h 156 (l2).toNat) ≠ 2) f198_59 rfl rfl rfl (fun c => ?_) (fun c => ?_)
      · replace k := k.1 c
        refine y_s (pc' := 73) (L' := [some (vR (some 137)), some (vI l1), some (vI l2), some (vI (zV h 157 (l2).toNat)), yo l4]) (st' := [vI 0]) (h' := h) f198_72 rfl ?_
        refine y_sto (pc' := 75) (k := 4) (L' := [some (vR (some 137)), some (vI l1), some (vI l2), some (vI (zV h 157 (l2).toNat)), some (vI 0)]) f198_73 rfl rfl rfl rfl rfl rfl ?_
        exact k
      · replace k := k.2 c
        refine y_s (pc' := 63) (L' := [some (vR (some 137)), some (vI l1), some (vI l2), some (vI (zV h 157 (l2).toNat)), yo l4]) (st' := [vR (some 137)]) (h' := h) f198_62 rfl ?_
        refine y_gr (pc' := 66) f198_63 yf_8_21 rfl rfl (ys137 w) (yp137_4 w) rfl ?_
        refine y_s (pc' := 67) (L' := [some (vR (some 137)), some (vI l1), some (vI l2), some (vI (zV h 157 (l2).toNat)), yo l4]) (st' := [vI (zV h 157 (l2).toNat), vR (some 141)]) (h' := h) f198_66 rfl ?_
        refine y_s (pc' := 68) (L' := [some (vR (some 137)), some (vI l1), some (vI l2), some (vI (zV h 157 (l2).toNat)), yo l4]) (st' := [vI 0, vI (zV h 157 (l2).toNat), vR (some 141)]) (h' := h) f198_67 rfl ?_
        refine y_is (pc' := 69) (h' := (zsetV h 141 ((zV h 157 (l2).toNat)).toNat 0)) f198_68 (ys141 w) (by decide) k.1 rfl rfl ?_
        replace k := k.2
        refine y_go (pc' := 131) f198_69 rfl ?_
        refine y_inc (pc' := 134) (L' := [some (vR (some 137)), some (vI l1), some (vI (zw (l2 + 1))), some (vI (zV h 157 (l2).toNat)), yo l4]) f198_131 rfl rfl rfl rfl ?_
        refine y_go (pc' := 21) f198_134 rfl ?_
        exact k
    · replace k := k.2 c
      refine y_s (pc' := 46) (L' := [some (vR (some 137)), some (vI l1), some (vI l2), some (vI (zV h 157 (l2).toNat)), yo l4]) (st' := [vR (some 137)]) (h' := h) f198_45 rfl ?_
      refine y_cU (pc' := 49) (as := [vR (some 137)]) (r := []) f198_46 (yzv ym_8_266 rfl (ys137 w) rfl rfl) (by omega) rfl ?_
      exact k
theorem W198_49 {d : Nat} {K : Int → Hp → Prop} (w : yWF zl nl h) {l1 : Int} {l2 : Int} {l3 : Int} {l4 : Option Int} (k : ZW d prog_10_method_53_code 8 21 [some (vR (some 137)), some (vI l1), some (vI (zw (l2 + 1))), some (vI l3), yo l4] [] h (yq 1 (yqI K))) : ZW d prog_10_method_53_code 8 49 [some (vR (some 137)), some (vI l1), some (vI l2), some (vI l3), yo l4] [] h (yq 1 (yqI K)) := by
  refine y_go (pc' := 131) f198_49 rfl ?_
  refine y_inc (pc' := 134) (L' := [some (vR (some 137)), some (vI l1), some (vI (zw (l2 + 1))), some (vI l3), yo l4]) f198_131 rfl rfl rfl rfl ?_
  refine y_go (pc' := 21) f198_134 rfl ?_
  exact k
theorem W198_75 {d : Nat} {K : Int → Hp → Prop} (w : yWF zl nl h) {l1 : Int} {l2 : Int} {l3 : Int} {l4 : Int} (k : ((6 ≤ l4 → ZW d prog_10_method_53_code 8 21 [some (vR (some 137)), some (vI l1), some (vI (zw (l2 + 1))), some (vI l3), some (vI l4)] [] h (yq 1 (yqI K))) ∧ (¬ (6 ≤ l4) → ((0 ≤ l2 ∧ l2 < 10) ∧ (((zV h 156 (l2).toNat) ≠ 1 → ((0 ≤ (zw ((zw (6 * l3)) + l4)) ∧ (zw ((zw (6 * l3)) + l4)) < 36) ∧ ((0 ≤ (zw ((zw (6 * l3)) + l4)) ∧ (zw ((zw (6 * l3)) + l4)) < 36) ∧ ZW d prog_10_method_53_code 8 75 [some (vR (some 137)), some (vI l1), some (vI l2), some (vI l3), some (vI (zw (l4 + 1)))] [] (zsetV h 140 ((zw ((zw (6 * l3)) + l4))).toNat (zrem (zw ((zV h 140 ((zw ((zw (6 * l3)) + l4))).toNat) + 1)) 10)) (yq 1 (yqI K))))) ∧ (¬ ((zV h 156 (l2).toNat) ≠ 1) → ((0 ≤ (zw ((zw (6 * l3)) + l4)) ∧ (zw ((zw (6 * l3)) + l4)) < 36) ∧ ZW d prog_10_method_53_code 8 75 [some (vR (some 137)), some (vI l1), some (vI l2), some (vI l3), some (vI (zw (l4 + 1)))] [] (zsetV h 140 ((zw ((zw (6 * l3)) + l4))).toNat 0) (yq 1 (yqI K))))))))) : ZW d prog_10_method_53_code 8 75 [some (vR (some 137)), some (vI l1), some (vI l2), some (vI l3), some (vI l4)] [] h (yq 1 (yqI K)) := by
  refine y_s (pc' := 77) (L' := [some (vR (some 137)), some (vI l1), some (vI l2), some (vI l3), some (vI l4)]) (st' := [vI l4]) (h' := h) f198_75 rfl ?_
  refine y_s (pc' := 79) (L' := [some (vR (some 137)), some (vI l1), some (vI l2), some (vI l3), some (vI l4)]) (st' := [vI 6, vI l4]) (h' := h) f198_77 rfl ?_
  refine y_ic (pcT := 131) (pc' := 82) (P := 6 ≤ l4) f198_79 rfl rfl rfl (fun c => ?_) (fun c => ?_)
  · replace k := k.1 c
    refine y_inc (pc' := 134) (L' := [some (vR (some 137)), some (vI l1), some (vI (zw (l2 + 1))), some (vI l3), some (vI l4)]) f198_131 rfl rfl rfl rfl ?_
    refine y_go (pc' := 21) f198_134 rfl ?_
    exact k
  · replace k := k.2 c
    refine y_s (pc' := 83) (L' := [some (vR (some 137)), some (vI l1), some (vI l2), some (vI l3), some (vI l4)]) (st' := [vR (some 137)]) (h' := h) f198_82 rfl ?_
    refine y_gr (pc' := 86) f198_83 yf_8_18 rfl rfl (ys137 w) (yp137_3 w) rfl ?_
    refine y_s (pc' := 88) (L' := [some (vR (some 137)), some (vI l1), some (vI l2), some (vI l3), some (vI l4)]) (st' := [vI 6, vR (some 140)]) (h' := h) f198_86 rfl ?_
    refine y_s (pc' := 89) (L' := [some (vR (some 137)), some (vI l1), some (vI l2), some (vI l3), some (vI l4)]) (st' := [vI l3, vI 6, vR (some 140)]) (h' := h) f198_88 rfl ?_
    refine y_s (pc' := 90) (L' := [some (vR (some 137)), some (vI l1), some (vI l2), some (vI l3), some (vI l4)]) (st' := [vI (zw (6 * l3)), vR (some 140)]) (h' := h) f198_89 rfl ?_
    refine y_s (pc' := 92) (L' := [some (vR (some 137)), some (vI l1), some (vI l2), some (vI l3), some (vI l4)]) (st' := [vI l4, vI (zw (6 * l3)), vR (some 140)]) (h' := h) f198_90 rfl ?_
    refine y_s (pc' := 93) (L' := [some (vR (some 137)), some (vI l1), some (vI l2), some (vI l3), some (vI l4)]) (st' := [vI (zw ((zw (6 * l3)) + l4)), vR (some 140)]) (h' := h) f198_92 rfl ?_
    refine y_s (pc' := 94) (L' := [some (vR (some 137)), some (vI l1), some (vI l2), some (vI l3), some (vI l4)]) (st' := [vR (some 137), vI (zw ((zw (6 * l3)) + l4)), vR (some 140)]) (h' := h) f198_93 rfl ?_
    refine y_gr (pc' := 97) f198_94 yf_8_67 rfl rfl (ys137 w) (yp137_31 w) rfl ?_
    refine y_s (pc' := 98) (L' := [some (vR (some 137)), some (vI l1), some (vI l2), some (vI l3), some (vI l4)]) (st' := [vI l2, vR (some 156), vI (zw ((zw (6 * l3)) + l4)), vR (some 140)]) (h' := h) f198_97 rfl ?_
    refine y_ia (pc' := 99) (x := (zV h 156 (l2).toNat)) f198_98 (ys156 w) k.1 rfl rfl ?_
    replace k := k.2
    refine y_s (pc' := 100) (L' := [some (vR (some 137)), some (vI l1), some (vI l2), some (vI l3), some (vI l4)]) (st' := [vI 1, vI (zV h 156 (l2).toNat), vI (zw ((zw (6 * l3)) + l4)), vR (some 140)]) (h' := h) f198_99 rfl ?_
    refine y_ic (pcT := 107) (pc' := 103) (P := (zV h 156 (l2).toNat) ≠ 1) f198_100 rfl rfl rfl (fun c => ?_) (fun c => ?_)
    · replace k := k.1 c
      refine y_s (pc' := 108) (L' := [some (vR (some 137)), some (vI l1), some (vI l2), some (vI l3), some (vI l4)]) (st' := [vR (some 137), vI (zw ((zw (6 * l3)) + l4)), vR (some 140)]) (h' := h) f198_107 rfl ?_
      refine y_gr (pc' := 111) f198_108 yf_8_18 rfl rfl (ys137 w) (yp137_3 w) rfl ?_
      refine y_s (pc' := 113) (L' := [some (vR (some 137)), some (vI l1), some (vI l2), some (vI l3), some (vI l4)]) (st' := [vI 6, vR (some 140), vI (zw ((zw (6 * l3)) + l4)), vR (some 140)]) (h' := h) f198_111 rfl ?_
      refine y_s (pc' := 114) (L' := [some (vR (some 137)), some (vI l1), some (vI l2), some (vI l3), some (vI l4)]) (st' := [vI l3, vI 6, vR (some 140), vI (zw ((zw (6 * l3)) + l4)), vR (some 140)]) (h' := h) f198_113 rfl ?_
      refine y_s (pc' := 115) (L' := [some (vR (some 137)), some (vI l1), some (vI l2), some (vI l3), some (vI l4)]) (st' := [vI (zw (6 * l3)), vR (some 140), vI (zw ((zw (6 * l3)) + l4)), vR (some 140)]) (h' := h) f198_114 rfl ?_
      refine y_s (pc' := 117) (L' := [some (vR (some 137)), some (vI l1), some (vI l2), some (vI l3), some (vI l4)]) (st' := [vI l4, vI (zw (6 * l3)), vR (some 140), vI (zw ((zw (6 * l3)) + l4)), vR (some 140)]) (h' := h) f198_115 rfl ?_
      refine y_s (pc' := 118) (L' := [some (vR (some 137)), some (vI l1), some (vI l2), some (vI l3), some (vI l4)]) (st' := [vI (zw ((zw (6 * l3)) + l4)), vR (some 140), vI (zw ((zw (6 * l3)) + l4)), vR (some 140)]) (h' := h) f198_117 rfl ?_
      refine y_ia (pc' := 119) (x := (zV h 140 ((zw ((zw (6 * l3)) + l4))).toNat)) f198_118 (ys140 w) k.1 rfl rfl ?_
      replace k := k.2
      refine y_s (pc' := 120) (L' := [some (vR (some 137)), some (vI l1), some (vI l2), some (vI l3), some (vI l4)]) (st' := [vI 1, vI (zV h 140 ((zw ((zw (6 * l3)) + l4))).toNat), vI (zw ((zw (6 * l3)) + l4)), vR (some 140)]) (h' := h) f198_119 rfl ?_
      refine y_s (pc' := 121) (L' := [some (vR (some 137)), some (vI l1), some (vI l2), some (vI l3), some (vI l4)]) (st' := [vI (zw ((zV h 140 ((zw ((zw (6 * l3)) + l4))).toNat) + 1)), vI (zw ((zw (6 * l3)) + l4)), vR (some 140)]) (h' := h) f198_120 rfl ?_
      refine y_s (pc' := 123) (L' := [some (vR (some 137)), some (vI l1), some (vI l2), some (vI l3), some (vI l4)]) (st' := [vI 10, vI (zw ((zV h 140 ((zw ((zw (6 * l3)) + l4))).toNat) + 1)), vI (zw ((zw (6 * l3)) + l4)), vR (some 140)]) (h' := h) f198_121 rfl ?_
      refine y_rm (pc' := 124) f198_123 (by decide) rfl ?_
      refine y_is (pc' := 125) (h' := (zsetV h 140 ((zw ((zw (6 * l3)) + l4))).toNat (zrem (zw ((zV h 140 ((zw ((zw (6 * l3)) + l4))).toNat) + 1)) 10))) f198_124 (ys140 w) (by decide) k.1 rfl rfl ?_
      replace k := k.2
      refine y_inc (pc' := 128) (L' := [some (vR (some 137)), some (vI l1), some (vI l2), some (vI l3), some (vI (zw (l4 + 1)))]) f198_125 rfl rfl rfl rfl ?_
      refine y_go (pc' := 75) f198_128 rfl ?_
      exact k
    · replace k := k.2 c
      refine y_s (pc' := 104) (L' := [some (vR (some 137)), some (vI l1), some (vI l2), some (vI l3), some (vI l4)]) (st' := [vI 0, vI (zw ((zw (6 * l3)) + l4)), vR (some 140)]) (h' := h) f198_103 rfl ?_
      refine y_go (pc' := 124) f198_104 rfl ?_
      refine y_is (pc' := 125) (h' := (zsetV h 140 ((zw ((zw (6 * l3)) + l4))).toNat 0)) f198_124 (ys140 w) (by decide) k.1 rfl rfl ?_
      replace k := k.2
      refine y_inc (pc' := 128) (L' := [some (vR (some 137)), some (vI l1), some (vI l2), some (vI l3), some (vI (zw (l4 + 1)))]) f198_125 rfl rfl rfl rfl ?_
      refine y_go (pc' := 75) f198_128 rfl ?_
      exact k
theorem W198_145 {d : Nat} {K : Int → Hp → Prop} (w : yWF zl nl h) {l1 : Int} {l2 : Int} {l3 : Option Int} {l4 : Option Int} {s0 : Int} (hd : 1 ≤ d) (k : yU (d - 1) 145 [vR (some 137), vR (some 162)] h (fun h' => ZW d prog_10_method_53_code 8 161 [some (vR (some 137)), some (vI l1), some (vI s0), yo l3, yo l4] [] h' (yq 1 (yqI K)))) : ZW d prog_10_method_53_code 8 145 [some (vR (some 137)), some (vI l1), some (vI l2), yo l3, yo l4] [vI s0] h (yq 1 (yqI K)) := by
  refine y_go (pc' := 152) f198_145 rfl ?_
  refine y_sto (pc' := 153) (k := 2) (L' := [some (vR (some 137)), some (vI l1), some (vI s0), yo l3, yo l4]) f198_152 rfl rfl rfl rfl rfl rfl ?_
  refine y_s (pc' := 154) (L' := [some (vR (some 137)), some (vI l1), some (vI s0), yo l3, yo l4]) (st' := [vR (some 137)]) (h' := h) f198_153 rfl ?_
  refine y_s (pc' := 155) (L' := [some (vR (some 137)), some (vI l1), some (vI s0), yo l3, yo l4]) (st' := [vR (some 137), vR (some 137)]) (h' := h) f198_154 rfl ?_
  refine y_gr (pc' := 158) f198_155 yf_8_85 rfl rfl (ys137 w) (yp137_40 w) rfl ?_
  refine y_cU (pc' := 161) (as := [vR (some 137), vR (some 162)]) (r := []) f198_158 (yzv ym_8_273 rfl (ys137 w) rfl rfl) (by omega) rfl ?_
  exact k
theorem W198_152 {d : Nat} {K : Int → Hp → Prop} (w : yWF zl nl h) {l1 : Int} {l2 : Int} {l3 : Option Int} {l4 : Option Int} {s0 : Int} (hd : 1 ≤ d) (k : yU (d - 1) 145 [vR (some 137), vR (some 162)] h (fun h' => ZW d prog_10_method_53_code 8 161 [some (vR (some 137)), some (vI l1), some (vI s0), yo l3, yo l4] [] h' (yq 1 (yqI K)))) : ZW d prog_10_method_53_code 8 152 [some (vR (some 137)), some (vI l1), some (vI l2), yo l3, yo l4] [vI s0] h (yq 1 (yqI K)) := by
  refine y_sto (pc' := 153) (k := 2) (L' := [some (vR (some 137)), some (vI l1), some (vI s0), yo l3, yo l4]) f198_152 rfl rfl rfl rfl rfl rfl ?_
  refine y_s (pc' := 154) (L' := [some (vR (some 137)), some (vI l1), some (vI s0), yo l3, yo l4]) (st' := [vR (some 137)]) (h' := h) f198_153 rfl ?_
  refine y_s (pc' := 155) (L' := [some (vR (some 137)), some (vI l1), some (vI s0), yo l3, yo l4]) (st' := [vR (some 137), vR (some 137)]) (h' := h) f198_154 rfl ?_
  refine y_gr (pc' := 158) f198_155 yf_8_85 rfl rfl (ys137 w) (yp137_40 w) rfl ?_
  refine y_cU (pc' := 161) (as := [vR (some 137), vR (some 162)]) (r := []) f198_158 (yzv ym_8_273 rfl (ys137 w) rfl rfl) (by omega) rfl ?_
  exact k
theorem W198_161 {d : Nat} {K : Int → Hp → Prop} (w : yWF zl nl h) {l1 : Int} {l2 : Int} {l3 : Option Int} {l4 : Option Int} (k : K l2 h) : ZW d prog_10_method_53_code 8 161 [some (vR (some 137)), some (vI l1), some (vI l2), yo l3, yo l4] [] h (yq 1 (yqI K)) := by
  refine y_s (pc' := 162) (L' := [some (vR (some 137)), some (vI l1), some (vI l2), yo l3, yo l4]) (st' := [vI l2]) (h' := h) f198_161 rfl ?_
  exact y_ri f198_162 ⟨rfl, k⟩
end YD
