/-! SEGMENTS A (printed by wip/whole/gen_dec.py) -/
theorem yf_0_15 : zfld 0 15 = some (0, 1) := rfl
theorem yf_1_30 : zfld 1 30 = some (1, 4) := rfl
theorem yf_1_34 : zfld 1 34 = some (1, 5) := rfl
theorem yf_2_21 : zfld 2 21 = some (2, 3) := rfl
theorem yf_3_9 : zfld 3 9 = some (3, 0) := rfl
theorem yf_3_13 : zfld 3 13 = some (3, 1) := rfl
theorem yf_4_9 : zfld 4 9 = some (4, 0) := rfl
theorem yf_4_15 : zfld 4 15 = some (4, 1) := rfl
theorem yf_4_18 : zfld 4 18 = some (4, 2) := rfl
theorem yf_4_21 : zfld 4 21 = some (4, 3) := rfl
theorem yf_4_25 : zfld 4 25 = some (4, 4) := rfl
theorem yf_5_15 : zfld 5 15 = some (5, 1) := rfl
theorem yf_5_19 : zfld 5 19 = some (5, 2) := rfl
theorem yf_6_9 : zfld 6 9 = some (6, 0) := rfl
theorem yf_6_15 : zfld 6 15 = some (6, 1) := rfl
theorem yf_6_28 : zfld 6 28 = some (6, 2) := rfl
theorem ym_2_76 : zmth 2 76 = some (0, 13) := rfl
theorem f10_0 : decode prog_1_method_43_code 0 = .ok (.iload_n 0, 1) := by decide +kernel
theorem f10_1 : decode prog_1_method_43_code 1 = .ok (.ifCond .lt 12, 3) := by decide +kernel
theorem f10_4 : decode prog_1_method_43_code 4 = .ok (.iload_n 0, 1) := by decide +kernel
theorem f10_5 : decode prog_1_method_43_code 5 = .ok (.iload_n 1, 1) := by decide +kernel
theorem f10_6 : decode prog_1_method_43_code 6 = .ok (.if_icmp .ge 7, 3) := by decide +kernel
theorem f10_9 : decode prog_1_method_43_code 9 = .ok (.iconst 1, 1) := by decide +kernel
theorem f10_10 : decode prog_1_method_43_code 10 = .ok (.goto 4, 3) := by decide +kernel
theorem f10_13 : decode prog_1_method_43_code 13 = .ok (.iconst 0, 1) := by decide +kernel
theorem f10_14 : decode prog_1_method_43_code 14 = .ok (.ireturn, 1) := by decide +kernel
theorem f12_0 : decode prog_4_method_6_code 0 = .ok (.iconst 0, 1) := by decide +kernel
theorem f12_1 : decode prog_4_method_6_code 1 = .ok (.istore_n 3, 1) := by decide +kernel
theorem f12_2 : decode prog_4_method_6_code 2 = .ok (.iload_n 3, 1) := by decide +kernel
theorem f12_3 : decode prog_4_method_6_code 3 = .ok (.bipush 6, 2) := by decide +kernel
theorem f12_5 : decode prog_4_method_6_code 5 = .ok (.if_icmp .ge 16, 3) := by decide +kernel
theorem f12_8 : decode prog_4_method_6_code 8 = .ok (.aload_n 0, 1) := by decide +kernel
theorem f12_9 : decode prog_4_method_6_code 9 = .ok (.iload_n 1, 1) := by decide +kernel
theorem f12_10 : decode prog_4_method_6_code 10 = .ok (.iload_n 3, 1) := by decide +kernel
theorem f12_11 : decode prog_4_method_6_code 11 = .ok (.iload_n 2, 1) := by decide +kernel
theorem f12_12 : decode prog_4_method_6_code 12 = .ok (.invokevirtual 76, 3) := by decide +kernel
theorem f12_15 : decode prog_4_method_6_code 15 = .ok (.iinc 3 1, 3) := by decide +kernel
theorem f12_18 : decode prog_4_method_6_code 18 = .ok (.goto (-16), 3) := by decide +kernel
theorem f12_21 : decode prog_4_method_6_code 21 = .ok (.return_, 1) := by decide +kernel
theorem f13_0 : decode prog_4_method_5_code 0 = .ok (.aload_n 0, 1) := by decide +kernel
theorem f13_1 : decode prog_4_method_5_code 1 = .ok (.getfield 21, 3) := by decide +kernel
theorem f13_4 : decode prog_4_method_5_code 4 = .ok (.iload_n 1, 1) := by decide +kernel
theorem f13_5 : decode prog_4_method_5_code 5 = .ok (.bipush 6, 2) := by decide +kernel
theorem f13_7 : decode prog_4_method_5_code 7 = .ok (.imul, 1) := by decide +kernel
theorem f13_8 : decode prog_4_method_5_code 8 = .ok (.iload_n 2, 1) := by decide +kernel
theorem f13_9 : decode prog_4_method_5_code 9 = .ok (.iadd, 1) := by decide +kernel
theorem f13_10 : decode prog_4_method_5_code 10 = .ok (.iload_n 3, 1) := by decide +kernel
theorem f13_11 : decode prog_4_method_5_code 11 = .ok (.iastore, 1) := by decide +kernel
theorem f13_12 : decode prog_4_method_5_code 12 = .ok (.return_, 1) := by decide +kernel
theorem f20_0 : decode prog_4_method_4_code 0 = .ok (.aload_n 0, 1) := by decide +kernel
theorem f20_1 : decode prog_4_method_4_code 1 = .ok (.getfield 21, 3) := by decide +kernel
theorem f20_4 : decode prog_4_method_4_code 4 = .ok (.iload_n 1, 1) := by decide +kernel
theorem f20_5 : decode prog_4_method_4_code 5 = .ok (.bipush 6, 2) := by decide +kernel
theorem f20_7 : decode prog_4_method_4_code 7 = .ok (.imul, 1) := by decide +kernel
theorem f20_8 : decode prog_4_method_4_code 8 = .ok (.iload_n 2, 1) := by decide +kernel
theorem f20_9 : decode prog_4_method_4_code 9 = .ok (.iadd, 1) := by decide +kernel
theorem f20_10 : decode prog_4_method_4_code 10 = .ok (.iaload, 1) := by decide +kernel
theorem f20_11 : decode prog_4_method_4_code 11 = .ok (.ireturn, 1) := by decide +kernel
theorem f26_0 : decode prog_5_method_5_code 0 = .ok (.aload_n 0, 1) := by decide +kernel
theorem f26_1 : decode prog_5_method_5_code 1 = .ok (.getfield 9, 3) := by decide +kernel
theorem f26_4 : decode prog_5_method_5_code 4 = .ok (.iload_n 1, 1) := by decide +kernel
theorem f26_5 : decode prog_5_method_5_code 5 = .ok (.iconst 4, 1) := by decide +kernel
theorem f26_6 : decode prog_5_method_5_code 6 = .ok (.imul, 1) := by decide +kernel
theorem f26_7 : decode prog_5_method_5_code 7 = .ok (.iload_n 2, 1) := by decide +kernel
theorem f26_8 : decode prog_5_method_5_code 8 = .ok (.iadd, 1) := by decide +kernel
theorem f26_9 : decode prog_5_method_5_code 9 = .ok (.iaload, 1) := by decide +kernel
theorem f26_10 : decode prog_5_method_5_code 10 = .ok (.ireturn, 1) := by decide +kernel
theorem f39_0 : decode prog_5_method_4_code 0 = .ok (.aload_n 0, 1) := by decide +kernel
theorem f39_1 : decode prog_5_method_4_code 1 = .ok (.iconst 0, 1) := by decide +kernel
theorem f39_2 : decode prog_5_method_4_code 2 = .ok (.putfield 13, 3) := by decide +kernel
theorem f39_5 : decode prog_5_method_4_code 5 = .ok (.iconst 0, 1) := by decide +kernel
theorem f39_6 : decode prog_5_method_4_code 6 = .ok (.ireturn, 1) := by decide +kernel
theorem f40_0 : decode prog_5_method_2_code 0 = .ok (.aload_n 0, 1) := by decide +kernel
theorem f40_1 : decode prog_5_method_2_code 1 = .ok (.getfield 13, 3) := by decide +kernel
theorem f40_4 : decode prog_5_method_2_code 4 = .ok (.iconst 4, 1) := by decide +kernel
theorem f40_5 : decode prog_5_method_2_code 5 = .ok (.imul, 1) := by decide +kernel
theorem f40_6 : decode prog_5_method_2_code 6 = .ok (.aload_n 0, 1) := by decide +kernel
theorem f40_7 : decode prog_5_method_2_code 7 = .ok (.getfield 9, 3) := by decide +kernel
theorem f40_10 : decode prog_5_method_2_code 10 = .ok (.arraylength, 1) := by decide +kernel
theorem f40_11 : decode prog_5_method_2_code 11 = .ok (.if_icmp .lt 7, 3) := by decide +kernel
theorem f40_14 : decode prog_5_method_2_code 14 = .ok (.iconst 1, 1) := by decide +kernel
theorem f40_15 : decode prog_5_method_2_code 15 = .ok (.goto 4, 3) := by decide +kernel
theorem f40_18 : decode prog_5_method_2_code 18 = .ok (.iconst 0, 1) := by decide +kernel
theorem f40_19 : decode prog_5_method_2_code 19 = .ok (.ireturn, 1) := by decide +kernel
theorem f41_0 : decode prog_5_method_3_code 0 = .ok (.aload_n 0, 1) := by decide +kernel
theorem f41_1 : decode prog_5_method_3_code 1 = .ok (.getfield 13, 3) := by decide +kernel
theorem f41_4 : decode prog_5_method_3_code 4 = .ok (.iconst 4, 1) := by decide +kernel
theorem f41_5 : decode prog_5_method_3_code 5 = .ok (.imul, 1) := by decide +kernel
theorem f41_6 : decode prog_5_method_3_code 6 = .ok (.istore 5, 2) := by decide +kernel
theorem f41_8 : decode prog_5_method_3_code 8 = .ok (.aload_n 0, 1) := by decide +kernel
theorem f41_9 : decode prog_5_method_3_code 9 = .ok (.getfield 9, 3) := by decide +kernel
theorem f41_12 : decode prog_5_method_3_code 12 = .ok (.iload 5, 2) := by decide +kernel
theorem f41_14 : decode prog_5_method_3_code 14 = .ok (.iload_n 1, 1) := by decide +kernel
theorem f41_15 : decode prog_5_method_3_code 15 = .ok (.iastore, 1) := by decide +kernel
theorem f41_16 : decode prog_5_method_3_code 16 = .ok (.aload_n 0, 1) := by decide +kernel
theorem f41_17 : decode prog_5_method_3_code 17 = .ok (.getfield 9, 3) := by decide +kernel
theorem f41_20 : decode prog_5_method_3_code 20 = .ok (.iload 5, 2) := by decide +kernel
theorem f41_22 : decode prog_5_method_3_code 22 = .ok (.iconst 1, 1) := by decide +kernel
theorem f41_23 : decode prog_5_method_3_code 23 = .ok (.iadd, 1) := by decide +kernel
theorem f41_24 : decode prog_5_method_3_code 24 = .ok (.iload_n 2, 1) := by decide +kernel
theorem f41_25 : decode prog_5_method_3_code 25 = .ok (.iastore, 1) := by decide +kernel
theorem f41_26 : decode prog_5_method_3_code 26 = .ok (.aload_n 0, 1) := by decide +kernel
theorem f41_27 : decode prog_5_method_3_code 27 = .ok (.getfield 9, 3) := by decide +kernel
theorem f41_30 : decode prog_5_method_3_code 30 = .ok (.iload 5, 2) := by decide +kernel
theorem f41_32 : decode prog_5_method_3_code 32 = .ok (.iconst 2, 1) := by decide +kernel
theorem f41_33 : decode prog_5_method_3_code 33 = .ok (.iadd, 1) := by decide +kernel
theorem f41_34 : decode prog_5_method_3_code 34 = .ok (.iload_n 3, 1) := by decide +kernel
theorem f41_35 : decode prog_5_method_3_code 35 = .ok (.iastore, 1) := by decide +kernel
theorem f41_36 : decode prog_5_method_3_code 36 = .ok (.aload_n 0, 1) := by decide +kernel
theorem f41_37 : decode prog_5_method_3_code 37 = .ok (.getfield 9, 3) := by decide +kernel
theorem f41_40 : decode prog_5_method_3_code 40 = .ok (.iload 5, 2) := by decide +kernel
theorem f41_42 : decode prog_5_method_3_code 42 = .ok (.iconst 3, 1) := by decide +kernel
theorem f41_43 : decode prog_5_method_3_code 43 = .ok (.iadd, 1) := by decide +kernel
theorem f41_44 : decode prog_5_method_3_code 44 = .ok (.iload 4, 2) := by decide +kernel
theorem f41_46 : decode prog_5_method_3_code 46 = .ok (.iastore, 1) := by decide +kernel
theorem f41_47 : decode prog_5_method_3_code 47 = .ok (.aload_n 0, 1) := by decide +kernel
theorem f41_48 : decode prog_5_method_3_code 48 = .ok (.dup, 1) := by decide +kernel
theorem f41_49 : decode prog_5_method_3_code 49 = .ok (.getfield 13, 3) := by decide +kernel
theorem f41_52 : decode prog_5_method_3_code 52 = .ok (.iconst 1, 1) := by decide +kernel
theorem f41_53 : decode prog_5_method_3_code 53 = .ok (.iadd, 1) := by decide +kernel
theorem f41_54 : decode prog_5_method_3_code 54 = .ok (.putfield 13, 3) := by decide +kernel
theorem f41_57 : decode prog_5_method_3_code 57 = .ok (.aload_n 0, 1) := by decide +kernel
theorem f41_58 : decode prog_5_method_3_code 58 = .ok (.getfield 13, 3) := by decide +kernel
theorem f41_61 : decode prog_5_method_3_code 61 = .ok (.ireturn, 1) := by decide +kernel
theorem f44_0 : decode prog_8_method_2_code 0 = .ok (.aload_n 0, 1) := by decide +kernel
theorem f44_1 : decode prog_8_method_2_code 1 = .ok (.getfield 15, 3) := by decide +kernel
theorem f44_4 : decode prog_8_method_2_code 4 = .ok (.bipush 100, 2) := by decide +kernel
theorem f44_6 : decode prog_8_method_2_code 6 = .ok (.if_icmp .lt 7, 3) := by decide +kernel
theorem f44_9 : decode prog_8_method_2_code 9 = .ok (.iconst 1, 1) := by decide +kernel
theorem f44_10 : decode prog_8_method_2_code 10 = .ok (.goto 4, 3) := by decide +kernel
theorem f44_13 : decode prog_8_method_2_code 13 = .ok (.iconst 0, 1) := by decide +kernel
theorem f44_14 : decode prog_8_method_2_code 14 = .ok (.ireturn, 1) := by decide +kernel
theorem f45_0 : decode prog_8_method_3_code 0 = .ok (.aload_n 0, 1) := by decide +kernel
theorem f45_1 : decode prog_8_method_3_code 1 = .ok (.getfield 9, 3) := by decide +kernel
theorem f45_4 : decode prog_8_method_3_code 4 = .ok (.aload_n 0, 1) := by decide +kernel
theorem f45_5 : decode prog_8_method_3_code 5 = .ok (.getfield 15, 3) := by decide +kernel
theorem f45_8 : decode prog_8_method_3_code 8 = .ok (.iload_n 1, 1) := by decide +kernel
theorem f45_9 : decode prog_8_method_3_code 9 = .ok (.iastore, 1) := by decide +kernel
theorem f45_10 : decode prog_8_method_3_code 10 = .ok (.aload_n 0, 1) := by decide +kernel
theorem f45_11 : decode prog_8_method_3_code 11 = .ok (.dup, 1) := by decide +kernel
theorem f45_12 : decode prog_8_method_3_code 12 = .ok (.getfield 15, 3) := by decide +kernel
theorem f45_15 : decode prog_8_method_3_code 15 = .ok (.iconst 1, 1) := by decide +kernel
theorem f45_16 : decode prog_8_method_3_code 16 = .ok (.iadd, 1) := by decide +kernel
theorem f45_17 : decode prog_8_method_3_code 17 = .ok (.putfield 15, 3) := by decide +kernel
theorem f45_20 : decode prog_8_method_3_code 20 = .ok (.aload_n 0, 1) := by decide +kernel
theorem f45_21 : decode prog_8_method_3_code 21 = .ok (.getfield 15, 3) := by decide +kernel
theorem f45_24 : decode prog_8_method_3_code 24 = .ok (.ireturn, 1) := by decide +kernel
theorem f48_0 : decode prog_6_method_2_code 0 = .ok (.aload_n 0, 1) := by decide +kernel
theorem f48_1 : decode prog_6_method_2_code 1 = .ok (.iconst 0, 1) := by decide +kernel
theorem f48_2 : decode prog_6_method_2_code 2 = .ok (.putfield 21, 3) := by decide +kernel
theorem f48_5 : decode prog_6_method_2_code 5 = .ok (.aload_n 0, 1) := by decide +kernel
theorem f48_6 : decode prog_6_method_2_code 6 = .ok (.iconst 0, 1) := by decide +kernel
theorem f48_7 : decode prog_6_method_2_code 7 = .ok (.putfield 25, 3) := by decide +kernel
theorem f48_10 : decode prog_6_method_2_code 10 = .ok (.return_, 1) := by decide +kernel
theorem f50_0 : decode prog_8_method_18_code 0 = .ok (.aload_n 0, 1) := by decide +kernel
theorem f50_1 : decode prog_8_method_18_code 1 = .ok (.getfield 28, 3) := by decide +kernel
theorem f50_4 : decode prog_8_method_18_code 4 = .ok (.ifCond .lt 26, 3) := by decide +kernel
theorem f50_7 : decode prog_8_method_18_code 7 = .ok (.aload_n 0, 1) := by decide +kernel
theorem f50_8 : decode prog_8_method_18_code 8 = .ok (.getfield 28, 3) := by decide +kernel
theorem f50_11 : decode prog_8_method_18_code 11 = .ok (.aload_n 0, 1) := by decide +kernel
theorem f50_12 : decode prog_8_method_18_code 12 = .ok (.getfield 15, 3) := by decide +kernel
theorem f50_15 : decode prog_8_method_18_code 15 = .ok (.if_icmp .ge 15, 3) := by decide +kernel
theorem f50_18 : decode prog_8_method_18_code 18 = .ok (.aload_n 0, 1) := by decide +kernel
theorem f50_19 : decode prog_8_method_18_code 19 = .ok (.getfield 9, 3) := by decide +kernel
theorem f50_22 : decode prog_8_method_18_code 22 = .ok (.aload_n 0, 1) := by decide +kernel
theorem f50_23 : decode prog_8_method_18_code 23 = .ok (.getfield 28, 3) := by decide +kernel
theorem f50_26 : decode prog_8_method_18_code 26 = .ok (.iaload, 1) := by decide +kernel
theorem f50_27 : decode prog_8_method_18_code 27 = .ok (.goto 4, 3) := by decide +kernel
theorem f50_30 : decode prog_8_method_18_code 30 = .ok (.iconst (-1), 1) := by decide +kernel
theorem f50_31 : decode prog_8_method_18_code 31 = .ok (.ireturn, 1) := by decide +kernel
theorem f66_0 : decode prog_8_method_15_code 0 = .ok (.iload_n 0, 1) := by decide +kernel
theorem f66_1 : decode prog_8_method_15_code 1 = .ok (.bipush 48, 2) := by decide +kernel
theorem f66_3 : decode prog_8_method_15_code 3 = .ok (.if_icmp .lt 13, 3) := by decide +kernel
theorem f66_6 : decode prog_8_method_15_code 6 = .ok (.iload_n 0, 1) := by decide +kernel
theorem f66_7 : decode prog_8_method_15_code 7 = .ok (.bipush 57, 2) := by decide +kernel
theorem f66_9 : decode prog_8_method_15_code 9 = .ok (.if_icmp .gt 7, 3) := by decide +kernel
theorem f66_12 : decode prog_8_method_15_code 12 = .ok (.iconst 1, 1) := by decide +kernel
theorem f66_13 : decode prog_8_method_15_code 13 = .ok (.goto 4, 3) := by decide +kernel
theorem f66_16 : decode prog_8_method_15_code 16 = .ok (.iconst 0, 1) := by decide +kernel
theorem f66_17 : decode prog_8_method_15_code 17 = .ok (.ireturn, 1) := by decide +kernel
theorem f70_0 : decode prog_6_method_3_code 0 = .ok (.aload_n 0, 1) := by decide +kernel
theorem f70_1 : decode prog_6_method_3_code 1 = .ok (.getfield 21, 3) := by decide +kernel
theorem f70_4 : decode prog_6_method_3_code 4 = .ok (.bipush 100, 2) := by decide +kernel
theorem f70_6 : decode prog_6_method_3_code 6 = .ok (.if_icmp .ge 43, 3) := by decide +kernel
theorem f70_9 : decode prog_6_method_3_code 9 = .ok (.aload_n 0, 1) := by decide +kernel
theorem f70_10 : decode prog_6_method_3_code 10 = .ok (.getfield 9, 3) := by decide +kernel
theorem f70_13 : decode prog_6_method_3_code 13 = .ok (.aload_n 0, 1) := by decide +kernel
theorem f70_14 : decode prog_6_method_3_code 14 = .ok (.getfield 21, 3) := by decide +kernel
theorem f70_17 : decode prog_6_method_3_code 17 = .ok (.iload_n 1, 1) := by decide +kernel
theorem f70_18 : decode prog_6_method_3_code 18 = .ok (.iastore, 1) := by decide +kernel
theorem f70_19 : decode prog_6_method_3_code 19 = .ok (.aload_n 0, 1) := by decide +kernel
theorem f70_20 : decode prog_6_method_3_code 20 = .ok (.getfield 15, 3) := by decide +kernel
theorem f70_23 : decode prog_6_method_3_code 23 = .ok (.aload_n 0, 1) := by decide +kernel
theorem f70_24 : decode prog_6_method_3_code 24 = .ok (.getfield 21, 3) := by decide +kernel
theorem f70_27 : decode prog_6_method_3_code 27 = .ok (.iload_n 2, 1) := by decide +kernel
theorem f70_28 : decode prog_6_method_3_code 28 = .ok (.iastore, 1) := by decide +kernel
theorem f70_29 : decode prog_6_method_3_code 29 = .ok (.aload_n 0, 1) := by decide +kernel
theorem f70_30 : decode prog_6_method_3_code 30 = .ok (.getfield 18, 3) := by decide +kernel
theorem f70_33 : decode prog_6_method_3_code 33 = .ok (.aload_n 0, 1) := by decide +kernel
theorem f70_34 : decode prog_6_method_3_code 34 = .ok (.getfield 21, 3) := by decide +kernel
theorem f70_37 : decode prog_6_method_3_code 37 = .ok (.iload_n 3, 1) := by decide +kernel
theorem f70_38 : decode prog_6_method_3_code 38 = .ok (.iastore, 1) := by decide +kernel
theorem f70_39 : decode prog_6_method_3_code 39 = .ok (.aload_n 0, 1) := by decide +kernel
theorem f70_40 : decode prog_6_method_3_code 40 = .ok (.dup, 1) := by decide +kernel
theorem f70_41 : decode prog_6_method_3_code 41 = .ok (.getfield 21, 3) := by decide +kernel
theorem f70_44 : decode prog_6_method_3_code 44 = .ok (.iconst 1, 1) := by decide +kernel
theorem f70_45 : decode prog_6_method_3_code 45 = .ok (.iadd, 1) := by decide +kernel
theorem f70_46 : decode prog_6_method_3_code 46 = .ok (.putfield 21, 3) := by decide +kernel
theorem f70_49 : decode prog_6_method_3_code 49 = .ok (.return_, 1) := by decide +kernel
theorem f72_0 : decode prog_8_method_12_code 0 = .ok (.iload_n 0, 1) := by decide +kernel
theorem f72_1 : decode prog_8_method_12_code 1 = .ok (.lookupswitch 71 #[(98, 67), (105, 65), (107, 61), (112, 59), (118, 63), (121, 69)], 59) := by decide +kernel
theorem f72_60 : decode prog_8_method_12_code 60 = .ok (.iconst 0, 1) := by decide +kernel
theorem f72_61 : decode prog_8_method_12_code 61 = .ok (.ireturn, 1) := by decide +kernel
theorem f72_62 : decode prog_8_method_12_code 62 = .ok (.iconst 1, 1) := by decide +kernel
theorem f72_63 : decode prog_8_method_12_code 63 = .ok (.ireturn, 1) := by decide +kernel
theorem f72_64 : decode prog_8_method_12_code 64 = .ok (.iconst 2, 1) := by decide +kernel
theorem f72_65 : decode prog_8_method_12_code 65 = .ok (.ireturn, 1) := by decide +kernel
theorem f72_66 : decode prog_8_method_12_code 66 = .ok (.iconst 3, 1) := by decide +kernel
theorem f72_67 : decode prog_8_method_12_code 67 = .ok (.ireturn, 1) := by decide +kernel
theorem f72_68 : decode prog_8_method_12_code 68 = .ok (.iconst 4, 1) := by decide +kernel
theorem f72_69 : decode prog_8_method_12_code 69 = .ok (.ireturn, 1) := by decide +kernel
theorem f72_70 : decode prog_8_method_12_code 70 = .ok (.iconst 5, 1) := by decide +kernel
theorem f72_71 : decode prog_8_method_12_code 71 = .ok (.ireturn, 1) := by decide +kernel
theorem f72_72 : decode prog_8_method_12_code 72 = .ok (.iconst (-1), 1) := by decide +kernel
theorem f72_73 : decode prog_8_method_12_code 73 = .ok (.ireturn, 1) := by decide +kernel
theorem f73_0 : decode prog_8_method_13_code 0 = .ok (.iload_n 0, 1) := by decide +kernel
theorem f73_1 : decode prog_8_method_13_code 1 = .ok (.tableswitch 33 60 62 #[27, 29, 31], 27) := by decide +kernel
theorem f73_28 : decode prog_8_method_13_code 28 = .ok (.iconst 1, 1) := by decide +kernel
theorem f73_29 : decode prog_8_method_13_code 29 = .ok (.ireturn, 1) := by decide +kernel
theorem f73_30 : decode prog_8_method_13_code 30 = .ok (.iconst 2, 1) := by decide +kernel
theorem f73_31 : decode prog_8_method_13_code 31 = .ok (.ireturn, 1) := by decide +kernel
theorem f73_32 : decode prog_8_method_13_code 32 = .ok (.iconst 3, 1) := by decide +kernel
theorem f73_33 : decode prog_8_method_13_code 33 = .ok (.ireturn, 1) := by decide +kernel
theorem f73_34 : decode prog_8_method_13_code 34 = .ok (.iconst (-1), 1) := by decide +kernel
theorem f73_35 : decode prog_8_method_13_code 35 = .ok (.ireturn, 1) := by decide +kernel
theorem f82_0 : decode prog_1_method_19_code 0 = .ok (.bipush 6, 2) := by decide +kernel
theorem f82_2 : decode prog_1_method_19_code 2 = .ok (.istore_n 2, 1) := by decide +kernel
theorem f82_3 : decode prog_1_method_19_code 3 = .ok (.iload_n 2, 1) := by decide +kernel
theorem f82_4 : decode prog_1_method_19_code 4 = .ok (.ifCond .le 31, 3) := by decide +kernel
theorem f82_7 : decode prog_1_method_19_code 7 = .ok (.iload_n 0, 1) := by decide +kernel
theorem f82_8 : decode prog_1_method_19_code 8 = .ok (.getstatic 200, 3) := by decide +kernel
theorem f82_11 : decode prog_1_method_19_code 11 = .ok (.iload_n 2, 1) := by decide +kernel
theorem f82_12 : decode prog_1_method_19_code 12 = .ok (.iaload, 1) := by decide +kernel
theorem f82_13 : decode prog_1_method_19_code 13 = .ok (.irem, 1) := by decide +kernel
theorem f82_14 : decode prog_1_method_19_code 14 = .ok (.iload_n 1, 1) := by decide +kernel
theorem f82_15 : decode prog_1_method_19_code 15 = .ok (.getstatic 200, 3) := by decide +kernel
theorem f82_18 : decode prog_1_method_19_code 18 = .ok (.bipush 6, 2) := by decide +kernel
theorem f82_20 : decode prog_1_method_19_code 20 = .ok (.iload_n 2, 1) := by decide +kernel
theorem f82_21 : decode prog_1_method_19_code 21 = .ok (.isub, 1) := by decide +kernel
theorem f82_22 : decode prog_1_method_19_code 22 = .ok (.iaload, 1) := by decide +kernel
theorem f82_23 : decode prog_1_method_19_code 23 = .ok (.idiv, 1) := by decide +kernel
theorem f82_24 : decode prog_1_method_19_code 24 = .ok (.if_icmp .ne 5, 3) := by decide +kernel
theorem f82_27 : decode prog_1_method_19_code 27 = .ok (.iload_n 2, 1) := by decide +kernel
theorem f82_28 : decode prog_1_method_19_code 28 = .ok (.ireturn, 1) := by decide +kernel
theorem f82_29 : decode prog_1_method_19_code 29 = .ok (.iinc 2 (-1), 3) := by decide +kernel
theorem f82_32 : decode prog_1_method_19_code 32 = .ok (.goto (-29), 3) := by decide +kernel
theorem f82_35 : decode prog_1_method_19_code 35 = .ok (.iconst 0, 1) := by decide +kernel
theorem f82_36 : decode prog_1_method_19_code 36 = .ok (.ireturn, 1) := by decide +kernel
theorem f88_0 : decode prog_3_method_3_code 0 = .ok (.bipush 6, 2) := by decide +kernel
theorem f88_2 : decode prog_3_method_3_code 2 = .ok (.aload_n 0, 1) := by decide +kernel
theorem f88_3 : decode prog_3_method_3_code 3 = .ok (.getfield 30, 3) := by decide +kernel
theorem f88_6 : decode prog_3_method_3_code 6 = .ok (.imul, 1) := by decide +kernel
theorem f88_7 : decode prog_3_method_3_code 7 = .ok (.aload_n 0, 1) := by decide +kernel
theorem f88_8 : decode prog_3_method_3_code 8 = .ok (.getfield 34, 3) := by decide +kernel
theorem f88_11 : decode prog_3_method_3_code 11 = .ok (.isub, 1) := by decide +kernel
theorem f88_12 : decode prog_3_method_3_code 12 = .ok (.ireturn, 1) := by decide +kernel
theorem f94_0 : decode prog_1_method_26_code 0 = .ok (.iload_n 0, 1) := by decide +kernel
theorem f94_1 : decode prog_1_method_26_code 1 = .ok (.istore_n 2, 1) := by decide +kernel
theorem f94_2 : decode prog_1_method_26_code 2 = .ok (.iload_n 1, 1) := by decide +kernel
theorem f94_3 : decode prog_1_method_26_code 3 = .ok (.istore_n 3, 1) := by decide +kernel
theorem f94_4 : decode prog_1_method_26_code 4 = .ok (.iconst 0, 1) := by decide +kernel
theorem f94_5 : decode prog_1_method_26_code 5 = .ok (.istore 4, 2) := by decide +kernel
theorem f94_7 : decode prog_1_method_26_code 7 = .ok (.iload 4, 2) := by decide +kernel
theorem f94_9 : decode prog_1_method_26_code 9 = .ok (.bipush 64, 2) := by decide +kernel
theorem f94_11 : decode prog_1_method_26_code 11 = .ok (.if_icmp .ge 23, 3) := by decide +kernel
theorem f94_14 : decode prog_1_method_26_code 14 = .ok (.iload_n 3, 1) := by decide +kernel
theorem f94_15 : decode prog_1_method_26_code 15 = .ok (.ifCond .eq 19, 3) := by decide +kernel
theorem f94_18 : decode prog_1_method_26_code 18 = .ok (.iload_n 2, 1) := by decide +kernel
theorem f94_19 : decode prog_1_method_26_code 19 = .ok (.iload_n 3, 1) := by decide +kernel
theorem f94_20 : decode prog_1_method_26_code 20 = .ok (.irem, 1) := by decide +kernel
theorem f94_21 : decode prog_1_method_26_code 21 = .ok (.istore 5, 2) := by decide +kernel
theorem f94_23 : decode prog_1_method_26_code 23 = .ok (.iload_n 3, 1) := by decide +kernel
theorem f94_24 : decode prog_1_method_26_code 24 = .ok (.istore_n 2, 1) := by decide +kernel
theorem f94_25 : decode prog_1_method_26_code 25 = .ok (.iload 5, 2) := by decide +kernel
theorem f94_27 : decode prog_1_method_26_code 27 = .ok (.istore_n 3, 1) := by decide +kernel
theorem f94_28 : decode prog_1_method_26_code 28 = .ok (.iinc 4 1, 3) := by decide +kernel
theorem f94_31 : decode prog_1_method_26_code 31 = .ok (.goto (-24), 3) := by decide +kernel
theorem f94_34 : decode prog_1_method_26_code 34 = .ok (.iload_n 2, 1) := by decide +kernel
theorem f94_35 : decode prog_1_method_26_code 35 = .ok (.ireturn, 1) := by decide +kernel
theorem f103_0 : decode prog_7_method_2_code 0 = .ok (.aload_n 0, 1) := by decide +kernel
theorem f103_1 : decode prog_7_method_2_code 1 = .ok (.getfield 15, 3) := by decide +kernel
theorem f103_4 : decode prog_7_method_2_code 4 = .ok (.iconst (-1), 1) := by decide +kernel
theorem f103_5 : decode prog_7_method_2_code 5 = .ok (.if_icmp .eq 7, 3) := by decide +kernel
theorem f103_8 : decode prog_7_method_2_code 8 = .ok (.iconst 1, 1) := by decide +kernel
theorem f103_9 : decode prog_7_method_2_code 9 = .ok (.goto 4, 3) := by decide +kernel
theorem f103_12 : decode prog_7_method_2_code 12 = .ok (.iconst 0, 1) := by decide +kernel
theorem f103_13 : decode prog_7_method_2_code 13 = .ok (.ireturn, 1) := by decide +kernel
theorem f108_0 : decode prog_2_method_2_code 0 = .ok (.aload_n 0, 1) := by decide +kernel
theorem f108_1 : decode prog_2_method_2_code 1 = .ok (.iconst 0, 1) := by decide +kernel
theorem f108_2 : decode prog_2_method_2_code 2 = .ok (.putfield 15, 3) := by decide +kernel
theorem f108_5 : decode prog_2_method_2_code 5 = .ok (.return_, 1) := by decide +kernel
theorem f126_0 : decode prog_7_method_4_code 0 = .ok (.iload_n 1, 1) := by decide +kernel
theorem f126_1 : decode prog_7_method_4_code 1 = .ok (.ifCond .lt 29, 3) := by decide +kernel
theorem f126_4 : decode prog_7_method_4_code 4 = .ok (.iload_n 2, 1) := by decide +kernel
theorem f126_5 : decode prog_7_method_4_code 5 = .ok (.ifCond .lt 25, 3) := by decide +kernel
theorem f126_8 : decode prog_7_method_4_code 8 = .ok (.iload_n 2, 1) := by decide +kernel
theorem f126_9 : decode prog_7_method_4_code 9 = .ok (.aload_n 0, 1) := by decide +kernel
theorem f126_10 : decode prog_7_method_4_code 10 = .ok (.getfield 19, 3) := by decide +kernel
theorem f126_13 : decode prog_7_method_4_code 13 = .ok (.if_icmp .gt 17, 3) := by decide +kernel
theorem f126_16 : decode prog_7_method_4_code 16 = .ok (.iload_n 1, 1) := by decide +kernel
theorem f126_17 : decode prog_7_method_4_code 17 = .ok (.aload_n 0, 1) := by decide +kernel
theorem f126_18 : decode prog_7_method_4_code 18 = .ok (.getfield 19, 3) := by decide +kernel
theorem f126_21 : decode prog_7_method_4_code 21 = .ok (.iload_n 2, 1) := by decide +kernel
theorem f126_22 : decode prog_7_method_4_code 22 = .ok (.isub, 1) := by decide +kernel
theorem f126_23 : decode prog_7_method_4_code 23 = .ok (.if_icmp .gt 7, 3) := by decide +kernel
theorem f126_26 : decode prog_7_method_4_code 26 = .ok (.iconst 1, 1) := by decide +kernel
theorem f126_27 : decode prog_7_method_4_code 27 = .ok (.goto 4, 3) := by decide +kernel
theorem f126_30 : decode prog_7_method_4_code 30 = .ok (.iconst 0, 1) := by decide +kernel
theorem f126_31 : decode prog_7_method_4_code 31 = .ok (.ireturn, 1) := by decide +kernel
theorem f129_0 : decode prog_10_method_2_code 0 = .ok (.iload_n 0, 1) := by decide +kernel
theorem f129_1 : decode prog_10_method_2_code 1 = .ok (.iload_n 1, 1) := by decide +kernel
theorem f129_2 : decode prog_10_method_2_code 2 = .ok (.if_icmp .lt 12, 3) := by decide +kernel
theorem f129_5 : decode prog_10_method_2_code 5 = .ok (.iload_n 0, 1) := by decide +kernel
theorem f129_6 : decode prog_10_method_2_code 6 = .ok (.iload_n 2, 1) := by decide +kernel
theorem f129_7 : decode prog_10_method_2_code 7 = .ok (.if_icmp .gt 7, 3) := by decide +kernel
theorem f129_10 : decode prog_10_method_2_code 10 = .ok (.iconst 1, 1) := by decide +kernel
theorem f129_11 : decode prog_10_method_2_code 11 = .ok (.goto 4, 3) := by decide +kernel
theorem f129_14 : decode prog_10_method_2_code 14 = .ok (.iconst 0, 1) := by decide +kernel
theorem f129_15 : decode prog_10_method_2_code 15 = .ok (.ireturn, 1) := by decide +kernel
section YD
variable {zl : Nat} {nl : Option Nat} {h : Hp}
/-- HatterTunes.isBelow(II)Z -/
theorem E10 {d : Nat} {K : Int → Hp → Prop} (w : yWF zl nl h) {x0 : Int} {x1 : Int} (k : ((x0 < 0 → K 0 h) ∧ (¬ (x0 < 0) → ((x1 ≤ x0 → K 0 h) ∧ (¬ (x1 ≤ x0) → K 1 h))))) : yI d 10 [vI x0, vI x1] h K := by
  refine y_en (L := [some (vI x0), some (vI x1)]) rfl rfl ?_
  refine y_s (pc' := 1) (L' := [some (vI x0), some (vI x1)]) (st' := [vI x0]) (h' := h) f10_0 rfl ?_
  refine y_if (pcT := 13) (pc' := 4) (P := x0 < 0) f10_1 rfl rfl rfl (fun c => ?_) (fun c => ?_)
  · replace k := k.1 c
    refine y_s (pc' := 14) (L' := [some (vI x0), some (vI x1)]) (st' := [vI 0]) (h' := h) f10_13 rfl ?_
    exact y_ri f10_14 ⟨rfl, k⟩
  · replace k := k.2 c
    refine y_s (pc' := 5) (L' := [some (vI x0), some (vI x1)]) (st' := [vI x0]) (h' := h) f10_4 rfl ?_
    refine y_s (pc' := 6) (L' := [some (vI x0), some (vI x1)]) (st' := [vI x1, vI x0]) (h' := h) f10_5 rfl ?_
    refine y_ic (pcT := 13) (pc' := 9) (P := x1 ≤ x0) f10_6 rfl rfl rfl (fun c => ?_) (fun c => ?_)
    · replace k := k.1 c
      refine y_s (pc' := 14) (L' := [some (vI x0), some (vI x1)]) (st' := [vI 0]) (h' := h) f10_13 rfl ?_
      exact y_ri f10_14 ⟨rfl, k⟩
    · replace k := k.2 c
      refine y_s (pc' := 10) (L' := [some (vI x0), some (vI x1)]) (st' := [vI 1]) (h' := h) f10_9 rfl ?_
      refine y_go (pc' := 14) f10_10 rfl ?_
      exact y_ri f10_14 ⟨rfl, k⟩
/-- HatterTunes$Rows.at(II)I -/
theorem E26 {d : Nat} {K : Int → Hp → Prop} (w : yWF zl nl h) {a na : Nat} (ha : yRs a na) {x0 : Int} {x1 : Int} (k : ((0 ≤ (zw ((zw (x0 * 4)) + x1)) ∧ (zw ((zw (x0 * 4)) + x1)) < (na : Int)) ∧ K (zV h (a + 1) ((zw ((zw (x0 * 4)) + x1))).toNat) h)) : yI d 26 [vR (some a), vI x0, vI x1] h K := by
  refine y_en (L := [some (vR (some a)), some (vI x0), some (vI x1)]) rfl rfl ?_
  refine y_s (pc' := 1) (L' := [some (vR (some a)), some (vI x0), some (vI x1)]) (st' := [vR (some a)]) (h' := h) f26_0 rfl ?_
  refine y_gr (pc' := 4) f26_1 yf_3_9 rfl rfl (ysR0 w ha) (ypR0 w ha) rfl ?_
  refine y_s (pc' := 5) (L' := [some (vR (some a)), some (vI x0), some (vI x1)]) (st' := [vI x0, vR (some (a + 1))]) (h' := h) f26_4 rfl ?_
  refine y_s (pc' := 6) (L' := [some (vR (some a)), some (vI x0), some (vI x1)]) (st' := [vI 4, vI x0, vR (some (a + 1))]) (h' := h) f26_5 rfl ?_
  refine y_s (pc' := 7) (L' := [some (vR (some a)), some (vI x0), some (vI x1)]) (st' := [vI (zw (x0 * 4)), vR (some (a + 1))]) (h' := h) f26_6 rfl ?_
  refine y_s (pc' := 8) (L' := [some (vR (some a)), some (vI x0), some (vI x1)]) (st' := [vI x1, vI (zw (x0 * 4)), vR (some (a + 1))]) (h' := h) f26_7 rfl ?_
  refine y_s (pc' := 9) (L' := [some (vR (some a)), some (vI x0), some (vI x1)]) (st' := [vI (zw ((zw (x0 * 4)) + x1)), vR (some (a + 1))]) (h' := h) f26_8 rfl ?_
  refine y_ia (pc' := 10) (x := (zV h (a + 1) ((zw ((zw (x0 * 4)) + x1))).toNat)) f26_9 (ysR1 w ha) k.1 rfl rfl ?_
  replace k := k.2
  exact y_ri f26_10 ⟨rfl, k⟩
/-- HatterTunes$House.bumpOf(II)I -/
theorem E20 {d : Nat} {K : Int → Hp → Prop} (w : yWF zl nl h) {a : Nat} (ha : yHs a) {x0 : Int} {x1 : Int} (k : ((0 ≤ (zw ((zw (x0 * 6)) + x1)) ∧ (zw ((zw (x0 * 6)) + x1)) < 36) ∧ K (zV h (a + 4) ((zw ((zw (x0 * 6)) + x1))).toNat) h)) : yI d 20 [vR (some a), vI x0, vI x1] h K := by
  refine y_en (L := [some (vR (some a)), some (vI x0), some (vI x1)]) rfl rfl ?_
  refine y_s (pc' := 1) (L' := [some (vR (some a)), some (vI x0), some (vI x1)]) (st' := [vR (some a)]) (h' := h) f20_0 rfl ?_
  refine y_gr (pc' := 4) f20_1 yf_2_21 rfl rfl (ysH0 w ha) (ypH3 w ha) rfl ?_
  refine y_s (pc' := 5) (L' := [some (vR (some a)), some (vI x0), some (vI x1)]) (st' := [vI x0, vR (some (a + 4))]) (h' := h) f20_4 rfl ?_
  refine y_s (pc' := 7) (L' := [some (vR (some a)), some (vI x0), some (vI x1)]) (st' := [vI 6, vI x0, vR (some (a + 4))]) (h' := h) f20_5 rfl ?_
  refine y_s (pc' := 8) (L' := [some (vR (some a)), some (vI x0), some (vI x1)]) (st' := [vI (zw (x0 * 6)), vR (some (a + 4))]) (h' := h) f20_7 rfl ?_
  refine y_s (pc' := 9) (L' := [some (vR (some a)), some (vI x0), some (vI x1)]) (st' := [vI x1, vI (zw (x0 * 6)), vR (some (a + 4))]) (h' := h) f20_8 rfl ?_
  refine y_s (pc' := 10) (L' := [some (vR (some a)), some (vI x0), some (vI x1)]) (st' := [vI (zw ((zw (x0 * 6)) + x1)), vR (some (a + 4))]) (h' := h) f20_9 rfl ?_
  refine y_ia (pc' := 11) (x := (zV h (a + 4) ((zw ((zw (x0 * 6)) + x1))).toNat)) f20_10 (ysH4 w ha) k.1 rfl rfl ?_
  replace k := k.2
  exact y_ri f20_11 ⟨rfl, k⟩
/-- HatterTunes$House.setBump(III)V -/
theorem E13 {d : Nat} {K : Hp → Prop} (w : yWF zl nl h) {a : Nat} (ha : yHs a) {x0 : Int} {x1 : Int} {x2 : Int} (k : ((0 ≤ (zw ((zw (x0 * 6)) + x1)) ∧ (zw ((zw (x0 * 6)) + x1)) < 36) ∧ K (zsetV h (a + 4) ((zw ((zw (x0 * 6)) + x1))).toNat x2))) : yU d 13 [vR (some a), vI x0, vI x1, vI x2] h K := by
  refine y_en (L := [some (vR (some a)), some (vI x0), some (vI x1), some (vI x2)]) rfl rfl ?_
  refine y_s (pc' := 1) (L' := [some (vR (some a)), some (vI x0), some (vI x1), some (vI x2)]) (st' := [vR (some a)]) (h' := h) f13_0 rfl ?_
  refine y_gr (pc' := 4) f13_1 yf_2_21 rfl rfl (ysH0 w ha) (ypH3 w ha) rfl ?_
  refine y_s (pc' := 5) (L' := [some (vR (some a)), some (vI x0), some (vI x1), some (vI x2)]) (st' := [vI x0, vR (some (a + 4))]) (h' := h) f13_4 rfl ?_
  refine y_s (pc' := 7) (L' := [some (vR (some a)), some (vI x0), some (vI x1), some (vI x2)]) (st' := [vI 6, vI x0, vR (some (a + 4))]) (h' := h) f13_5 rfl ?_
  refine y_s (pc' := 8) (L' := [some (vR (some a)), some (vI x0), some (vI x1), some (vI x2)]) (st' := [vI (zw (x0 * 6)), vR (some (a + 4))]) (h' := h) f13_7 rfl ?_
  refine y_s (pc' := 9) (L' := [some (vR (some a)), some (vI x0), some (vI x1), some (vI x2)]) (st' := [vI x1, vI (zw (x0 * 6)), vR (some (a + 4))]) (h' := h) f13_8 rfl ?_
  refine y_s (pc' := 10) (L' := [some (vR (some a)), some (vI x0), some (vI x1), some (vI x2)]) (st' := [vI (zw ((zw (x0 * 6)) + x1)), vR (some (a + 4))]) (h' := h) f13_9 rfl ?_
  refine y_s (pc' := 11) (L' := [some (vR (some a)), some (vI x0), some (vI x1), some (vI x2)]) (st' := [vI x2, vI (zw ((zw (x0 * 6)) + x1)), vR (some (a + 4))]) (h' := h) f13_10 rfl ?_
  refine y_is (pc' := 12) (h' := (zsetV h (a + 4) ((zw ((zw (x0 * 6)) + x1))).toNat x2)) f13_11 (ysH4 w ha) (Nat.le_add_right_of_le (yH_32 ha)) k.1 rfl rfl ?_
  replace k := k.2
  exact y_ru f13_12 ⟨rfl, k⟩
/-- HatterTunes$Rows.empty()I -/
theorem E39 {d : Nat} {K : Int → Hp → Prop} (w : yWF zl nl h) {a na : Nat} (ha : yRs a na) (k : K 0 (zsetV h a 1 0)) : yI d 39 [vR (some a)] h K := by
  refine y_en (L := [some (vR (some a))]) rfl rfl ?_
  refine y_s (pc' := 1) (L' := [some (vR (some a))]) (st' := [vR (some a)]) (h' := h) f39_0 rfl ?_
  refine y_s (pc' := 2) (L' := [some (vR (some a))]) (st' := [vI 0, vR (some a)]) (h' := h) f39_1 rfl ?_
  refine y_pi (pc' := 5) f39_2 yf_3_13 rfl rfl (ysR0 w ha) (yR_32 ha) (Or.inl rfl) rfl ?_
  refine y_s (pc' := 6) (L' := [some (vR (some a))]) (st' := [vI 0]) (h' := (zsetV h a 1 0)) f39_5 rfl ?_
  exact y_ri f39_6 ⟨rfl, k⟩
/-- HatterTunes$Rows.isFull()Z -/
theorem E40 {d : Nat} {K : Int → Hp → Prop} (w : yWF zl nl h) {a na : Nat} (ha : yRs a na) (k : (((zw ((zV h a 1) * 4)) < (na : Int) → K 0 h) ∧ (¬ ((zw ((zV h a 1) * 4)) < (na : Int)) → K 1 h))) : yI d 40 [vR (some a)] h K := by
  refine y_en (L := [some (vR (some a))]) rfl rfl ?_
  refine y_s (pc' := 1) (L' := [some (vR (some a))]) (st' := [vR (some a)]) (h' := h) f40_0 rfl ?_
  refine y_gi (pc' := 4) f40_1 yf_3_13 rfl rfl (ysR0 w ha) rfl ?_
  refine y_s (pc' := 5) (L' := [some (vR (some a))]) (st' := [vI 4, vI (zV h a 1)]) (h' := h) f40_4 rfl ?_
  refine y_s (pc' := 6) (L' := [some (vR (some a))]) (st' := [vI (zw ((zV h a 1) * 4))]) (h' := h) f40_5 rfl ?_
  refine y_s (pc' := 7) (L' := [some (vR (some a))]) (st' := [vR (some a), vI (zw ((zV h a 1) * 4))]) (h' := h) f40_6 rfl ?_
  refine y_gr (pc' := 10) f40_7 yf_3_9 rfl rfl (ysR0 w ha) (ypR0 w ha) rfl ?_
  refine y_al (pc' := 11) f40_10 (ysR1 w ha) rfl (by have := yR_n ha; omega) rfl ?_
  refine y_ic (pcT := 18) (pc' := 14) (P := (zw ((zV h a 1) * 4)) < (na : Int)) f40_11 rfl rfl rfl (fun c => ?_) (fun c => ?_)
  · replace k := k.1 c
    refine y_s (pc' := 19) (L' := [some (vR (some a))]) (st' := [vI 0]) (h' := h) f40_18 rfl ?_
    exact y_ri f40_19 ⟨rfl, k⟩
  · replace k := k.2 c
    refine y_s (pc' := 15) (L' := [some (vR (some a))]) (st' := [vI 1]) (h' := h) f40_14 rfl ?_
    refine y_go (pc' := 19) f40_15 rfl ?_
    exact y_ri f40_19 ⟨rfl, k⟩
/-- HatterTunes$Rows.add(IIII)I -/
theorem E41 {d : Nat} {K : Int → Hp → Prop} (w : yWF zl nl h) {a na : Nat} (ha : yRs a na) {x0 : Int} {x1 : Int} {x2 : Int} {x3 : Int} (k : ((0 ≤ (zw ((zV h a 1) * 4)) ∧ (zw ((zV h a 1) * 4)) < (na : Int)) ∧ ((0 ≤ (zw ((zw ((zV h a 1) * 4)) + 1)) ∧ (zw ((zw ((zV h a 1) * 4)) + 1)) < (na : Int)) ∧ (∀ h_26, (zsetV (zsetV h (a + 1) ((zw ((zV h a 1) * 4))).toNat x0) (a + 1) ((zw ((zw ((zV h a 1) * 4)) + 1))).toNat x1) = h_26 → ((0 ≤ (zw ((zw ((zV h a 1) * 4)) + 2)) ∧ (zw ((zw ((zV h a 1) * 4)) + 2)) < (na : Int)) ∧ ((0 ≤ (zw ((zw ((zV h a 1) * 4)) + 3)) ∧ (zw ((zw ((zV h a 1) * 4)) + 3)) < (na : Int)) ∧ (∀ h_47, (zsetV (zsetV h_26 (a + 1) ((zw ((zw ((zV h a 1) * 4)) + 2))).toNat x2) (a + 1) ((zw ((zw ((zV h a 1) * 4)) + 3))).toNat x3) = h_47 → K (zV (zsetV h_47 a 1 (zw ((zV h_47 a 1) + 1))) a 1) (zsetV h_47 a 1 (zw ((zV h_47 a 1) + 1)))))))))) : yI d 41 [vR (some a), vI x0, vI x1, vI x2, vI x3] h K := by
  refine y_en (L := [some (vR (some a)), some (vI x0), some (vI x1), some (vI x2), some (vI x3), none]) rfl rfl ?_
  refine y_s (pc' := 1) (L' := [some (vR (some a)), some (vI x0), some (vI x1), some (vI x2), some (vI x3), none]) (st' := [vR (some a)]) (h' := h) f41_0 rfl ?_
  refine y_gi (pc' := 4) f41_1 yf_3_13 rfl rfl (ysR0 w ha) rfl ?_
  refine y_s (pc' := 5) (L' := [some (vR (some a)), some (vI x0), some (vI x1), some (vI x2), some (vI x3), none]) (st' := [vI 4, vI (zV h a 1)]) (h' := h) f41_4 rfl ?_
  refine y_s (pc' := 6) (L' := [some (vR (some a)), some (vI x0), some (vI x1), some (vI x2), some (vI x3), none]) (st' := [vI (zw ((zV h a 1) * 4))]) (h' := h) f41_5 rfl ?_
  refine y_sto (pc' := 8) (k := 5) (L' := [some (vR (some a)), some (vI x0), some (vI x1), some (vI x2), some (vI x3), some (vI (zw ((zV h a 1) * 4)))]) f41_6 rfl rfl rfl rfl rfl rfl ?_
  refine y_s (pc' := 9) (L' := [some (vR (some a)), some (vI x0), some (vI x1), some (vI x2), some (vI x3), some (vI (zw ((zV h a 1) * 4)))]) (st' := [vR (some a)]) (h' := h) f41_8 rfl ?_
  refine y_gr (pc' := 12) f41_9 yf_3_9 rfl rfl (ysR0 w ha) (ypR0 w ha) rfl ?_
  refine y_s (pc' := 14) (L' := [some (vR (some a)), some (vI x0), some (vI x1), some (vI x2), some (vI x3), some (vI (zw ((zV h a 1) * 4)))]) (st' := [vI (zw ((zV h a 1) * 4)), vR (some (a + 1))]) (h' := h) f41_12 rfl ?_
  refine y_s (pc' := 15) (L' := [some (vR (some a)), some (vI x0), some (vI x1), some (vI x2), some (vI x3), some (vI (zw ((zV h a 1) * 4)))]) (st' := [vI x0, vI (zw ((zV h a 1) * 4)), vR (some (a + 1))]) (h' := h) f41_14 rfl ?_
  refine y_is (pc' := 16) (h' := (zsetV h (a + 1) ((zw ((zV h a 1) * 4))).toNat x0)) f41_15 (ysR1 w ha) (Nat.le_add_right_of_le (yR_32 ha)) k.1 rfl rfl ?_
  replace k := k.2
  refine y_s (pc' := 17) (L' := [some (vR (some a)), some (vI x0), some (vI x1), some (vI x2), some (vI x3), some (vI (zw ((zV h a 1) * 4)))]) (st' := [vR (some a)]) (h' := (zsetV h (a + 1) ((zw ((zV h a 1) * 4))).toNat x0)) f41_16 rfl ?_
  refine y_gr (pc' := 20) f41_17 yf_3_9 rfl rfl (ysR0 w ha) (ypR0 w ha) rfl ?_
  refine y_s (pc' := 22) (L' := [some (vR (some a)), some (vI x0), some (vI x1), some (vI x2), some (vI x3), some (vI (zw ((zV h a 1) * 4)))]) (st' := [vI (zw ((zV h a 1) * 4)), vR (some (a + 1))]) (h' := (zsetV h (a + 1) ((zw ((zV h a 1) * 4))).toNat x0)) f41_20 rfl ?_
  refine y_s (pc' := 23) (L' := [some (vR (some a)), some (vI x0), some (vI x1), some (vI x2), some (vI x3), some (vI (zw ((zV h a 1) * 4)))]) (st' := [vI 1, vI (zw ((zV h a 1) * 4)), vR (some (a + 1))]) (h' := (zsetV h (a + 1) ((zw ((zV h a 1) * 4))).toNat x0)) f41_22 rfl ?_
  refine y_s (pc' := 24) (L' := [some (vR (some a)), some (vI x0), some (vI x1), some (vI x2), some (vI x3), some (vI (zw ((zV h a 1) * 4)))]) (st' := [vI (zw ((zw ((zV h a 1) * 4)) + 1)), vR (some (a + 1))]) (h' := (zsetV h (a + 1) ((zw ((zV h a 1) * 4))).toNat x0)) f41_23 rfl ?_
  refine y_s (pc' := 25) (L' := [some (vR (some a)), some (vI x0), some (vI x1), some (vI x2), some (vI x3), some (vI (zw ((zV h a 1) * 4)))]) (st' := [vI x1, vI (zw ((zw ((zV h a 1) * 4)) + 1)), vR (some (a + 1))]) (h' := (zsetV h (a + 1) ((zw ((zV h a 1) * 4))).toNat x0)) f41_24 rfl ?_
  refine y_is (pc' := 26) (h' := (zsetV (zsetV h (a + 1) ((zw ((zV h a 1) * 4))).toNat x0) (a + 1) ((zw ((zw ((zV h a 1) * 4)) + 1))).toNat x1)) f41_25 (ysR1 w ha) (Nat.le_add_right_of_le (yR_32 ha)) k.1 rfl rfl ?_
  replace k := k.2
  generalize e_26 : (zsetV (zsetV h (a + 1) ((zw ((zV h a 1) * 4))).toNat x0) (a + 1) ((zw ((zw ((zV h a 1) * 4)) + 1))).toNat x1) = h_26
  replace k := k _ e_26
  have w : yWF zl nl h_26 := by rw [← e_26]; exact w
  refine y_s (pc' := 27) (L' := [some (vR (some a)), some (vI x0), some (vI x1), some (vI x2), some (vI x3), some (vI (zw ((zV h a 1) * 4)))]) (st' := [vR (some a)]) (h' := h_26) f41_26 rfl ?_
  refine y_gr (pc' := 30) f41_27 yf_3_9 rfl rfl (ysR0 w ha) (ypR0 w ha) rfl ?_
  refine y_s (pc' := 32) (L' := [some (vR (some a)), some (vI x0), some (vI x1), some (vI x2), some (vI x3), some (vI (zw ((zV h a 1) * 4)))]) (st' := [vI (zw ((zV h a 1) * 4)), vR (some (a + 1))]) (h' := h_26) f41_30 rfl ?_
  refine y_s (pc' := 33) (L' := [some (vR (some a)), some (vI x0), some (vI x1), some (vI x2), some (vI x3), some (vI (zw ((zV h a 1) * 4)))]) (st' := [vI 2, vI (zw ((zV h a 1) * 4)), vR (some (a + 1))]) (h' := h_26) f41_32 rfl ?_
  refine y_s (pc' := 34) (L' := [some (vR (some a)), some (vI x0), some (vI x1), some (vI x2), some (vI x3), some (vI (zw ((zV h a 1) * 4)))]) (st' := [vI (zw ((zw ((zV h a 1) * 4)) + 2)), vR (some (a + 1))]) (h' := h_26) f41_33 rfl ?_
  refine y_s (pc' := 35) (L' := [some (vR (some a)), some (vI x0), some (vI x1), some (vI x2), some (vI x3), some (vI (zw ((zV h a 1) * 4)))]) (st' := [vI x2, vI (zw ((zw ((zV h a 1) * 4)) + 2)), vR (some (a + 1))]) (h' := h_26) f41_34 rfl ?_
  refine y_is (pc' := 36) (h' := (zsetV h_26 (a + 1) ((zw ((zw ((zV h a 1) * 4)) + 2))).toNat x2)) f41_35 (ysR1 w ha) (Nat.le_add_right_of_le (yR_32 ha)) k.1 rfl rfl ?_
  replace k := k.2
  refine y_s (pc' := 37) (L' := [some (vR (some a)), some (vI x0), some (vI x1), some (vI x2), some (vI x3), some (vI (zw ((zV h a 1) * 4)))]) (st' := [vR (some a)]) (h' := (zsetV h_26 (a + 1) ((zw ((zw ((zV h a 1) * 4)) + 2))).toNat x2)) f41_36 rfl ?_
  refine y_gr (pc' := 40) f41_37 yf_3_9 rfl rfl (ysR0 w ha) (ypR0 w ha) rfl ?_
  refine y_s (pc' := 42) (L' := [some (vR (some a)), some (vI x0), some (vI x1), some (vI x2), some (vI x3), some (vI (zw ((zV h a 1) * 4)))]) (st' := [vI (zw ((zV h a 1) * 4)), vR (some (a + 1))]) (h' := (zsetV h_26 (a + 1) ((zw ((zw ((zV h a 1) * 4)) + 2))).toNat x2)) f41_40 rfl ?_
  refine y_s (pc' := 43) (L' := [some (vR (some a)), some (vI x0), some (vI x1), some (vI x2), some (vI x3), some (vI (zw ((zV h a 1) * 4)))]) (st' := [vI 3, vI (zw ((zV h a 1) * 4)), vR (some (a + 1))]) (h' := (zsetV h_26 (a + 1) ((zw ((zw ((zV h a 1) * 4)) + 2))).toNat x2)) f41_42 rfl ?_
  refine y_s (pc' := 44) (L' := [some (vR (some a)), some (vI x0), some (vI x1), some (vI x2), some (vI x3), some (vI (zw ((zV h a 1) * 4)))]) (st' := [vI (zw ((zw ((zV h a 1) * 4)) + 3)), vR (some (a + 1))]) (h' := (zsetV h_26 (a + 1) ((zw ((zw ((zV h a 1) * 4)) + 2))).toNat x2)) f41_43 rfl ?_
  refine y_s (pc' := 46) (L' := [some (vR (some a)), some (vI x0), some (vI x1), some (vI x2), some (vI x3), some (vI (zw ((zV h a 1) * 4)))]) (st' := [vI x3, vI (zw ((zw ((zV h a 1) * 4)) + 3)), vR (some (a + 1))]) (h' := (zsetV h_26 (a + 1) ((zw ((zw ((zV h a 1) * 4)) + 2))).toNat x2)) f41_44 rfl ?_
  refine y_is (pc' := 47) (h' := (zsetV (zsetV h_26 (a + 1) ((zw ((zw ((zV h a 1) * 4)) + 2))).toNat x2) (a + 1) ((zw ((zw ((zV h a 1) * 4)) + 3))).toNat x3)) f41_46 (ysR1 w ha) (Nat.le_add_right_of_le (yR_32 ha)) k.1 rfl rfl ?_
  replace k := k.2
  generalize e_47 : (zsetV (zsetV h_26 (a + 1) ((zw ((zw ((zV h a 1) * 4)) + 2))).toNat x2) (a + 1) ((zw ((zw ((zV h a 1) * 4)) + 3))).toNat x3) = h_47
  replace k := k _ e_47
  have w : yWF zl nl h_47 := by rw [← e_47]; exact w
  refine y_s (pc' := 48) (L' := [some (vR (some a)), some (vI x0), some (vI x1), some (vI x2), some (vI x3), some (vI (zw ((zV h a 1) * 4)))]) (st' := [vR (some a)]) (h' := h_47) f41_47 rfl ?_
  refine y_s (pc' := 49) (L' := [some (vR (some a)), some (vI x0), some (vI x1), some (vI x2), some (vI x3), some (vI (zw ((zV h a 1) * 4)))]) (st' := [vR (some a), vR (some a)]) (h' := h_47) f41_48 rfl ?_
  refine y_gi (pc' := 52) f41_49 yf_3_13 rfl rfl (ysR0 w ha) rfl ?_
  refine y_s (pc' := 53) (L' := [some (vR (some a)), some (vI x0), some (vI x1), some (vI x2), some (vI x3), some (vI (zw ((zV h a 1) * 4)))]) (st' := [vI 1, vI (zV h_47 a 1), vR (some a)]) (h' := h_47) f41_52 rfl ?_
  refine y_s (pc' := 54) (L' := [some (vR (some a)), some (vI x0), some (vI x1), some (vI x2), some (vI x3), some (vI (zw ((zV h a 1) * 4)))]) (st' := [vI (zw ((zV h_47 a 1) + 1)), vR (some a)]) (h' := h_47) f41_53 rfl ?_
  refine y_pi (pc' := 57) f41_54 yf_3_13 rfl rfl (ysR0 w ha) (yR_32 ha) (Or.inl rfl) rfl ?_
  refine y_s (pc' := 58) (L' := [some (vR (some a)), some (vI x0), some (vI x1), some (vI x2), some (vI x3), some (vI (zw ((zV h a 1) * 4)))]) (st' := [vR (some a)]) (h' := (zsetV h_47 a 1 (zw ((zV h_47 a 1) + 1)))) f41_57 rfl ?_
  refine y_gi (pc' := 61) f41_58 yf_3_13 rfl rfl (ysR0 w ha) rfl ?_
  exact y_ri f41_61 ⟨rfl, k⟩
/-- HatterTunes$Text.isFull()Z -/
theorem E44 {d : Nat} {K : Int → Hp → Prop} (w : yWF zl nl h) (k : (((zV h 90 1) < 100 → K 0 h) ∧ (¬ ((zV h 90 1) < 100) → K 1 h))) : yI d 44 [vR (some 90)] h K := by
  refine y_en (L := [some (vR (some 90))]) rfl rfl ?_
  refine y_s (pc' := 1) (L' := [some (vR (some 90))]) (st' := [vR (some 90)]) (h' := h) f44_0 rfl ?_
  refine y_gi (pc' := 4) f44_1 yf_6_15 rfl rfl (ys90 w) rfl ?_
  refine y_s (pc' := 6) (L' := [some (vR (some 90))]) (st' := [vI 100, vI (zV h 90 1)]) (h' := h) f44_4 rfl ?_
  refine y_ic (pcT := 13) (pc' := 9) (P := (zV h 90 1) < 100) f44_6 rfl rfl rfl (fun c => ?_) (fun c => ?_)
  · replace k := k.1 c
    refine y_s (pc' := 14) (L' := [some (vR (some 90))]) (st' := [vI 0]) (h' := h) f44_13 rfl ?_
    exact y_ri f44_14 ⟨rfl, k⟩
  · replace k := k.2 c
    refine y_s (pc' := 10) (L' := [some (vR (some 90))]) (st' := [vI 1]) (h' := h) f44_9 rfl ?_
    refine y_go (pc' := 14) f44_10 rfl ?_
    exact y_ri f44_14 ⟨rfl, k⟩
/-- HatterTunes$Text.add(I)I -/
theorem E45 {d : Nat} {K : Int → Hp → Prop} (w : yWF zl nl h) {x0 : Int} (k : ((0 ≤ (zV h 90 1) ∧ (zV h 90 1) < 100) ∧ (∀ h_20, (zsetV (zsetV h 91 ((zV h 90 1)).toNat x0) 90 1 (zw ((zV (zsetV h 91 ((zV h 90 1)).toNat x0) 90 1) + 1))) = h_20 → K (zV h_20 90 1) h_20))) : yI d 45 [vR (some 90), vI x0] h K := by
  refine y_en (L := [some (vR (some 90)), some (vI x0)]) rfl rfl ?_
  refine y_s (pc' := 1) (L' := [some (vR (some 90)), some (vI x0)]) (st' := [vR (some 90)]) (h' := h) f45_0 rfl ?_
  refine y_gr (pc' := 4) f45_1 yf_6_9 rfl rfl (ys90 w) (yp90_0 w) rfl ?_
  refine y_s (pc' := 5) (L' := [some (vR (some 90)), some (vI x0)]) (st' := [vR (some 90), vR (some 91)]) (h' := h) f45_4 rfl ?_
  refine y_gi (pc' := 8) f45_5 yf_6_15 rfl rfl (ys90 w) rfl ?_
  refine y_s (pc' := 9) (L' := [some (vR (some 90)), some (vI x0)]) (st' := [vI x0, vI (zV h 90 1), vR (some 91)]) (h' := h) f45_8 rfl ?_
  refine y_is (pc' := 10) (h' := (zsetV h 91 ((zV h 90 1)).toNat x0)) f45_9 (ys91 w) (by decide) k.1 rfl rfl ?_
  replace k := k.2
  refine y_s (pc' := 11) (L' := [some (vR (some 90)), some (vI x0)]) (st' := [vR (some 90)]) (h' := (zsetV h 91 ((zV h 90 1)).toNat x0)) f45_10 rfl ?_
  refine y_s (pc' := 12) (L' := [some (vR (some 90)), some (vI x0)]) (st' := [vR (some 90), vR (some 90)]) (h' := (zsetV h 91 ((zV h 90 1)).toNat x0)) f45_11 rfl ?_
  refine y_gi (pc' := 15) f45_12 yf_6_15 rfl rfl (ys90 w) rfl ?_
  refine y_s (pc' := 16) (L' := [some (vR (some 90)), some (vI x0)]) (st' := [vI 1, vI (zV (zsetV h 91 ((zV h 90 1)).toNat x0) 90 1), vR (some 90)]) (h' := (zsetV h 91 ((zV h 90 1)).toNat x0)) f45_15 rfl ?_
  refine y_s (pc' := 17) (L' := [some (vR (some 90)), some (vI x0)]) (st' := [vI (zw ((zV (zsetV h 91 ((zV h 90 1)).toNat x0) 90 1) + 1)), vR (some 90)]) (h' := (zsetV h 91 ((zV h 90 1)).toNat x0)) f45_16 rfl ?_
  refine y_pi (pc' := 20) f45_17 yf_6_15 rfl rfl (ys90 w) (by decide) (Or.inl rfl) rfl ?_
  generalize e_20 : (zsetV (zsetV h 91 ((zV h 90 1)).toNat x0) 90 1 (zw ((zV (zsetV h 91 ((zV h 90 1)).toNat x0) 90 1) + 1))) = h_20
  replace k := k _ e_20
  have w : yWF zl nl h_20 := by rw [← e_20]; exact w
  refine y_s (pc' := 21) (L' := [some (vR (some 90)), some (vI x0)]) (st' := [vR (some 90)]) (h' := h_20) f45_20 rfl ?_
  refine y_gi (pc' := 24) f45_21 yf_6_15 rfl rfl (ys90 w) rfl ?_
  exact y_ri f45_24 ⟨rfl, k⟩
/-- HatterTunes$Shop.clear()V -/
theorem E48 {d : Nat} {K : Hp → Prop} (w : yWF zl nl h) {a : Nat} (ha : ySh a) (k : (∀ h_10, (zsetV (zsetV h a 3 0) a 4 0) = h_10 → K h_10)) : yU d 48 [vR (some a)] h K := by
  refine y_en (L := [some (vR (some a))]) rfl rfl ?_
  refine y_s (pc' := 1) (L' := [some (vR (some a))]) (st' := [vR (some a)]) (h' := h) f48_0 rfl ?_
  refine y_s (pc' := 2) (L' := [some (vR (some a))]) (st' := [vI 0, vR (some a)]) (h' := h) f48_1 rfl ?_
  refine y_pi (pc' := 5) f48_2 yf_4_21 rfl rfl (ysS0 w ha) (yS_32 ha) (Or.inl rfl) rfl ?_
  refine y_s (pc' := 6) (L' := [some (vR (some a))]) (st' := [vR (some a)]) (h' := (zsetV h a 3 0)) f48_5 rfl ?_
  refine y_s (pc' := 7) (L' := [some (vR (some a))]) (st' := [vI 0, vR (some a)]) (h' := (zsetV h a 3 0)) f48_6 rfl ?_
  refine y_pi (pc' := 10) f48_7 yf_4_25 rfl rfl (ysS0 w ha) (yS_32 ha) (Or.inl rfl) rfl ?_
  generalize e_10 : (zsetV (zsetV h a 3 0) a 4 0) = h_10
  replace k := k _ e_10
  have w : yWF zl nl h_10 := by rw [← e_10]; exact w
  exact y_ru f48_10 ⟨rfl, k⟩
/-- HatterTunes$Text.peek()I -/
theorem E50 {d : Nat} {K : Int → Hp → Prop} (w : yWF zl nl h) (k : (((zV h 90 2) < 0 → K (-1) h) ∧ (¬ ((zV h 90 2) < 0) → (((zV h 90 1) ≤ (zV h 90 2) → K (-1) h) ∧ (¬ ((zV h 90 1) ≤ (zV h 90 2)) → ((0 ≤ (zV h 90 2) ∧ (zV h 90 2) < 100) ∧ K (zV h 91 ((zV h 90 2)).toNat) h)))))) : yI d 50 [vR (some 90)] h K := by
  refine y_en (L := [some (vR (some 90))]) rfl rfl ?_
  refine y_s (pc' := 1) (L' := [some (vR (some 90))]) (st' := [vR (some 90)]) (h' := h) f50_0 rfl ?_
  refine y_gi (pc' := 4) f50_1 yf_6_28 rfl rfl (ys90 w) rfl ?_
  refine y_if (pcT := 30) (pc' := 7) (P := (zV h 90 2) < 0) f50_4 rfl rfl rfl (fun c => ?_) (fun c => ?_)
  · replace k := k.1 c
    refine y_s (pc' := 31) (L' := [some (vR (some 90))]) (st' := [vI (-1)]) (h' := h) f50_30 rfl ?_
    exact y_ri f50_31 ⟨rfl, k⟩
  · replace k := k.2 c
    refine y_s (pc' := 8) (L' := [some (vR (some 90))]) (st' := [vR (some 90)]) (h' := h) f50_7 rfl ?_
    refine y_gi (pc' := 11) f50_8 yf_6_28 rfl rfl (ys90 w) rfl ?_
    refine y_s (pc' := 12) (L' := [some (vR (some 90))]) (st' := [vR (some 90), vI (zV h 90 2)]) (h' := h) f50_11 rfl ?_
    refine y_gi (pc' := 15) f50_12 yf_6_15 rfl rfl (ys90 w) rfl ?_
    refine y_ic (pcT := 30) (pc' := 18) (P := (zV h 90 1) ≤ (zV h 90 2)) f50_15 rfl rfl rfl (fun c => ?_) (fun c => ?_)
    · replace k := k.1 c
      refine y_s (pc' := 31) (L' := [some (vR (some 90))]) (st' := [vI (-1)]) (h' := h) f50_30 rfl ?_
      exact y_ri f50_31 ⟨rfl, k⟩
    · replace k := k.2 c
      refine y_s (pc' := 19) (L' := [some (vR (some 90))]) (st' := [vR (some 90)]) (h' := h) f50_18 rfl ?_
      refine y_gr (pc' := 22) f50_19 yf_6_9 rfl rfl (ys90 w) (yp90_0 w) rfl ?_
      refine y_s (pc' := 23) (L' := [some (vR (some 90))]) (st' := [vR (some 90), vR (some 91)]) (h' := h) f50_22 rfl ?_
      refine y_gi (pc' := 26) f50_23 yf_6_28 rfl rfl (ys90 w) rfl ?_
      refine y_ia (pc' := 27) (x := (zV h 91 ((zV h 90 2)).toNat)) f50_26 (ys91 w) k.1 rfl rfl ?_
      replace k := k.2
      refine y_go (pc' := 31) f50_27 rfl ?_
      exact y_ri f50_31 ⟨rfl, k⟩
/-- HatterTunes$Text.isDigit(I)Z -/
theorem E66 {d : Nat} {K : Int → Hp → Prop} (w : yWF zl nl h) {x0 : Int} (k : ((x0 < 48 → K 0 h) ∧ (¬ (x0 < 48) → ((57 < x0 → K 0 h) ∧ (¬ (57 < x0) → K 1 h))))) : yI d 66 [vI x0] h K := by
  refine y_en (L := [some (vI x0)]) rfl rfl ?_
  refine y_s (pc' := 1) (L' := [some (vI x0)]) (st' := [vI x0]) (h' := h) f66_0 rfl ?_
  refine y_s (pc' := 3) (L' := [some (vI x0)]) (st' := [vI 48, vI x0]) (h' := h) f66_1 rfl ?_
  refine y_ic (pcT := 16) (pc' := 6) (P := x0 < 48) f66_3 rfl rfl rfl (fun c => ?_) (fun c => ?_)
  · replace k := k.1 c
    refine y_s (pc' := 17) (L' := [some (vI x0)]) (st' := [vI 0]) (h' := h) f66_16 rfl ?_
    exact y_ri f66_17 ⟨rfl, k⟩
  · replace k := k.2 c
    refine y_s (pc' := 7) (L' := [some (vI x0)]) (st' := [vI x0]) (h' := h) f66_6 rfl ?_
    refine y_s (pc' := 9) (L' := [some (vI x0)]) (st' := [vI 57, vI x0]) (h' := h) f66_7 rfl ?_
    refine y_ic (pcT := 16) (pc' := 12) (P := 57 < x0) f66_9 rfl rfl rfl (fun c => ?_) (fun c => ?_)
    · replace k := k.1 c
      refine y_s (pc' := 17) (L' := [some (vI x0)]) (st' := [vI 0]) (h' := h) f66_16 rfl ?_
      exact y_ri f66_17 ⟨rfl, k⟩
    · replace k := k.2 c
      refine y_s (pc' := 13) (L' := [some (vI x0)]) (st' := [vI 1]) (h' := h) f66_12 rfl ?_
      refine y_go (pc' := 17) f66_13 rfl ?_
      exact y_ri f66_17 ⟨rfl, k⟩
/-- HatterTunes$Shop.addStep(III)V -/
theorem E70 {d : Nat} {K : Hp → Prop} (w : yWF zl nl h) {a : Nat} (ha : ySh a) {x0 : Int} {x1 : Int} {x2 : Int} (k : ((100 ≤ (zV h a 3) → K h) ∧ (¬ (100 ≤ (zV h a 3)) → ((0 ≤ (zV h a 3) ∧ (zV h a 3) < 100) ∧ ((0 ≤ (zV (zsetV h (a + 1) ((zV h a 3)).toNat x0) a 3) ∧ (zV (zsetV h (a + 1) ((zV h a 3)).toNat x0) a 3) < 100) ∧ (∀ h_29, (zsetV (zsetV h (a + 1) ((zV h a 3)).toNat x0) (a + 2) ((zV (zsetV h (a + 1) ((zV h a 3)).toNat x0) a 3)).toNat x1) = h_29 → ((0 ≤ (zV h_29 a 3) ∧ (zV h_29 a 3) < 100) ∧ (∀ h_49, (zsetV (zsetV h_29 (a + 3) ((zV h_29 a 3)).toNat x2) a 3 (zw ((zV (zsetV h_29 (a + 3) ((zV h_29 a 3)).toNat x2) a 3) + 1))) = h_49 → K h_49)))))))) : yU d 70 [vR (some a), vI x0, vI x1, vI x2] h K := by
  refine y_en (L := [some (vR (some a)), some (vI x0), some (vI x1), some (vI x2)]) rfl rfl ?_
  refine y_s (pc' := 1) (L' := [some (vR (some a)), some (vI x0), some (vI x1), some (vI x2)]) (st' := [vR (some a)]) (h' := h) f70_0 rfl ?_
  refine y_gi (pc' := 4) f70_1 yf_4_21 rfl rfl (ysS0 w ha) rfl ?_
  refine y_s (pc' := 6) (L' := [some (vR (some a)), some (vI x0), some (vI x1), some (vI x2)]) (st' := [vI 100, vI (zV h a 3)]) (h' := h) f70_4 rfl ?_
  refine y_ic (pcT := 49) (pc' := 9) (P := 100 ≤ (zV h a 3)) f70_6 rfl rfl rfl (fun c => ?_) (fun c => ?_)
  · replace k := k.1 c
    exact y_ru f70_49 ⟨rfl, k⟩
  · replace k := k.2 c
    refine y_s (pc' := 10) (L' := [some (vR (some a)), some (vI x0), some (vI x1), some (vI x2)]) (st' := [vR (some a)]) (h' := h) f70_9 rfl ?_
    refine y_gr (pc' := 13) f70_10 yf_4_9 rfl rfl (ysS0 w ha) (ypS0 w ha) rfl ?_
    refine y_s (pc' := 14) (L' := [some (vR (some a)), some (vI x0), some (vI x1), some (vI x2)]) (st' := [vR (some a), vR (some (a + 1))]) (h' := h) f70_13 rfl ?_
    refine y_gi (pc' := 17) f70_14 yf_4_21 rfl rfl (ysS0 w ha) rfl ?_
    refine y_s (pc' := 18) (L' := [some (vR (some a)), some (vI x0), some (vI x1), some (vI x2)]) (st' := [vI x0, vI (zV h a 3), vR (some (a + 1))]) (h' := h) f70_17 rfl ?_
    refine y_is (pc' := 19) (h' := (zsetV h (a + 1) ((zV h a 3)).toNat x0)) f70_18 (ysS1 w ha) (Nat.le_add_right_of_le (yS_32 ha)) k.1 rfl rfl ?_
    replace k := k.2
    refine y_s (pc' := 20) (L' := [some (vR (some a)), some (vI x0), some (vI x1), some (vI x2)]) (st' := [vR (some a)]) (h' := (zsetV h (a + 1) ((zV h a 3)).toNat x0)) f70_19 rfl ?_
    refine y_gr (pc' := 23) f70_20 yf_4_15 rfl rfl (ysS0 w ha) (ypS1 w ha) rfl ?_
    refine y_s (pc' := 24) (L' := [some (vR (some a)), some (vI x0), some (vI x1), some (vI x2)]) (st' := [vR (some a), vR (some (a + 2))]) (h' := (zsetV h (a + 1) ((zV h a 3)).toNat x0)) f70_23 rfl ?_
    refine y_gi (pc' := 27) f70_24 yf_4_21 rfl rfl (ysS0 w ha) rfl ?_
    refine y_s (pc' := 28) (L' := [some (vR (some a)), some (vI x0), some (vI x1), some (vI x2)]) (st' := [vI x1, vI (zV (zsetV h (a + 1) ((zV h a 3)).toNat x0) a 3), vR (some (a + 2))]) (h' := (zsetV h (a + 1) ((zV h a 3)).toNat x0)) f70_27 rfl ?_
    refine y_is (pc' := 29) (h' := (zsetV (zsetV h (a + 1) ((zV h a 3)).toNat x0) (a + 2) ((zV (zsetV h (a + 1) ((zV h a 3)).toNat x0) a 3)).toNat x1)) f70_28 (ysS2 w ha) (Nat.le_add_right_of_le (yS_32 ha)) k.1 rfl rfl ?_
    replace k := k.2
    generalize e_29 : (zsetV (zsetV h (a + 1) ((zV h a 3)).toNat x0) (a + 2) ((zV (zsetV h (a + 1) ((zV h a 3)).toNat x0) a 3)).toNat x1) = h_29
    replace k := k _ e_29
    have w : yWF zl nl h_29 := by rw [← e_29]; exact w
    refine y_s (pc' := 30) (L' := [some (vR (some a)), some (vI x0), some (vI x1), some (vI x2)]) (st' := [vR (some a)]) (h' := h_29) f70_29 rfl ?_
    refine y_gr (pc' := 33) f70_30 yf_4_18 rfl rfl (ysS0 w ha) (ypS2 w ha) rfl ?_
    refine y_s (pc' := 34) (L' := [some (vR (some a)), some (vI x0), some (vI x1), some (vI x2)]) (st' := [vR (some a), vR (some (a + 3))]) (h' := h_29) f70_33 rfl ?_
    refine y_gi (pc' := 37) f70_34 yf_4_21 rfl rfl (ysS0 w ha) rfl ?_
    refine y_s (pc' := 38) (L' := [some (vR (some a)), some (vI x0), some (vI x1), some (vI x2)]) (st' := [vI x2, vI (zV h_29 a 3), vR (some (a + 3))]) (h' := h_29) f70_37 rfl ?_
    refine y_is (pc' := 39) (h' := (zsetV h_29 (a + 3) ((zV h_29 a 3)).toNat x2)) f70_38 (ysS3 w ha) (Nat.le_add_right_of_le (yS_32 ha)) k.1 rfl rfl ?_
    replace k := k.2
    refine y_s (pc' := 40) (L' := [some (vR (some a)), some (vI x0), some (vI x1), some (vI x2)]) (st' := [vR (some a)]) (h' := (zsetV h_29 (a + 3) ((zV h_29 a 3)).toNat x2)) f70_39 rfl ?_
    refine y_s (pc' := 41) (L' := [some (vR (some a)), some (vI x0), some (vI x1), some (vI x2)]) (st' := [vR (some a), vR (some a)]) (h' := (zsetV h_29 (a + 3) ((zV h_29 a 3)).toNat x2)) f70_40 rfl ?_
    refine y_gi (pc' := 44) f70_41 yf_4_21 rfl rfl (ysS0 w ha) rfl ?_
    refine y_s (pc' := 45) (L' := [some (vR (some a)), some (vI x0), some (vI x1), some (vI x2)]) (st' := [vI 1, vI (zV (zsetV h_29 (a + 3) ((zV h_29 a 3)).toNat x2) a 3), vR (some a)]) (h' := (zsetV h_29 (a + 3) ((zV h_29 a 3)).toNat x2)) f70_44 rfl ?_
    refine y_s (pc' := 46) (L' := [some (vR (some a)), some (vI x0), some (vI x1), some (vI x2)]) (st' := [vI (zw ((zV (zsetV h_29 (a + 3) ((zV h_29 a 3)).toNat x2) a 3) + 1)), vR (some a)]) (h' := (zsetV h_29 (a + 3) ((zV h_29 a 3)).toNat x2)) f70_45 rfl ?_
    refine y_pi (pc' := 49) f70_46 yf_4_21 rfl rfl (ysS0 w ha) (yS_32 ha) (Or.inl rfl) rfl ?_
    generalize e_49 : (zsetV (zsetV h_29 (a + 3) ((zV h_29 a 3)).toNat x2) a 3 (zw ((zV (zsetV h_29 (a + 3) ((zV h_29 a 3)).toNat x2) a 3) + 1))) = h_49
    replace k := k _ e_49
    have w : yWF zl nl h_49 := by rw [← e_49]; exact w
    exact y_ru f70_49 ⟨rfl, k⟩
/-- HatterTunes$Text.letterNumber(I)I -/
theorem E72 {d : Nat} {K : Int → Hp → Prop} (w : yWF zl nl h) {x0 : Int} (k : ((x0 = 98 → K 4 h) ∧ (x0 = 105 → K 3 h) ∧ (x0 = 107 → K 1 h) ∧ (x0 = 112 → K 0 h) ∧ (x0 = 118 → K 2 h) ∧ (x0 = 121 → K 5 h) ∧ (x0 ≠ 98 ∧ x0 ≠ 105 ∧ x0 ≠ 107 ∧ x0 ≠ 112 ∧ x0 ≠ 118 ∧ x0 ≠ 121 → K (-1) h))) : yI d 72 [vI x0] h K := by
  refine y_en (L := [some (vI x0)]) rfl rfl ?_
  refine y_s (pc' := 1) (L' := [some (vI x0)]) (st' := [vI x0]) (h' := h) f72_0 rfl ?_
  by_cases c : x0 = 98
  · refine y_ls (pc' := 68) (off := 67) f72_1 rfl (by rw [c]; rfl) rfl ?_
    replace k := k.1 c
    refine y_s (pc' := 69) (L' := [some (vI x0)]) (st' := [vI 4]) (h' := h) f72_68 rfl ?_
    exact y_ri f72_69 ⟨rfl, k⟩
  replace k := k.2
  have c0 := c
  by_cases c : x0 = 105
  · refine y_ls (pc' := 66) (off := 65) f72_1 rfl (by rw [c]; rfl) rfl ?_
    replace k := k.1 c
    refine y_s (pc' := 67) (L' := [some (vI x0)]) (st' := [vI 3]) (h' := h) f72_66 rfl ?_
    exact y_ri f72_67 ⟨rfl, k⟩
  replace k := k.2
  have c1 := c
  by_cases c : x0 = 107
  · refine y_ls (pc' := 62) (off := 61) f72_1 rfl (by rw [c]; rfl) rfl ?_
    replace k := k.1 c
    refine y_s (pc' := 63) (L' := [some (vI x0)]) (st' := [vI 1]) (h' := h) f72_62 rfl ?_
    exact y_ri f72_63 ⟨rfl, k⟩
  replace k := k.2
  have c2 := c
  by_cases c : x0 = 112
  · refine y_ls (pc' := 60) (off := 59) f72_1 rfl (by rw [c]; rfl) rfl ?_
    replace k := k.1 c
    refine y_s (pc' := 61) (L' := [some (vI x0)]) (st' := [vI 0]) (h' := h) f72_60 rfl ?_
    exact y_ri f72_61 ⟨rfl, k⟩
  replace k := k.2
  have c3 := c
  by_cases c : x0 = 118
  · refine y_ls (pc' := 64) (off := 63) f72_1 rfl (by rw [c]; rfl) rfl ?_
    replace k := k.1 c
    refine y_s (pc' := 65) (L' := [some (vI x0)]) (st' := [vI 2]) (h' := h) f72_64 rfl ?_
    exact y_ri f72_65 ⟨rfl, k⟩
  replace k := k.2
  have c4 := c
  by_cases c : x0 = 121
  · refine y_ls (pc' := 70) (off := 69) f72_1 rfl (by rw [c]; rfl) rfl ?_
    replace k := k.1 c
    refine y_s (pc' := 71) (L' := [some (vI x0)]) (st' := [vI 5]) (h' := h) f72_70 rfl ?_
    exact y_ri f72_71 ⟨rfl, k⟩
  replace k := k.2
  have c5 := c
  replace k := k ⟨c0, c1, c2, c3, c4, c5⟩
  refine y_ls (pc' := 72) (off := 71) f72_1 rfl (by show Op.lookupswitch.offset [(98, 67), (105, 65), (107, 61), (112, 59), (118, 63), (121, 69)] 71 x0 = 71; rw [Op.lookupswitch.offset_cons, if_neg (fun q => c0 q.symm), Op.lookupswitch.offset_cons, if_neg (fun q => c1 q.symm), Op.lookupswitch.offset_cons, if_neg (fun q => c2 q.symm), Op.lookupswitch.offset_cons, if_neg (fun q => c3 q.symm), Op.lookupswitch.offset_cons, if_neg (fun q => c4 q.symm), Op.lookupswitch.offset_cons, if_neg (fun q => c5 q.symm)]; rfl) rfl ?_
  refine y_s (pc' := 73) (L' := [some (vI x0)]) (st' := [vI (-1)]) (h' := h) f72_72 rfl ?_
  exact y_ri f72_73 ⟨rfl, k⟩
/-- HatterTunes$Text.relationStep(I)I -/
theorem E73 {d : Nat} {K : Int → Hp → Prop} (w : yWF zl nl h) {x0 : Int} (k : ((x0 = 60 → K 1 h) ∧ (x0 = 61 → K 2 h) ∧ (x0 = 62 → K 3 h) ∧ (x0 < 60 ∨ 62 < x0 → K (-1) h))) : yI d 73 [vI x0] h K := by
  refine y_en (L := [some (vI x0)]) rfl rfl ?_
  refine y_s (pc' := 1) (L' := [some (vI x0)]) (st' := [vI x0]) (h' := h) f73_0 rfl ?_
  by_cases c : x0 = 60
  · refine y_tc (pc' := 28) (v := 60) f73_1 c rfl rfl rfl ?_
    replace k := k.1 c
    refine y_s (pc' := 29) (L' := [some (vI x0)]) (st' := [vI 1]) (h' := h) f73_28 rfl ?_
    exact y_ri f73_29 ⟨rfl, k⟩
  replace k := k.2
  have c0 := c
  by_cases c : x0 = 61
  · refine y_tc (pc' := 30) (v := 61) f73_1 c rfl rfl rfl ?_
    replace k := k.1 c
    refine y_s (pc' := 31) (L' := [some (vI x0)]) (st' := [vI 2]) (h' := h) f73_30 rfl ?_
    exact y_ri f73_31 ⟨rfl, k⟩
  replace k := k.2
  have c1 := c
  by_cases c : x0 = 62
  · refine y_tc (pc' := 32) (v := 62) f73_1 c rfl rfl rfl ?_
    replace k := k.1 c
    refine y_s (pc' := 33) (L' := [some (vI x0)]) (st' := [vI 3]) (h' := h) f73_32 rfl ?_
    exact y_ri f73_33 ⟨rfl, k⟩
  replace k := k.2
  have c2 := c
  have cc : x0 < 60 ∨ 62 < x0 := by omega
  refine y_td (pc' := 34) f73_1 cc rfl ?_
  replace k := k cc
  refine y_s (pc' := 35) (L' := [some (vI x0)]) (st' := [vI (-1)]) (h' := h) f73_34 rfl ?_
  exact y_ri f73_35 ⟨rfl, k⟩
/-- HatterTunes$Choir.length()I -/
theorem E88 {d : Nat} {K : Int → Hp → Prop} (w : yWF zl nl h) (k : K (zw ((zw (6 * (zV h 96 4))) - (zV h 96 5))) h) : yI d 88 [vR (some 96)] h K := by
  refine y_en (L := [some (vR (some 96))]) rfl rfl ?_
  refine y_s (pc' := 2) (L' := [some (vR (some 96))]) (st' := [vI 6]) (h' := h) f88_0 rfl ?_
  refine y_s (pc' := 3) (L' := [some (vR (some 96))]) (st' := [vR (some 96), vI 6]) (h' := h) f88_2 rfl ?_
  refine y_gi (pc' := 6) f88_3 yf_1_30 rfl rfl (ys96 w) rfl ?_
  refine y_s (pc' := 7) (L' := [some (vR (some 96))]) (st' := [vI (zw (6 * (zV h 96 4)))]) (h' := h) f88_6 rfl ?_
  refine y_s (pc' := 8) (L' := [some (vR (some 96))]) (st' := [vR (some 96), vI (zw (6 * (zV h 96 4)))]) (h' := h) f88_7 rfl ?_
  refine y_gi (pc' := 11) f88_8 yf_1_34 rfl rfl (ys96 w) rfl ?_
  refine y_s (pc' := 12) (L' := [some (vR (some 96))]) (st' := [vI (zw ((zw (6 * (zV h 96 4))) - (zV h 96 5)))]) (h' := h) f88_11 rfl ?_
  exact y_ri f88_12 ⟨rfl, k⟩
/-- HatterTunes$Tape.holds()Z -/
theorem E103 {d : Nat} {K : Int → Hp → Prop} (w : yWF zl nl h) {a : Nat} (ha : yTp a) (k : (((zV h a 1) = (-1) → K 0 h) ∧ (¬ ((zV h a 1) = (-1)) → K 1 h))) : yI d 103 [vR (some a)] h K := by
  refine y_en (L := [some (vR (some a))]) rfl rfl ?_
  refine y_s (pc' := 1) (L' := [some (vR (some a))]) (st' := [vR (some a)]) (h' := h) f103_0 rfl ?_
  refine y_gi (pc' := 4) f103_1 yf_5_15 rfl rfl (ysT0 w ha) rfl ?_
  refine y_s (pc' := 5) (L' := [some (vR (some a))]) (st' := [vI (-1), vI (zV h a 1)]) (h' := h) f103_4 rfl ?_
  refine y_ic (pcT := 12) (pc' := 8) (P := (zV h a 1) = (-1)) f103_5 rfl rfl rfl (fun c => ?_) (fun c => ?_)
  · replace k := k.1 c
    refine y_s (pc' := 13) (L' := [some (vR (some a))]) (st' := [vI 0]) (h' := h) f103_12 rfl ?_
    exact y_ri f103_13 ⟨rfl, k⟩
  · replace k := k.2 c
    refine y_s (pc' := 9) (L' := [some (vR (some a))]) (st' := [vI 1]) (h' := h) f103_8 rfl ?_
    refine y_go (pc' := 13) f103_9 rfl ?_
    exact y_ri f103_13 ⟨rfl, k⟩
/-- HatterTunes$Actor.forget()V -/
theorem E108 {d : Nat} {K : Hp → Prop} (w : yWF zl nl h) (k : K (zsetV h 94 1 0)) : yU d 108 [vR (some 94)] h K := by
  refine y_en (L := [some (vR (some 94))]) rfl rfl ?_
  refine y_s (pc' := 1) (L' := [some (vR (some 94))]) (st' := [vR (some 94)]) (h' := h) f108_0 rfl ?_
  refine y_s (pc' := 2) (L' := [some (vR (some 94))]) (st' := [vI 0, vR (some 94)]) (h' := h) f108_1 rfl ?_
  refine y_pi (pc' := 5) f108_2 yf_0_15 rfl rfl (ys94 w) (by decide) (Or.inl rfl) rfl ?_
  exact y_ru f108_5 ⟨rfl, k⟩
/-- HatterTunes$Tape.hasStretch(II)Z -/
theorem E126 {d : Nat} {K : Int → Hp → Prop} (w : yWF zl nl h) {a : Nat} (ha : yTp a) {x0 : Int} {x1 : Int} (k : ((x0 < 0 → K 0 h) ∧ (¬ (x0 < 0) → ((x1 < 0 → K 0 h) ∧ (¬ (x1 < 0) → (((zV h a 2) < x1 → K 0 h) ∧ (¬ ((zV h a 2) < x1) → (((zw ((zV h a 2) - x1)) < x0 → K 0 h) ∧ (¬ ((zw ((zV h a 2) - x1)) < x0) → K 1 h))))))))) : yI d 126 [vR (some a), vI x0, vI x1] h K := by
  refine y_en (L := [some (vR (some a)), some (vI x0), some (vI x1)]) rfl rfl ?_
  refine y_s (pc' := 1) (L' := [some (vR (some a)), some (vI x0), some (vI x1)]) (st' := [vI x0]) (h' := h) f126_0 rfl ?_
  refine y_if (pcT := 30) (pc' := 4) (P := x0 < 0) f126_1 rfl rfl rfl (fun c => ?_) (fun c => ?_)
  · replace k := k.1 c
    refine y_s (pc' := 31) (L' := [some (vR (some a)), some (vI x0), some (vI x1)]) (st' := [vI 0]) (h' := h) f126_30 rfl ?_
    exact y_ri f126_31 ⟨rfl, k⟩
  · replace k := k.2 c
    refine y_s (pc' := 5) (L' := [some (vR (some a)), some (vI x0), some (vI x1)]) (st' := [vI x1]) (h' := h) f126_4 rfl ?_
    refine y_if (pcT := 30) (pc' := 8) (P := x1 < 0) f126_5 rfl rfl rfl (fun c => ?_) (fun c => ?_)
    · replace k := k.1 c
      refine y_s (pc' := 31) (L' := [some (vR (some a)), some (vI x0), some (vI x1)]) (st' := [vI 0]) (h' := h) f126_30 rfl ?_
      exact y_ri f126_31 ⟨rfl, k⟩
    · replace k := k.2 c
      refine y_s (pc' := 9) (L' := [some (vR (some a)), some (vI x0), some (vI x1)]) (st' := [vI x1]) (h' := h) f126_8 rfl ?_
      refine y_s (pc' := 10) (L' := [some (vR (some a)), some (vI x0), some (vI x1)]) (st' := [vR (some a), vI x1]) (h' := h) f126_9 rfl ?_
      refine y_gi (pc' := 13) f126_10 yf_5_19 rfl rfl (ysT0 w ha) rfl ?_
      refine y_ic (pcT := 30) (pc' := 16) (P := (zV h a 2) < x1) f126_13 rfl rfl rfl (fun c => ?_) (fun c => ?_)
      · replace k := k.1 c
        refine y_s (pc' := 31) (L' := [some (vR (some a)), some (vI x0), some (vI x1)]) (st' := [vI 0]) (h' := h) f126_30 rfl ?_
        exact y_ri f126_31 ⟨rfl, k⟩
      · replace k := k.2 c
        refine y_s (pc' := 17) (L' := [some (vR (some a)), some (vI x0), some (vI x1)]) (st' := [vI x0]) (h' := h) f126_16 rfl ?_
        refine y_s (pc' := 18) (L' := [some (vR (some a)), some (vI x0), some (vI x1)]) (st' := [vR (some a), vI x0]) (h' := h) f126_17 rfl ?_
        refine y_gi (pc' := 21) f126_18 yf_5_19 rfl rfl (ysT0 w ha) rfl ?_
        refine y_s (pc' := 22) (L' := [some (vR (some a)), some (vI x0), some (vI x1)]) (st' := [vI x1, vI (zV h a 2), vI x0]) (h' := h) f126_21 rfl ?_
        refine y_s (pc' := 23) (L' := [some (vR (some a)), some (vI x0), some (vI x1)]) (st' := [vI (zw ((zV h a 2) - x1)), vI x0]) (h' := h) f126_22 rfl ?_
        refine y_ic (pcT := 30) (pc' := 26) (P := (zw ((zV h a 2) - x1)) < x0) f126_23 rfl rfl rfl (fun c => ?_) (fun c => ?_)
        · replace k := k.1 c
          refine y_s (pc' := 31) (L' := [some (vR (some a)), some (vI x0), some (vI x1)]) (st' := [vI 0]) (h' := h) f126_30 rfl ?_
          exact y_ri f126_31 ⟨rfl, k⟩
        · replace k := k.2 c
          refine y_s (pc' := 27) (L' := [some (vR (some a)), some (vI x0), some (vI x1)]) (st' := [vI 1]) (h' := h) f126_26 rfl ?_
          refine y_go (pc' := 31) f126_27 rfl ?_
          exact y_ri f126_31 ⟨rfl, k⟩
/-- HatterTunesModel.within(III)Z -/
theorem E129 {d : Nat} {K : Int → Hp → Prop} (w : yWF zl nl h) {x0 : Int} {x1 : Int} {x2 : Int} (k : ((x0 < x1 → K 0 h) ∧ (¬ (x0 < x1) → ((x2 < x0 → K 0 h) ∧ (¬ (x2 < x0) → K 1 h))))) : yI d 129 [vI x0, vI x1, vI x2] h K := by
  refine y_en (L := [some (vI x0), some (vI x1), some (vI x2)]) rfl rfl ?_
  refine y_s (pc' := 1) (L' := [some (vI x0), some (vI x1), some (vI x2)]) (st' := [vI x0]) (h' := h) f129_0 rfl ?_
  refine y_s (pc' := 2) (L' := [some (vI x0), some (vI x1), some (vI x2)]) (st' := [vI x1, vI x0]) (h' := h) f129_1 rfl ?_
  refine y_ic (pcT := 14) (pc' := 5) (P := x0 < x1) f129_2 rfl rfl rfl (fun c => ?_) (fun c => ?_)
  · replace k := k.1 c
    refine y_s (pc' := 15) (L' := [some (vI x0), some (vI x1), some (vI x2)]) (st' := [vI 0]) (h' := h) f129_14 rfl ?_
    exact y_ri f129_15 ⟨rfl, k⟩
  · replace k := k.2 c
    refine y_s (pc' := 6) (L' := [some (vI x0), some (vI x1), some (vI x2)]) (st' := [vI x0]) (h' := h) f129_5 rfl ?_
    refine y_s (pc' := 7) (L' := [some (vI x0), some (vI x1), some (vI x2)]) (st' := [vI x2, vI x0]) (h' := h) f129_6 rfl ?_
    refine y_ic (pcT := 14) (pc' := 10) (P := x2 < x0) f129_7 rfl rfl rfl (fun c => ?_) (fun c => ?_)
    · replace k := k.1 c
      refine y_s (pc' := 15) (L' := [some (vI x0), some (vI x1), some (vI x2)]) (st' := [vI 0]) (h' := h) f129_14 rfl ?_
      exact y_ri f129_15 ⟨rfl, k⟩
    · replace k := k.2 c
      refine y_s (pc' := 11) (L' := [some (vI x0), some (vI x1), some (vI x2)]) (st' := [vI 1]) (h' := h) f129_10 rfl ?_
      refine y_go (pc' := 15) f129_11 rfl ?_
      exact y_ri f129_15 ⟨rfl, k⟩
/-- HatterTunes.commonDivisor(II)I -/
theorem E94 {d : Nat} {K : Int → Hp → Prop} (w : yWF zl nl h) {x0 : Int} {x1 : Int} (k : ZW d prog_1_method_26_code 7 7 [some (vI x0), some (vI x1), some (vI x0), some (vI x1), some (vI 0), none] [] h (yq 1 (yqI K))) : yI d 94 [vI x0, vI x1] h K := by
  refine y_en (L := [some (vI x0), some (vI x1), none, none, none, none]) rfl rfl ?_
  refine y_s (pc' := 1) (L' := [some (vI x0), some (vI x1), none, none, none, none]) (st' := [vI x0]) (h' := h) f94_0 rfl ?_
  refine y_sto (pc' := 2) (k := 2) (L' := [some (vI x0), some (vI x1), some (vI x0), none, none, none]) f94_1 rfl rfl rfl rfl rfl rfl ?_
  refine y_s (pc' := 3) (L' := [some (vI x0), some (vI x1), some (vI x0), none, none, none]) (st' := [vI x1]) (h' := h) f94_2 rfl ?_
  refine y_sto (pc' := 4) (k := 3) (L' := [some (vI x0), some (vI x1), some (vI x0), some (vI x1), none, none]) f94_3 rfl rfl rfl rfl rfl rfl ?_
  refine y_s (pc' := 5) (L' := [some (vI x0), some (vI x1), some (vI x0), some (vI x1), none, none]) (st' := [vI 0]) (h' := h) f94_4 rfl ?_
  refine y_sto (pc' := 7) (k := 4) (L' := [some (vI x0), some (vI x1), some (vI x0), some (vI x1), some (vI 0), none]) f94_5 rfl rfl rfl rfl rfl rfl ?_
  exact k
theorem W94_7 {d : Nat} {K : Int → Hp → Prop} (w : yWF zl nl h) {l0 : Int} {l1 : Int} {l2 : Int} {l3 : Int} {l4 : Int} {l5 : Option Int} (k : ((64 ≤ l4 → K l2 h) ∧ (¬ (64 ≤ l4) → ((l3 = 0 → K l2 h) ∧ (¬ (l3 = 0) → (l3 ≠ 0 ∧ ZW d prog_1_method_26_code 7 7 [some (vI l0), some (vI l1), some (vI l3), some (vI (zrem l2 l3)), some (vI (zw (l4 + 1))), some (vI (zrem l2 l3))] [] h (yq 1 (yqI K)))))))) : ZW d prog_1_method_26_code 7 7 [some (vI l0), some (vI l1), some (vI l2), some (vI l3), some (vI l4), yo l5] [] h (yq 1 (yqI K)) := by
  refine y_s (pc' := 9) (L' := [some (vI l0), some (vI l1), some (vI l2), some (vI l3), some (vI l4), yo l5]) (st' := [vI l4]) (h' := h) f94_7 rfl ?_
  refine y_s (pc' := 11) (L' := [some (vI l0), some (vI l1), some (vI l2), some (vI l3), some (vI l4), yo l5]) (st' := [vI 64, vI l4]) (h' := h) f94_9 rfl ?_
  refine y_ic (pcT := 34) (pc' := 14) (P := 64 ≤ l4) f94_11 rfl rfl rfl (fun c => ?_) (fun c => ?_)
  · replace k := k.1 c
    refine y_s (pc' := 35) (L' := [some (vI l0), some (vI l1), some (vI l2), some (vI l3), some (vI l4), yo l5]) (st' := [vI l2]) (h' := h) f94_34 rfl ?_
    exact y_ri f94_35 ⟨rfl, k⟩
  · replace k := k.2 c
    refine y_s (pc' := 15) (L' := [some (vI l0), some (vI l1), some (vI l2), some (vI l3), some (vI l4), yo l5]) (st' := [vI l3]) (h' := h) f94_14 rfl ?_
    refine y_if (pcT := 34) (pc' := 18) (P := l3 = 0) f94_15 rfl rfl rfl (fun c => ?_) (fun c => ?_)
    · replace k := k.1 c
      refine y_s (pc' := 35) (L' := [some (vI l0), some (vI l1), some (vI l2), some (vI l3), some (vI l4), yo l5]) (st' := [vI l2]) (h' := h) f94_34 rfl ?_
      exact y_ri f94_35 ⟨rfl, k⟩
    · replace k := k.2 c
      refine y_s (pc' := 19) (L' := [some (vI l0), some (vI l1), some (vI l2), some (vI l3), some (vI l4), yo l5]) (st' := [vI l2]) (h' := h) f94_18 rfl ?_
      refine y_s (pc' := 20) (L' := [some (vI l0), some (vI l1), some (vI l2), some (vI l3), some (vI l4), yo l5]) (st' := [vI l3, vI l2]) (h' := h) f94_19 rfl ?_
      refine y_rm (pc' := 21) f94_20 k.1 rfl ?_
      replace k := k.2
      refine y_sto (pc' := 23) (k := 5) (L' := [some (vI l0), some (vI l1), some (vI l2), some (vI l3), some (vI l4), some (vI (zrem l2 l3))]) f94_21 rfl rfl rfl rfl rfl rfl ?_
      refine y_s (pc' := 24) (L' := [some (vI l0), some (vI l1), some (vI l2), some (vI l3), some (vI l4), some (vI (zrem l2 l3))]) (st' := [vI l3]) (h' := h) f94_23 rfl ?_
      refine y_sto (pc' := 25) (k := 2) (L' := [some (vI l0), some (vI l1), some (vI l3), some (vI l3), some (vI l4), some (vI (zrem l2 l3))]) f94_24 rfl rfl rfl rfl rfl rfl ?_
      refine y_s (pc' := 27) (L' := [some (vI l0), some (vI l1), some (vI l3), some (vI l3), some (vI l4), some (vI (zrem l2 l3))]) (st' := [vI (zrem l2 l3)]) (h' := h) f94_25 rfl ?_
      refine y_sto (pc' := 28) (k := 3) (L' := [some (vI l0), some (vI l1), some (vI l3), some (vI (zrem l2 l3)), some (vI l4), some (vI (zrem l2 l3))]) f94_27 rfl rfl rfl rfl rfl rfl ?_
      refine y_inc (pc' := 31) (L' := [some (vI l0), some (vI l1), some (vI l3), some (vI (zrem l2 l3)), some (vI (zw (l4 + 1))), some (vI (zrem l2 l3))]) f94_28 rfl rfl rfl rfl ?_
      refine y_go (pc' := 7) f94_31 rfl ?_
      exact k
/-- HatterTunes.sharedNotes(II)I -/
theorem E82 {d : Nat} {K : Int → Hp → Prop} (w : yWF zl nl h) {x0 : Int} {x1 : Int} (k : ZW d prog_1_method_19_code 7 3 [some (vI x0), some (vI x1), some (vI 6)] [] h (yq 1 (yqI K))) : yI d 82 [vI x0, vI x1] h K := by
  refine y_en (L := [some (vI x0), some (vI x1), none]) rfl rfl ?_
  refine y_s (pc' := 2) (L' := [some (vI x0), some (vI x1), none]) (st' := [vI 6]) (h' := h) f82_0 rfl ?_
  refine y_sto (pc' := 3) (k := 2) (L' := [some (vI x0), some (vI x1), some (vI 6)]) f82_2 rfl rfl rfl rfl rfl rfl ?_
  exact k
theorem W82_3 {d : Nat} {K : Int → Hp → Prop} (w : yWF zl nl h) {l0 : Int} {l1 : Int} {l2 : Int} (k : ((l2 ≤ 0 → K 0 h) ∧ (¬ (l2 ≤ 0) → ((0 ≤ l2 ∧ l2 < 7) ∧ ((zV h 1 (l2).toNat) ≠ 0 ∧ ((0 ≤ (zw (6 - l2)) ∧ (zw (6 - l2)) < 7) ∧ ((zV h 1 ((zw (6 - l2))).toNat) ≠ 0 ∧ (((zrem l0 (zV h 1 (l2).toNat)) ≠ (zdiv l1 (zV h 1 ((zw (6 - l2))).toNat)) → ZW d prog_1_method_19_code 7 3 [some (vI l0), some (vI l1), some (vI (zw (l2 + (-1))))] [] h (yq 1 (yqI K))) ∧ (¬ ((zrem l0 (zV h 1 (l2).toNat)) ≠ (zdiv l1 (zV h 1 ((zw (6 - l2))).toNat))) → K l2 h))))))))) : ZW d prog_1_method_19_code 7 3 [some (vI l0), some (vI l1), some (vI l2)] [] h (yq 1 (yqI K)) := by
  refine y_s (pc' := 4) (L' := [some (vI l0), some (vI l1), some (vI l2)]) (st' := [vI l2]) (h' := h) f82_3 rfl ?_
  refine y_if (pcT := 35) (pc' := 7) (P := l2 ≤ 0) f82_4 rfl rfl rfl (fun c => ?_) (fun c => ?_)
  · replace k := k.1 c
    refine y_s (pc' := 36) (L' := [some (vI l0), some (vI l1), some (vI l2)]) (st' := [vI 0]) (h' := h) f82_35 rfl ?_
    exact y_ri f82_36 ⟨rfl, k⟩
  · replace k := k.2 c
    refine y_s (pc' := 8) (L' := [some (vI l0), some (vI l1), some (vI l2)]) (st' := [vI l0]) (h' := h) f82_7 rfl ?_
    refine y_s (pc' := 11) (L' := [some (vI l0), some (vI l1), some (vI l2)]) (st' := [vR (some 1), vI l0]) (h' := h) f82_8 rfl ?_
    refine y_s (pc' := 12) (L' := [some (vI l0), some (vI l1), some (vI l2)]) (st' := [vI l2, vR (some 1), vI l0]) (h' := h) f82_11 rfl ?_
    refine y_ia (pc' := 13) (x := (zV h 1 (l2).toNat)) f82_12 (ysb1 w) k.1 rfl rfl ?_
    replace k := k.2
    refine y_rm (pc' := 14) f82_13 k.1 rfl ?_
    replace k := k.2
    refine y_s (pc' := 15) (L' := [some (vI l0), some (vI l1), some (vI l2)]) (st' := [vI l1, vI (zrem l0 (zV h 1 (l2).toNat))]) (h' := h) f82_14 rfl ?_
    refine y_s (pc' := 18) (L' := [some (vI l0), some (vI l1), some (vI l2)]) (st' := [vR (some 1), vI l1, vI (zrem l0 (zV h 1 (l2).toNat))]) (h' := h) f82_15 rfl ?_
    refine y_s (pc' := 20) (L' := [some (vI l0), some (vI l1), some (vI l2)]) (st' := [vI 6, vR (some 1), vI l1, vI (zrem l0 (zV h 1 (l2).toNat))]) (h' := h) f82_18 rfl ?_
    refine y_s (pc' := 21) (L' := [some (vI l0), some (vI l1), some (vI l2)]) (st' := [vI l2, vI 6, vR (some 1), vI l1, vI (zrem l0 (zV h 1 (l2).toNat))]) (h' := h) f82_20 rfl ?_
    refine y_s (pc' := 22) (L' := [some (vI l0), some (vI l1), some (vI l2)]) (st' := [vI (zw (6 - l2)), vR (some 1), vI l1, vI (zrem l0 (zV h 1 (l2).toNat))]) (h' := h) f82_21 rfl ?_
    refine y_ia (pc' := 23) (x := (zV h 1 ((zw (6 - l2))).toNat)) f82_22 (ysb1 w) k.1 rfl rfl ?_
    replace k := k.2
    refine y_dv (pc' := 24) f82_23 k.1 rfl ?_
    replace k := k.2
    refine y_ic (pcT := 29) (pc' := 27) (P := (zrem l0 (zV h 1 (l2).toNat)) ≠ (zdiv l1 (zV h 1 ((zw (6 - l2))).toNat))) f82_24 rfl rfl rfl (fun c => ?_) (fun c => ?_)
    · replace k := k.1 c
      refine y_inc (pc' := 32) (L' := [some (vI l0), some (vI l1), some (vI (zw (l2 + (-1))))]) f82_29 rfl rfl rfl rfl ?_
      refine y_go (pc' := 3) f82_32 rfl ?_
      exact k
    · replace k := k.2 c
      refine y_s (pc' := 28) (L' := [some (vI l0), some (vI l1), some (vI l2)]) (st' := [vI l2]) (h' := h) f82_27 rfl ?_
      exact y_ri f82_28 ⟨rfl, k⟩
/-- HatterTunes$House.setAllBumps(II)V -/
theorem E12 {d : Nat} {K : Hp → Prop} (w : yWF zl nl h) {a : Nat} (ha : yHs a) {x0 : Int} {x1 : Int} (k : ZW d prog_4_method_6_code 2 2 [some (vR (some a)), some (vI x0), some (vI x1), some (vI 0)] [] h (yq 0 (yqU K))) : yU d 12 [vR (some a), vI x0, vI x1] h K := by
  refine y_en (L := [some (vR (some a)), some (vI x0), some (vI x1), none]) rfl rfl ?_
  refine y_s (pc' := 1) (L' := [some (vR (some a)), some (vI x0), some (vI x1), none]) (st' := [vI 0]) (h' := h) f12_0 rfl ?_
  refine y_sto (pc' := 2) (k := 3) (L' := [some (vR (some a)), some (vI x0), some (vI x1), some (vI 0)]) f12_1 rfl rfl rfl rfl rfl rfl ?_
  exact k
theorem W12_2 {d : Nat} {K : Hp → Prop} (w : yWF zl nl h) {a : Nat} (ha : yHs a) {l1 : Int} {l2 : Int} {l3 : Int} (hd : 1 ≤ d) (k : ((6 ≤ l3 → K h) ∧ (¬ (6 ≤ l3) → yU (d - 1) 13 [vR (some a), vI l1, vI l3, vI l2] h (fun h' => ZW d prog_4_method_6_code 2 15 [some (vR (some a)), some (vI l1), some (vI l2), some (vI l3)] [] h' (yq 0 (yqU K)))))) : ZW d prog_4_method_6_code 2 2 [some (vR (some a)), some (vI l1), some (vI l2), some (vI l3)] [] h (yq 0 (yqU K)) := by
  refine y_s (pc' := 3) (L' := [some (vR (some a)), some (vI l1), some (vI l2), some (vI l3)]) (st' := [vI l3]) (h' := h) f12_2 rfl ?_
  refine y_s (pc' := 5) (L' := [some (vR (some a)), some (vI l1), some (vI l2), some (vI l3)]) (st' := [vI 6, vI l3]) (h' := h) f12_3 rfl ?_
  refine y_ic (pcT := 21) (pc' := 8) (P := 6 ≤ l3) f12_5 rfl rfl rfl (fun c => ?_) (fun c => ?_)
  · replace k := k.1 c
    exact y_ru f12_21 ⟨rfl, k⟩
  · replace k := k.2 c
    refine y_s (pc' := 9) (L' := [some (vR (some a)), some (vI l1), some (vI l2), some (vI l3)]) (st' := [vR (some a)]) (h' := h) f12_8 rfl ?_
    refine y_s (pc' := 10) (L' := [some (vR (some a)), some (vI l1), some (vI l2), some (vI l3)]) (st' := [vI l1, vR (some a)]) (h' := h) f12_9 rfl ?_
    refine y_s (pc' := 11) (L' := [some (vR (some a)), some (vI l1), some (vI l2), some (vI l3)]) (st' := [vI l3, vI l1, vR (some a)]) (h' := h) f12_10 rfl ?_
    refine y_s (pc' := 12) (L' := [some (vR (some a)), some (vI l1), some (vI l2), some (vI l3)]) (st' := [vI l2, vI l3, vI l1, vR (some a)]) (h' := h) f12_11 rfl ?_
    refine y_cU (pc' := 15) (as := [vR (some a), vI l1, vI l3, vI l2]) (r := []) f12_12 (yzv ym_2_76 rfl (ysH0 w ha) rfl rfl) (by omega) rfl ?_
    exact k
theorem W12_15 {d : Nat} {K : Hp → Prop} (w : yWF zl nl h) {a : Nat} (ha : yHs a) {l1 : Int} {l2 : Int} {l3 : Int} (k : ZW d prog_4_method_6_code 2 2 [some (vR (some a)), some (vI l1), some (vI l2), some (vI (zw (l3 + 1)))] [] h (yq 0 (yqU K))) : ZW d prog_4_method_6_code 2 15 [some (vR (some a)), some (vI l1), some (vI l2), some (vI l3)] [] h (yq 0 (yqU K)) := by
  refine y_inc (pc' := 18) (L' := [some (vR (some a)), some (vI l1), some (vI l2), some (vI (zw (l3 + 1)))]) f12_15 rfl rfl rfl rfl ?_
  refine y_go (pc' := 2) f12_18 rfl ?_
  exact k
end YD
