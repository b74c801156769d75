theorem dX9_init_0 : decode cX9_init 0 = .ok (.aload_n 0, 1) := by decide +kernel
theorem dX9_init_1 : decode cX9_init 1 = .ok (.invokespecial 1, 3) := by decide +kernel
theorem dX9_init_4 : decode cX9_init 4 = .ok (.aload_n 0, 1) := by decide +kernel
theorem dX9_init_5 : decode cX9_init 5 = .ok (.bipush 6, 2) := by decide +kernel
theorem dX9_init_7 : decode cX9_init 7 = .ok (.newarray .int, 2) := by decide +kernel
theorem dX9_init_9 : decode cX9_init 9 = .ok (.putfield 7, 3) := by decide +kernel
theorem dX9_init_12 : decode cX9_init 12 = .ok (.aload_n 0, 1) := by decide +kernel
theorem dX9_init_13 : decode cX9_init 13 = .ok (.bipush 6, 2) := by decide +kernel
theorem dX9_init_15 : decode cX9_init 15 = .ok (.newarray .int, 2) := by decide +kernel
theorem dX9_init_17 : decode cX9_init 17 = .ok (.putfield 13, 3) := by decide +kernel
theorem dX9_init_20 : decode cX9_init 20 = .ok (.aload_n 0, 1) := by decide +kernel
theorem dX9_init_21 : decode cX9_init 21 = .ok (.bipush 6, 2) := by decide +kernel
theorem dX9_init_23 : decode cX9_init 23 = .ok (.newarray .int, 2) := by decide +kernel
theorem dX9_init_25 : decode cX9_init 25 = .ok (.putfield 16, 3) := by decide +kernel
theorem dX9_init_28 : decode cX9_init 28 = .ok (.aload_n 0, 1) := by decide +kernel
theorem dX9_init_29 : decode cX9_init 29 = .ok (.iconst 4, 1) := by decide +kernel
theorem dX9_init_30 : decode cX9_init 30 = .ok (.newarray .int, 2) := by decide +kernel
theorem dX9_init_32 : decode cX9_init 32 = .ok (.putfield 19, 3) := by decide +kernel
theorem dX9_init_35 : decode cX9_init 35 = .ok (.aload_n 0, 1) := by decide +kernel
theorem dX9_init_36 : decode cX9_init 36 = .ok (.iconst 4, 1) := by decide +kernel
theorem dX9_init_37 : decode cX9_init 37 = .ok (.newarray .int, 2) := by decide +kernel
theorem dX9_init_39 : decode cX9_init 39 = .ok (.putfield 22, 3) := by decide +kernel
theorem dX9_init_42 : decode cX9_init 42 = .ok (.aload_n 0, 1) := by decide +kernel
theorem dX9_init_43 : decode cX9_init 43 = .ok (.iconst 4, 1) := by decide +kernel
theorem dX9_init_44 : decode cX9_init 44 = .ok (.newarray .int, 2) := by decide +kernel
theorem dX9_init_46 : decode cX9_init 46 = .ok (.putfield 25, 3) := by decide +kernel
theorem dX9_init_49 : decode cX9_init 49 = .ok (.aload_n 0, 1) := by decide +kernel
theorem dX9_init_50 : decode cX9_init 50 = .ok (.sipush 210, 3) := by decide +kernel
theorem dX9_init_53 : decode cX9_init 53 = .ok (.newarray .int, 2) := by decide +kernel
theorem dX9_init_55 : decode cX9_init 55 = .ok (.putfield 28, 3) := by decide +kernel
theorem dX9_init_58 : decode cX9_init 58 = .ok (.aload_n 0, 1) := by decide +kernel
theorem dX9_init_59 : decode cX9_init 59 = .ok (.sipush 420, 3) := by decide +kernel
theorem dX9_init_62 : decode cX9_init 62 = .ok (.newarray .int, 2) := by decide +kernel
theorem dX9_init_64 : decode cX9_init 64 = .ok (.putfield 31, 3) := by decide +kernel
theorem dX9_init_67 : decode cX9_init 67 = .ok (.aload_n 0, 1) := by decide +kernel
theorem dX9_init_68 : decode cX9_init 68 = .ok (.iconst 2, 1) := by decide +kernel
theorem dX9_init_69 : decode cX9_init 69 = .ok (.newarray .boolean, 2) := by decide +kernel
theorem dX9_init_71 : decode cX9_init 71 = .ok (.putfield 34, 3) := by decide +kernel
theorem dX9_init_74 : decode cX9_init 74 = .ok (.aload_n 0, 1) := by decide +kernel
theorem dX9_init_75 : decode cX9_init 75 = .ok (.iconst 4, 1) := by decide +kernel
theorem dX9_init_76 : decode cX9_init 76 = .ok (.newarray .int, 2) := by decide +kernel
theorem dX9_init_78 : decode cX9_init 78 = .ok (.putfield 38, 3) := by decide +kernel
theorem dX9_init_81 : decode cX9_init 81 = .ok (.aload_n 0, 1) := by decide +kernel
theorem dX9_init_82 : decode cX9_init 82 = .ok (.iconst 4, 1) := by decide +kernel
theorem dX9_init_83 : decode cX9_init 83 = .ok (.newarray .int, 2) := by decide +kernel
theorem dX9_init_85 : decode cX9_init 85 = .ok (.putfield 41, 3) := by decide +kernel
theorem dX9_init_88 : decode cX9_init 88 = .ok (.aload_n 0, 1) := by decide +kernel
theorem dX9_init_89 : decode cX9_init 89 = .ok (.bipush 120, 2) := by decide +kernel
theorem dX9_init_91 : decode cX9_init 91 = .ok (.newarray .int, 2) := by decide +kernel
theorem dX9_init_93 : decode cX9_init 93 = .ok (.putfield 44, 3) := by decide +kernel
theorem dX9_init_96 : decode cX9_init 96 = .ok (.aload_n 0, 1) := by decide +kernel
theorem dX9_init_97 : decode cX9_init 97 = .ok (.bipush 42, 2) := by decide +kernel
theorem dX9_init_99 : decode cX9_init 99 = .ok (.newarray .int, 2) := by decide +kernel
theorem dX9_init_101 : decode cX9_init 101 = .ok (.putfield 47, 3) := by decide +kernel
theorem dX9_init_104 : decode cX9_init 104 = .ok (.aload_n 0, 1) := by decide +kernel
theorem dX9_init_105 : decode cX9_init 105 = .ok (.iconst 3, 1) := by decide +kernel
theorem dX9_init_106 : decode cX9_init 106 = .ok (.newarray .int, 2) := by decide +kernel
theorem dX9_init_108 : decode cX9_init 108 = .ok (.putfield 50, 3) := by decide +kernel
theorem dX9_init_111 : decode cX9_init 111 = .ok (.aload_n 0, 1) := by decide +kernel
theorem dX9_init_112 : decode cX9_init 112 = .ok (.bipush 6, 2) := by decide +kernel
theorem dX9_init_114 : decode cX9_init 114 = .ok (.newarray .int, 2) := by decide +kernel
theorem dX9_init_116 : decode cX9_init 116 = .ok (.putfield 53, 3) := by decide +kernel
theorem dX9_init_119 : decode cX9_init 119 = .ok (.aload_n 0, 1) := by decide +kernel
theorem dX9_init_120 : decode cX9_init 120 = .ok (.bipush 6, 2) := by decide +kernel
theorem dX9_init_122 : decode cX9_init 122 = .ok (.newarray .int, 2) := by decide +kernel
theorem dX9_init_124 : decode cX9_init 124 = .ok (.putfield 56, 3) := by decide +kernel
theorem dX9_init_127 : decode cX9_init 127 = .ok (.aload_n 0, 1) := by decide +kernel
theorem dX9_init_128 : decode cX9_init 128 = .ok (.iconst 5, 1) := by decide +kernel
theorem dX9_init_129 : decode cX9_init 129 = .ok (.newarray .int, 2) := by decide +kernel
theorem dX9_init_131 : decode cX9_init 131 = .ok (.putfield 59, 3) := by decide +kernel
theorem dX9_init_134 : decode cX9_init 134 = .ok (.aload_n 0, 1) := by decide +kernel
theorem dX9_init_135 : decode cX9_init 135 = .ok (.bipush 30, 2) := by decide +kernel
theorem dX9_init_137 : decode cX9_init 137 = .ok (.newarray .int, 2) := by decide +kernel
theorem dX9_init_139 : decode cX9_init 139 = .ok (.putfield 62, 3) := by decide +kernel
theorem dX9_init_142 : decode cX9_init 142 = .ok (.aload_n 0, 1) := by decide +kernel
theorem dX9_init_143 : decode cX9_init 143 = .ok (.bipush 6, 2) := by decide +kernel
theorem dX9_init_145 : decode cX9_init 145 = .ok (.newarray .int, 2) := by decide +kernel
theorem dX9_init_147 : decode cX9_init 147 = .ok (.putfield 65, 3) := by decide +kernel
theorem dX9_init_150 : decode cX9_init 150 = .ok (.aload_n 0, 1) := by decide +kernel
theorem dX9_init_151 : decode cX9_init 151 = .ok (.bipush 6, 2) := by decide +kernel
theorem dX9_init_153 : decode cX9_init 153 = .ok (.newarray .int, 2) := by decide +kernel
theorem dX9_init_155 : decode cX9_init 155 = .ok (.putfield 68, 3) := by decide +kernel
theorem dX9_init_158 : decode cX9_init 158 = .ok (.aload_n 0, 1) := by decide +kernel
theorem dX9_init_159 : decode cX9_init 159 = .ok (.getfield 28, 3) := by decide +kernel
theorem dX9_init_162 : decode cX9_init 162 = .ok (.bipush 19, 2) := by decide +kernel
theorem dX9_init_164 : decode cX9_init 164 = .ok (.iconst 0, 1) := by decide +kernel
theorem dX9_init_165 : decode cX9_init 165 = .ok (.iastore, 1) := by decide +kernel
theorem dX9_init_166 : decode cX9_init 166 = .ok (.return_, 1) := by decide +kernel
theorem dX9_in_0 : decode cX9_in 0 = .ok (.lload_n 0, 1) := by decide +kernel
theorem dX9_in_1 : decode cX9_in 1 = .ok (.lload_n 2, 1) := by decide +kernel
theorem dX9_in_2 : decode cX9_in 2 = .ok (.lcmp, 1) := by decide +kernel
theorem dX9_in_3 : decode cX9_in 3 = .ok (.ifCond .lt 14, 3) := by decide +kernel
theorem dX9_in_6 : decode cX9_in 6 = .ok (.lload_n 0, 1) := by decide +kernel
theorem dX9_in_7 : decode cX9_in 7 = .ok (.lload 4, 2) := by decide +kernel
theorem dX9_in_9 : decode cX9_in 9 = .ok (.lcmp, 1) := by decide +kernel
theorem dX9_in_10 : decode cX9_in 10 = .ok (.ifCond .gt 7, 3) := by decide +kernel
theorem dX9_in_13 : decode cX9_in 13 = .ok (.iconst 1, 1) := by decide +kernel
theorem dX9_in_14 : decode cX9_in 14 = .ok (.goto 4, 3) := by decide +kernel
theorem dX9_in_17 : decode cX9_in 17 = .ok (.iconst 0, 1) := by decide +kernel
theorem dX9_in_18 : decode cX9_in 18 = .ok (.ireturn, 1) := by decide +kernel
theorem dX9_has_0 : decode cX9_has 0 = .ok (.iload_n 0, 1) := by decide +kernel
theorem dX9_has_1 : decode cX9_has 1 = .ok (.iload_n 1, 1) := by decide +kernel
theorem dX9_has_2 : decode cX9_has 2 = .ok (.ishr, 1) := by decide +kernel
theorem dX9_has_3 : decode cX9_has 3 = .ok (.iconst 1, 1) := by decide +kernel
theorem dX9_has_4 : decode cX9_has 4 = .ok (.iand, 1) := by decide +kernel
theorem dX9_has_5 : decode cX9_has 5 = .ok (.iconst 1, 1) := by decide +kernel
theorem dX9_has_6 : decode cX9_has 6 = .ok (.if_icmp .ne 7, 3) := by decide +kernel
theorem dX9_has_9 : decode cX9_has 9 = .ok (.iconst 1, 1) := by decide +kernel
theorem dX9_has_10 : decode cX9_has 10 = .ok (.goto 4, 3) := by decide +kernel
theorem dX9_has_13 : decode cX9_has 13 = .ok (.iconst 0, 1) := by decide +kernel
theorem dX9_has_14 : decode cX9_has 14 = .ok (.ireturn, 1) := by decide +kernel
theorem dX9_bits_0 : decode cX9_bits 0 = .ok (.iconst 0, 1) := by decide +kernel
theorem dX9_bits_1 : decode cX9_bits 1 = .ok (.istore_n 1, 1) := by decide +kernel
theorem dX9_bits_2 : decode cX9_bits 2 = .ok (.iload_n 0, 1) := by decide +kernel
theorem dX9_bits_3 : decode cX9_bits 3 = .ok (.istore_n 2, 1) := by decide +kernel
theorem dX9_bits_4 : decode cX9_bits 4 = .ok (.iload_n 2, 1) := by decide +kernel
theorem dX9_bits_5 : decode cX9_bits 5 = .ok (.ifCond .le 16, 3) := by decide +kernel
theorem dX9_bits_8 : decode cX9_bits 8 = .ok (.iload_n 1, 1) := by decide +kernel
theorem dX9_bits_9 : decode cX9_bits 9 = .ok (.iload_n 2, 1) := by decide +kernel
theorem dX9_bits_10 : decode cX9_bits 10 = .ok (.iconst 1, 1) := by decide +kernel
theorem dX9_bits_11 : decode cX9_bits 11 = .ok (.iand, 1) := by decide +kernel
theorem dX9_bits_12 : decode cX9_bits 12 = .ok (.iadd, 1) := by decide +kernel
theorem dX9_bits_13 : decode cX9_bits 13 = .ok (.istore_n 1, 1) := by decide +kernel
theorem dX9_bits_14 : decode cX9_bits 14 = .ok (.iload_n 2, 1) := by decide +kernel
theorem dX9_bits_15 : decode cX9_bits 15 = .ok (.iconst 1, 1) := by decide +kernel
theorem dX9_bits_16 : decode cX9_bits 16 = .ok (.ishr, 1) := by decide +kernel
theorem dX9_bits_17 : decode cX9_bits 17 = .ok (.istore_n 2, 1) := by decide +kernel
theorem dX9_bits_18 : decode cX9_bits 18 = .ok (.goto (-14), 3) := by decide +kernel
theorem dX9_bits_21 : decode cX9_bits 21 = .ok (.iload_n 1, 1) := by decide +kernel
theorem dX9_bits_22 : decode cX9_bits 22 = .ok (.ireturn, 1) := by decide +kernel
theorem dX9_isTemper_0 : decode cX9_isTemper 0 = .ok (.iload_n 1, 1) := by decide +kernel
theorem dX9_isTemper_1 : decode cX9_isTemper 1 = .ok (.i2l, 1) := by decide +kernel
theorem dX9_isTemper_2 : decode cX9_isTemper 2 = .ok (.lconst 0, 1) := by decide +kernel
theorem dX9_isTemper_3 : decode cX9_isTemper 3 = .ok (.aload_n 0, 1) := by decide +kernel
theorem dX9_isTemper_4 : decode cX9_isTemper 4 = .ok (.getfield 71, 3) := by decide +kernel
theorem dX9_isTemper_7 : decode cX9_isTemper 7 = .ok (.iconst 1, 1) := by decide +kernel
theorem dX9_isTemper_8 : decode cX9_isTemper 8 = .ok (.isub, 1) := by decide +kernel
theorem dX9_isTemper_9 : decode cX9_isTemper 9 = .ok (.i2l, 1) := by decide +kernel
theorem dX9_isTemper_10 : decode cX9_isTemper 10 = .ok (.invokestatic 75, 3) := by decide +kernel
theorem dX9_isTemper_13 : decode cX9_isTemper 13 = .ok (.ireturn, 1) := by decide +kernel
theorem dX9_isNurse_0 : decode cX9_isNurse 0 = .ok (.iload_n 1, 1) := by decide +kernel
theorem dX9_isNurse_1 : decode cX9_isNurse 1 = .ok (.i2l, 1) := by decide +kernel
theorem dX9_isNurse_2 : decode cX9_isNurse 2 = .ok (.lconst 0, 1) := by decide +kernel
theorem dX9_isNurse_3 : decode cX9_isNurse 3 = .ok (.aload_n 0, 1) := by decide +kernel
theorem dX9_isNurse_4 : decode cX9_isNurse 4 = .ok (.getfield 79, 3) := by decide +kernel
theorem dX9_isNurse_7 : decode cX9_isNurse 7 = .ok (.iconst 1, 1) := by decide +kernel
theorem dX9_isNurse_8 : decode cX9_isNurse 8 = .ok (.isub, 1) := by decide +kernel
theorem dX9_isNurse_9 : decode cX9_isNurse 9 = .ok (.i2l, 1) := by decide +kernel
theorem dX9_isNurse_10 : decode cX9_isNurse 10 = .ok (.invokestatic 75, 3) := by decide +kernel
theorem dX9_isNurse_13 : decode cX9_isNurse 13 = .ok (.ireturn, 1) := by decide +kernel
theorem dX9_type_0 : decode cX9_type 0 = .ok (.iload_n 1, 1) := by decide +kernel
theorem dX9_type_1 : decode cX9_type 1 = .ok (.i2l, 1) := by decide +kernel
theorem dX9_type_2 : decode cX9_type 2 = .ok (.lconst 0, 1) := by decide +kernel
theorem dX9_type_3 : decode cX9_type 3 = .ok (.ldc2_w 82, 3) := by decide +kernel
theorem dX9_type_6 : decode cX9_type 6 = .ok (.invokestatic 75, 3) := by decide +kernel
theorem dX9_type_9 : decode cX9_type 9 = .ok (.ifCond .ne 5, 3) := by decide +kernel
theorem dX9_type_12 : decode cX9_type 12 = .ok (.iconst (-1), 1) := by decide +kernel
theorem dX9_type_13 : decode cX9_type 13 = .ok (.ireturn, 1) := by decide +kernel
theorem dX9_type_14 : decode cX9_type 14 = .ok (.aload_n 0, 1) := by decide +kernel
theorem dX9_type_15 : decode cX9_type 15 = .ok (.getfield 84, 3) := by decide +kernel
theorem dX9_type_18 : decode cX9_type 18 = .ok (.bipush 120, 2) := by decide +kernel
theorem dX9_type_20 : decode cX9_type 20 = .ok (.if_icmp .ne 6, 3) := by decide +kernel
theorem dX9_type_23 : decode cX9_type 23 = .ok (.bipush (-3), 2) := by decide +kernel
theorem dX9_type_25 : decode cX9_type 25 = .ok (.ireturn, 1) := by decide +kernel
theorem dX9_type_26 : decode cX9_type 26 = .ok (.aload_n 0, 1) := by decide +kernel
theorem dX9_type_27 : decode cX9_type 27 = .ok (.getfield 44, 3) := by decide +kernel
theorem dX9_type_30 : decode cX9_type 30 = .ok (.aload_n 0, 1) := by decide +kernel
theorem dX9_type_31 : decode cX9_type 31 = .ok (.getfield 84, 3) := by decide +kernel
theorem dX9_type_34 : decode cX9_type 34 = .ok (.iload_n 1, 1) := by decide +kernel
theorem dX9_type_35 : decode cX9_type 35 = .ok (.iastore, 1) := by decide +kernel
theorem dX9_type_36 : decode cX9_type 36 = .ok (.aload_n 0, 1) := by decide +kernel
theorem dX9_type_37 : decode cX9_type 37 = .ok (.dup, 1) := by decide +kernel
theorem dX9_type_38 : decode cX9_type 38 = .ok (.getfield 84, 3) := by decide +kernel
theorem dX9_type_41 : decode cX9_type 41 = .ok (.iconst 1, 1) := by decide +kernel
theorem dX9_type_42 : decode cX9_type 42 = .ok (.iadd, 1) := by decide +kernel
theorem dX9_type_43 : decode cX9_type 43 = .ok (.putfield 84, 3) := by decide +kernel
theorem dX9_type_46 : decode cX9_type 46 = .ok (.aload_n 0, 1) := by decide +kernel
theorem dX9_type_47 : decode cX9_type 47 = .ok (.getfield 84, 3) := by decide +kernel
theorem dX9_type_50 : decode cX9_type 50 = .ok (.ireturn, 1) := by decide +kernel
theorem dX9_clear_0 : decode cX9_clear 0 = .ok (.aload_n 0, 1) := by decide +kernel
theorem dX9_clear_1 : decode cX9_clear 1 = .ok (.getfield 84, 3) := by decide +kernel
theorem dX9_clear_4 : decode cX9_clear 4 = .ok (.istore_n 1, 1) := by decide +kernel
theorem dX9_clear_5 : decode cX9_clear 5 = .ok (.aload_n 0, 1) := by decide +kernel
theorem dX9_clear_6 : decode cX9_clear 6 = .ok (.iconst 0, 1) := by decide +kernel
theorem dX9_clear_7 : decode cX9_clear 7 = .ok (.putfield 84, 3) := by decide +kernel
theorem dX9_clear_10 : decode cX9_clear 10 = .ok (.iload_n 1, 1) := by decide +kernel
theorem dX9_clear_11 : decode cX9_clear 11 = .ok (.ireturn, 1) := by decide +kernel
theorem dX9_isBetween_0 : decode cX9_isBetween 0 = .ok (.iload_n 1, 1) := by decide +kernel
theorem dX9_isBetween_1 : decode cX9_isBetween 1 = .ok (.aload_n 0, 1) := by decide +kernel
theorem dX9_isBetween_2 : decode cX9_isBetween 2 = .ok (.getfield 84, 3) := by decide +kernel
theorem dX9_isBetween_5 : decode cX9_isBetween 5 = .ok (.if_icmp .ge 27, 3) := by decide +kernel
theorem dX9_isBetween_8 : decode cX9_isBetween 8 = .ok (.aload_n 0, 1) := by decide +kernel
theorem dX9_isBetween_9 : decode cX9_isBetween 9 = .ok (.getfield 44, 3) := by decide +kernel
theorem dX9_isBetween_12 : decode cX9_isBetween 12 = .ok (.iload_n 1, 1) := by decide +kernel
theorem dX9_isBetween_13 : decode cX9_isBetween 13 = .ok (.iaload, 1) := by decide +kernel
theorem dX9_isBetween_14 : decode cX9_isBetween 14 = .ok (.iload_n 2, 1) := by decide +kernel
theorem dX9_isBetween_15 : decode cX9_isBetween 15 = .ok (.if_icmp .lt 17, 3) := by decide +kernel
theorem dX9_isBetween_18 : decode cX9_isBetween 18 = .ok (.aload_n 0, 1) := by decide +kernel
theorem dX9_isBetween_19 : decode cX9_isBetween 19 = .ok (.getfield 44, 3) := by decide +kernel
theorem dX9_isBetween_22 : decode cX9_isBetween 22 = .ok (.iload_n 1, 1) := by decide +kernel
theorem dX9_isBetween_23 : decode cX9_isBetween 23 = .ok (.iaload, 1) := by decide +kernel
theorem dX9_isBetween_24 : decode cX9_isBetween 24 = .ok (.iload_n 3, 1) := by decide +kernel
theorem dX9_isBetween_25 : decode cX9_isBetween 25 = .ok (.if_icmp .gt 7, 3) := by decide +kernel
theorem dX9_isBetween_28 : decode cX9_isBetween 28 = .ok (.iconst 1, 1) := by decide +kernel
theorem dX9_isBetween_29 : decode cX9_isBetween 29 = .ok (.goto 4, 3) := by decide +kernel
theorem dX9_isBetween_32 : decode cX9_isBetween 32 = .ok (.iconst 0, 1) := by decide +kernel
theorem dX9_isBetween_33 : decode cX9_isBetween 33 = .ok (.ireturn, 1) := by decide +kernel
theorem dX9_lookAt_0 : decode cX9_lookAt 0 = .ok (.iload_n 1, 1) := by decide +kernel
theorem dX9_lookAt_1 : decode cX9_lookAt 1 = .ok (.istore_n 2, 1) := by decide +kernel
theorem dX9_lookAt_2 : decode cX9_lookAt 2 = .ok (.iload_n 2, 1) := by decide +kernel
theorem dX9_lookAt_3 : decode cX9_lookAt 3 = .ok (.aload_n 0, 1) := by decide +kernel
theorem dX9_lookAt_4 : decode cX9_lookAt 4 = .ok (.getfield 84, 3) := by decide +kernel
theorem dX9_lookAt_7 : decode cX9_lookAt 7 = .ok (.if_icmp .ge 20, 3) := by decide +kernel
theorem dX9_lookAt_10 : decode cX9_lookAt 10 = .ok (.aload_n 0, 1) := by decide +kernel
theorem dX9_lookAt_11 : decode cX9_lookAt 11 = .ok (.getfield 44, 3) := by decide +kernel
theorem dX9_lookAt_14 : decode cX9_lookAt 14 = .ok (.iload_n 2, 1) := by decide +kernel
theorem dX9_lookAt_15 : decode cX9_lookAt 15 = .ok (.iaload, 1) := by decide +kernel
theorem dX9_lookAt_16 : decode cX9_lookAt 16 = .ok (.bipush 32, 2) := by decide +kernel
theorem dX9_lookAt_18 : decode cX9_lookAt 18 = .ok (.if_icmp .ne 9, 3) := by decide +kernel
theorem dX9_lookAt_21 : decode cX9_lookAt 21 = .ok (.iinc 2 1, 3) := by decide +kernel
theorem dX9_lookAt_24 : decode cX9_lookAt 24 = .ok (.goto (-22), 3) := by decide +kernel
theorem dX9_lookAt_27 : decode cX9_lookAt 27 = .ok (.aload_n 0, 1) := by decide +kernel
theorem dX9_lookAt_28 : decode cX9_lookAt 28 = .ok (.iload_n 2, 1) := by decide +kernel
theorem dX9_lookAt_29 : decode cX9_lookAt 29 = .ok (.putfield 87, 3) := by decide +kernel
theorem dX9_lookAt_32 : decode cX9_lookAt 32 = .ok (.aload_n 0, 1) := by decide +kernel
theorem dX9_lookAt_33 : decode cX9_lookAt 33 = .ok (.iconst 0, 1) := by decide +kernel
theorem dX9_lookAt_34 : decode cX9_lookAt 34 = .ok (.putfield 90, 3) := by decide +kernel
theorem dX9_lookAt_37 : decode cX9_lookAt 37 = .ok (.aload_n 0, 1) := by decide +kernel
theorem dX9_lookAt_38 : decode cX9_lookAt 38 = .ok (.iload_n 2, 1) := by decide +kernel
theorem dX9_lookAt_39 : decode cX9_lookAt 39 = .ok (.aload_n 0, 1) := by decide +kernel
theorem dX9_lookAt_40 : decode cX9_lookAt 40 = .ok (.getfield 84, 3) := by decide +kernel
theorem dX9_lookAt_43 : decode cX9_lookAt 43 = .ok (.if_icmp .ne 7, 3) := by decide +kernel
theorem dX9_lookAt_46 : decode cX9_lookAt 46 = .ok (.iconst 0, 1) := by decide +kernel
theorem dX9_lookAt_47 : decode cX9_lookAt 47 = .ok (.goto 51, 3) := by decide +kernel
theorem dX9_lookAt_50 : decode cX9_lookAt 50 = .ok (.aload_n 0, 1) := by decide +kernel
theorem dX9_lookAt_51 : decode cX9_lookAt 51 = .ok (.iload_n 2, 1) := by decide +kernel
theorem dX9_lookAt_52 : decode cX9_lookAt 52 = .ok (.bipush 97, 2) := by decide +kernel
theorem dX9_lookAt_54 : decode cX9_lookAt 54 = .ok (.bipush 122, 2) := by decide +kernel
theorem dX9_lookAt_56 : decode cX9_lookAt 56 = .ok (.invokevirtual 93, 3) := by decide +kernel
theorem dX9_lookAt_59 : decode cX9_lookAt 59 = .ok (.ifCond .eq 7, 3) := by decide +kernel
theorem dX9_lookAt_62 : decode cX9_lookAt 62 = .ok (.iconst 1, 1) := by decide +kernel
theorem dX9_lookAt_63 : decode cX9_lookAt 63 = .ok (.goto 35, 3) := by decide +kernel
theorem dX9_lookAt_66 : decode cX9_lookAt 66 = .ok (.aload_n 0, 1) := by decide +kernel
theorem dX9_lookAt_67 : decode cX9_lookAt 67 = .ok (.iload_n 2, 1) := by decide +kernel
theorem dX9_lookAt_68 : decode cX9_lookAt 68 = .ok (.bipush 48, 2) := by decide +kernel
theorem dX9_lookAt_70 : decode cX9_lookAt 70 = .ok (.bipush 57, 2) := by decide +kernel
theorem dX9_lookAt_72 : decode cX9_lookAt 72 = .ok (.invokevirtual 93, 3) := by decide +kernel
theorem dX9_lookAt_75 : decode cX9_lookAt 75 = .ok (.ifCond .eq 7, 3) := by decide +kernel
theorem dX9_lookAt_78 : decode cX9_lookAt 78 = .ok (.iconst 2, 1) := by decide +kernel
theorem dX9_lookAt_79 : decode cX9_lookAt 79 = .ok (.goto 19, 3) := by decide +kernel
theorem dX9_lookAt_82 : decode cX9_lookAt 82 = .ok (.aload_n 0, 1) := by decide +kernel
theorem dX9_lookAt_83 : decode cX9_lookAt 83 = .ok (.getfield 44, 3) := by decide +kernel
theorem dX9_lookAt_86 : decode cX9_lookAt 86 = .ok (.iload_n 2, 1) := by decide +kernel
theorem dX9_lookAt_87 : decode cX9_lookAt 87 = .ok (.iaload, 1) := by decide +kernel
theorem dX9_lookAt_88 : decode cX9_lookAt 88 = .ok (.bipush 59, 2) := by decide +kernel
theorem dX9_lookAt_90 : decode cX9_lookAt 90 = .ok (.if_icmp .ne 7, 3) := by decide +kernel
theorem dX9_lookAt_93 : decode cX9_lookAt 93 = .ok (.iconst 3, 1) := by decide +kernel
theorem dX9_lookAt_94 : decode cX9_lookAt 94 = .ok (.goto 4, 3) := by decide +kernel
theorem dX9_lookAt_97 : decode cX9_lookAt 97 = .ok (.iconst 4, 1) := by decide +kernel
theorem dX9_lookAt_98 : decode cX9_lookAt 98 = .ok (.putfield 97, 3) := by decide +kernel
theorem dX9_lookAt_101 : decode cX9_lookAt 101 = .ok (.aload_n 0, 1) := by decide +kernel
theorem dX9_lookAt_102 : decode cX9_lookAt 102 = .ok (.iload_n 2, 1) := by decide +kernel
theorem dX9_lookAt_103 : decode cX9_lookAt 103 = .ok (.iconst 1, 1) := by decide +kernel
theorem dX9_lookAt_104 : decode cX9_lookAt 104 = .ok (.iadd, 1) := by decide +kernel
theorem dX9_lookAt_105 : decode cX9_lookAt 105 = .ok (.putfield 100, 3) := by decide +kernel
theorem dX9_lookAt_108 : decode cX9_lookAt 108 = .ok (.aload_n 0, 1) := by decide +kernel
theorem dX9_lookAt_109 : decode cX9_lookAt 109 = .ok (.getfield 97, 3) := by decide +kernel
theorem dX9_lookAt_112 : decode cX9_lookAt 112 = .ok (.iconst 1, 1) := by decide +kernel
theorem dX9_lookAt_113 : decode cX9_lookAt 113 = .ok (.if_icmp .ne 18, 3) := by decide +kernel
theorem dX9_lookAt_116 : decode cX9_lookAt 116 = .ok (.aload_n 0, 1) := by decide +kernel
theorem dX9_lookAt_117 : decode cX9_lookAt 117 = .ok (.aload_n 0, 1) := by decide +kernel
theorem dX9_lookAt_118 : decode cX9_lookAt 118 = .ok (.getfield 100, 3) := by decide +kernel
theorem dX9_lookAt_121 : decode cX9_lookAt 121 = .ok (.bipush 97, 2) := by decide +kernel
theorem dX9_lookAt_123 : decode cX9_lookAt 123 = .ok (.bipush 122, 2) := by decide +kernel
theorem dX9_lookAt_125 : decode cX9_lookAt 125 = .ok (.invokevirtual 93, 3) := by decide +kernel
theorem dX9_lookAt_128 : decode cX9_lookAt 128 = .ok (.ifCond .ne 26, 3) := by decide +kernel
theorem dX9_lookAt_131 : decode cX9_lookAt 131 = .ok (.aload_n 0, 1) := by decide +kernel
theorem dX9_lookAt_132 : decode cX9_lookAt 132 = .ok (.getfield 97, 3) := by decide +kernel
theorem dX9_lookAt_135 : decode cX9_lookAt 135 = .ok (.iconst 2, 1) := by decide +kernel
theorem dX9_lookAt_136 : decode cX9_lookAt 136 = .ok (.if_icmp .ne 31, 3) := by decide +kernel
theorem dX9_lookAt_139 : decode cX9_lookAt 139 = .ok (.aload_n 0, 1) := by decide +kernel
theorem dX9_lookAt_140 : decode cX9_lookAt 140 = .ok (.aload_n 0, 1) := by decide +kernel
theorem dX9_lookAt_141 : decode cX9_lookAt 141 = .ok (.getfield 100, 3) := by decide +kernel
theorem dX9_lookAt_144 : decode cX9_lookAt 144 = .ok (.bipush 48, 2) := by decide +kernel
theorem dX9_lookAt_146 : decode cX9_lookAt 146 = .ok (.bipush 57, 2) := by decide +kernel
theorem dX9_lookAt_148 : decode cX9_lookAt 148 = .ok (.invokevirtual 93, 3) := by decide +kernel
theorem dX9_lookAt_151 : decode cX9_lookAt 151 = .ok (.ifCond .eq 16, 3) := by decide +kernel
theorem dX9_lookAt_154 : decode cX9_lookAt 154 = .ok (.aload_n 0, 1) := by decide +kernel
theorem dX9_lookAt_155 : decode cX9_lookAt 155 = .ok (.dup, 1) := by decide +kernel
theorem dX9_lookAt_156 : decode cX9_lookAt 156 = .ok (.getfield 100, 3) := by decide +kernel
theorem dX9_lookAt_159 : decode cX9_lookAt 159 = .ok (.iconst 1, 1) := by decide +kernel
theorem dX9_lookAt_160 : decode cX9_lookAt 160 = .ok (.iadd, 1) := by decide +kernel
theorem dX9_lookAt_161 : decode cX9_lookAt 161 = .ok (.putfield 100, 3) := by decide +kernel
theorem dX9_lookAt_164 : decode cX9_lookAt 164 = .ok (.goto (-56), 3) := by decide +kernel
theorem dX9_lookAt_167 : decode cX9_lookAt 167 = .ok (.aload_n 0, 1) := by decide +kernel
theorem dX9_lookAt_168 : decode cX9_lookAt 168 = .ok (.getfield 87, 3) := by decide +kernel
theorem dX9_lookAt_171 : decode cX9_lookAt 171 = .ok (.istore_n 3, 1) := by decide +kernel
theorem dX9_lookAt_172 : decode cX9_lookAt 172 = .ok (.iload_n 3, 1) := by decide +kernel
theorem dX9_lookAt_173 : decode cX9_lookAt 173 = .ok (.aload_n 0, 1) := by decide +kernel
theorem dX9_lookAt_174 : decode cX9_lookAt 174 = .ok (.getfield 100, 3) := by decide +kernel
theorem dX9_lookAt_177 : decode cX9_lookAt 177 = .ok (.if_icmp .ge 54, 3) := by decide +kernel
theorem dX9_lookAt_180 : decode cX9_lookAt 180 = .ok (.aload_n 0, 1) := by decide +kernel
theorem dX9_lookAt_181 : decode cX9_lookAt 181 = .ok (.getfield 97, 3) := by decide +kernel
theorem dX9_lookAt_184 : decode cX9_lookAt 184 = .ok (.iconst 2, 1) := by decide +kernel
theorem dX9_lookAt_185 : decode cX9_lookAt 185 = .ok (.if_icmp .ne 46, 3) := by decide +kernel
theorem dX9_lookAt_188 : decode cX9_lookAt 188 = .ok (.aload_n 0, 1) := by decide +kernel
theorem dX9_lookAt_189 : decode cX9_lookAt 189 = .ok (.aload_n 0, 1) := by decide +kernel
theorem dX9_lookAt_190 : decode cX9_lookAt 190 = .ok (.getfield 90, 3) := by decide +kernel
theorem dX9_lookAt_193 : decode cX9_lookAt 193 = .ok (.bipush 99, 2) := by decide +kernel
theorem dX9_lookAt_195 : decode cX9_lookAt 195 = .ok (.if_icmp .le 10, 3) := by decide +kernel
theorem dX9_lookAt_198 : decode cX9_lookAt 198 = .ok (.aload_n 0, 1) := by decide +kernel
theorem dX9_lookAt_199 : decode cX9_lookAt 199 = .ok (.getfield 90, 3) := by decide +kernel
theorem dX9_lookAt_202 : decode cX9_lookAt 202 = .ok (.goto 20, 3) := by decide +kernel
theorem dX9_lookAt_205 : decode cX9_lookAt 205 = .ok (.bipush 10, 2) := by decide +kernel
theorem dX9_lookAt_207 : decode cX9_lookAt 207 = .ok (.aload_n 0, 1) := by decide +kernel
theorem dX9_lookAt_208 : decode cX9_lookAt 208 = .ok (.getfield 90, 3) := by decide +kernel
theorem dX9_lookAt_211 : decode cX9_lookAt 211 = .ok (.imul, 1) := by decide +kernel
theorem dX9_lookAt_212 : decode cX9_lookAt 212 = .ok (.aload_n 0, 1) := by decide +kernel
theorem dX9_lookAt_213 : decode cX9_lookAt 213 = .ok (.getfield 44, 3) := by decide +kernel
theorem dX9_lookAt_216 : decode cX9_lookAt 216 = .ok (.iload_n 3, 1) := by decide +kernel
theorem dX9_lookAt_217 : decode cX9_lookAt 217 = .ok (.iaload, 1) := by decide +kernel
theorem dX9_lookAt_218 : decode cX9_lookAt 218 = .ok (.iadd, 1) := by decide +kernel
theorem dX9_lookAt_219 : decode cX9_lookAt 219 = .ok (.bipush 48, 2) := by decide +kernel
theorem dX9_lookAt_221 : decode cX9_lookAt 221 = .ok (.isub, 1) := by decide +kernel
theorem dX9_lookAt_222 : decode cX9_lookAt 222 = .ok (.putfield 90, 3) := by decide +kernel
theorem dX9_lookAt_225 : decode cX9_lookAt 225 = .ok (.iinc 3 1, 3) := by decide +kernel
theorem dX9_lookAt_228 : decode cX9_lookAt 228 = .ok (.goto (-56), 3) := by decide +kernel
theorem dX9_lookAt_231 : decode cX9_lookAt 231 = .ok (.aload_n 0, 1) := by decide +kernel
theorem dX9_lookAt_232 : decode cX9_lookAt 232 = .ok (.getfield 97, 3) := by decide +kernel
theorem dX9_lookAt_235 : decode cX9_lookAt 235 = .ok (.iconst 2, 1) := by decide +kernel
theorem dX9_lookAt_236 : decode cX9_lookAt 236 = .ok (.if_icmp .ne 44, 3) := by decide +kernel
theorem dX9_lookAt_239 : decode cX9_lookAt 239 = .ok (.aload_n 0, 1) := by decide +kernel
theorem dX9_lookAt_240 : decode cX9_lookAt 240 = .ok (.getfield 90, 3) := by decide +kernel
theorem dX9_lookAt_243 : decode cX9_lookAt 243 = .ok (.bipush 99, 2) := by decide +kernel
theorem dX9_lookAt_245 : decode cX9_lookAt 245 = .ok (.if_icmp .gt 30, 3) := by decide +kernel
theorem dX9_lookAt_248 : decode cX9_lookAt 248 = .ok (.aload_n 0, 1) := by decide +kernel
theorem dX9_lookAt_249 : decode cX9_lookAt 249 = .ok (.getfield 100, 3) := by decide +kernel
theorem dX9_lookAt_252 : decode cX9_lookAt 252 = .ok (.aload_n 0, 1) := by decide +kernel
theorem dX9_lookAt_253 : decode cX9_lookAt 253 = .ok (.getfield 87, 3) := by decide +kernel
theorem dX9_lookAt_256 : decode cX9_lookAt 256 = .ok (.isub, 1) := by decide +kernel
theorem dX9_lookAt_257 : decode cX9_lookAt 257 = .ok (.iconst 1, 1) := by decide +kernel
theorem dX9_lookAt_258 : decode cX9_lookAt 258 = .ok (.if_icmp .le 22, 3) := by decide +kernel
theorem dX9_lookAt_261 : decode cX9_lookAt 261 = .ok (.aload_n 0, 1) := by decide +kernel
theorem dX9_lookAt_262 : decode cX9_lookAt 262 = .ok (.getfield 44, 3) := by decide +kernel
theorem dX9_lookAt_265 : decode cX9_lookAt 265 = .ok (.aload_n 0, 1) := by decide +kernel
theorem dX9_lookAt_266 : decode cX9_lookAt 266 = .ok (.getfield 87, 3) := by decide +kernel
theorem dX9_lookAt_269 : decode cX9_lookAt 269 = .ok (.iaload, 1) := by decide +kernel
theorem dX9_lookAt_270 : decode cX9_lookAt 270 = .ok (.bipush 48, 2) := by decide +kernel
theorem dX9_lookAt_272 : decode cX9_lookAt 272 = .ok (.if_icmp .ne 8, 3) := by decide +kernel
theorem dX9_lookAt_275 : decode cX9_lookAt 275 = .ok (.aload_n 0, 1) := by decide +kernel
theorem dX9_lookAt_276 : decode cX9_lookAt 276 = .ok (.iconst 4, 1) := by decide +kernel
theorem dX9_lookAt_277 : decode cX9_lookAt 277 = .ok (.putfield 97, 3) := by decide +kernel
theorem dX9_lookAt_280 : decode cX9_lookAt 280 = .ok (.return_, 1) := by decide +kernel
theorem dX9_isLetter_0 : decode cX9_isLetter 0 = .ok (.aload_n 0, 1) := by decide +kernel
theorem dX9_isLetter_1 : decode cX9_isLetter 1 = .ok (.getfield 97, 3) := by decide +kernel
theorem dX9_isLetter_4 : decode cX9_isLetter 4 = .ok (.iconst 1, 1) := by decide +kernel
theorem dX9_isLetter_5 : decode cX9_isLetter 5 = .ok (.if_icmp .ne 33, 3) := by decide +kernel
theorem dX9_isLetter_8 : decode cX9_isLetter 8 = .ok (.aload_n 0, 1) := by decide +kernel
theorem dX9_isLetter_9 : decode cX9_isLetter 9 = .ok (.getfield 100, 3) := by decide +kernel
theorem dX9_isLetter_12 : decode cX9_isLetter 12 = .ok (.aload_n 0, 1) := by decide +kernel
theorem dX9_isLetter_13 : decode cX9_isLetter 13 = .ok (.getfield 87, 3) := by decide +kernel
theorem dX9_isLetter_16 : decode cX9_isLetter 16 = .ok (.isub, 1) := by decide +kernel
theorem dX9_isLetter_17 : decode cX9_isLetter 17 = .ok (.iconst 1, 1) := by decide +kernel
theorem dX9_isLetter_18 : decode cX9_isLetter 18 = .ok (.if_icmp .ne 20, 3) := by decide +kernel
theorem dX9_isLetter_21 : decode cX9_isLetter 21 = .ok (.aload_n 0, 1) := by decide +kernel
theorem dX9_isLetter_22 : decode cX9_isLetter 22 = .ok (.getfield 44, 3) := by decide +kernel
theorem dX9_isLetter_25 : decode cX9_isLetter 25 = .ok (.aload_n 0, 1) := by decide +kernel
theorem dX9_isLetter_26 : decode cX9_isLetter 26 = .ok (.getfield 87, 3) := by decide +kernel
theorem dX9_isLetter_29 : decode cX9_isLetter 29 = .ok (.iaload, 1) := by decide +kernel
theorem dX9_isLetter_30 : decode cX9_isLetter 30 = .ok (.iload_n 1, 1) := by decide +kernel
theorem dX9_isLetter_31 : decode cX9_isLetter 31 = .ok (.if_icmp .ne 7, 3) := by decide +kernel
theorem dX9_isLetter_34 : decode cX9_isLetter 34 = .ok (.iconst 1, 1) := by decide +kernel
theorem dX9_isLetter_35 : decode cX9_isLetter 35 = .ok (.goto 4, 3) := by decide +kernel
theorem dX9_isLetter_38 : decode cX9_isLetter 38 = .ok (.iconst 0, 1) := by decide +kernel
theorem dX9_isLetter_39 : decode cX9_isLetter 39 = .ok (.ireturn, 1) := by decide +kernel
theorem dX9_takes_0 : decode cX9_takes 0 = .ok (.aload_n 0, 1) := by decide +kernel
theorem dX9_takes_1 : decode cX9_takes 1 = .ok (.getfield 97, 3) := by decide +kernel
theorem dX9_takes_4 : decode cX9_takes 4 = .ok (.iconst 2, 1) := by decide +kernel
theorem dX9_takes_5 : decode cX9_takes 5 = .ok (.if_icmp .ne 18, 3) := by decide +kernel
theorem dX9_takes_8 : decode cX9_takes 8 = .ok (.aload_n 0, 1) := by decide +kernel
theorem dX9_takes_9 : decode cX9_takes 9 = .ok (.getfield 90, 3) := by decide +kernel
theorem dX9_takes_12 : decode cX9_takes 12 = .ok (.i2l, 1) := by decide +kernel
theorem dX9_takes_13 : decode cX9_takes 13 = .ok (.iload_n 2, 1) := by decide +kernel
theorem dX9_takes_14 : decode cX9_takes 14 = .ok (.i2l, 1) := by decide +kernel
theorem dX9_takes_15 : decode cX9_takes 15 = .ok (.iload_n 3, 1) := by decide +kernel
theorem dX9_takes_16 : decode cX9_takes 16 = .ok (.i2l, 1) := by decide +kernel
theorem dX9_takes_17 : decode cX9_takes 17 = .ok (.invokestatic 75, 3) := by decide +kernel
theorem dX9_takes_20 : decode cX9_takes 20 = .ok (.ifCond .ne 5, 3) := by decide +kernel
theorem dX9_takes_23 : decode cX9_takes 23 = .ok (.iconst 0, 1) := by decide +kernel
theorem dX9_takes_24 : decode cX9_takes 24 = .ok (.ireturn, 1) := by decide +kernel
theorem dX9_takes_25 : decode cX9_takes 25 = .ok (.aload_n 0, 1) := by decide +kernel
theorem dX9_takes_26 : decode cX9_takes 26 = .ok (.getfield 50, 3) := by decide +kernel
theorem dX9_takes_29 : decode cX9_takes 29 = .ok (.iload_n 1, 1) := by decide +kernel
theorem dX9_takes_30 : decode cX9_takes 30 = .ok (.aload_n 0, 1) := by decide +kernel
theorem dX9_takes_31 : decode cX9_takes 31 = .ok (.getfield 90, 3) := by decide +kernel
theorem dX9_takes_34 : decode cX9_takes 34 = .ok (.iastore, 1) := by decide +kernel
theorem dX9_takes_35 : decode cX9_takes 35 = .ok (.aload_n 0, 1) := by decide +kernel
theorem dX9_takes_36 : decode cX9_takes 36 = .ok (.aload_n 0, 1) := by decide +kernel
theorem dX9_takes_37 : decode cX9_takes 37 = .ok (.getfield 100, 3) := by decide +kernel
theorem dX9_takes_40 : decode cX9_takes 40 = .ok (.invokevirtual 103, 3) := by decide +kernel
theorem dX9_takes_43 : decode cX9_takes 43 = .ok (.iconst 1, 1) := by decide +kernel
theorem dX9_takes_44 : decode cX9_takes 44 = .ok (.ireturn, 1) := by decide +kernel
theorem dX9_takesTemper_0 : decode cX9_takesTemper 0 = .ok (.aload_n 0, 1) := by decide +kernel
theorem dX9_takesTemper_1 : decode cX9_takesTemper 1 = .ok (.getfield 107, 3) := by decide +kernel
theorem dX9_takesTemper_4 : decode cX9_takesTemper 4 = .ok (.bipush 6, 2) := by decide +kernel
theorem dX9_takesTemper_6 : decode cX9_takesTemper 6 = .ok (.if_icmp .ne 5, 3) := by decide +kernel
theorem dX9_takesTemper_9 : decode cX9_takesTemper 9 = .ok (.iconst 0, 1) := by decide +kernel
theorem dX9_takesTemper_10 : decode cX9_takesTemper 10 = .ok (.ireturn, 1) := by decide +kernel
theorem dX9_takesTemper_11 : decode cX9_takesTemper 11 = .ok (.aload_n 0, 1) := by decide +kernel
theorem dX9_takesTemper_12 : decode cX9_takesTemper 12 = .ok (.aload_n 0, 1) := by decide +kernel
theorem dX9_takesTemper_13 : decode cX9_takesTemper 13 = .ok (.getfield 100, 3) := by decide +kernel
theorem dX9_takesTemper_16 : decode cX9_takesTemper 16 = .ok (.invokevirtual 103, 3) := by decide +kernel
theorem dX9_takesTemper_19 : decode cX9_takesTemper 19 = .ok (.aload_n 0, 1) := by decide +kernel
theorem dX9_takesTemper_20 : decode cX9_takesTemper 20 = .ok (.iconst 0, 1) := by decide +kernel
theorem dX9_takesTemper_21 : decode cX9_takesTemper 21 = .ok (.iconst 1, 1) := by decide +kernel
theorem dX9_takesTemper_22 : decode cX9_takesTemper 22 = .ok (.bipush 60, 2) := by decide +kernel
theorem dX9_takesTemper_24 : decode cX9_takesTemper 24 = .ok (.invokevirtual 110, 3) := by decide +kernel
theorem dX9_takesTemper_27 : decode cX9_takesTemper 27 = .ok (.ifCond .eq 24, 3) := by decide +kernel
theorem dX9_takesTemper_30 : decode cX9_takesTemper 30 = .ok (.aload_n 0, 1) := by decide +kernel
theorem dX9_takesTemper_31 : decode cX9_takesTemper 31 = .ok (.iconst 1, 1) := by decide +kernel
theorem dX9_takesTemper_32 : decode cX9_takesTemper 32 = .ok (.iconst 0, 1) := by decide +kernel
theorem dX9_takesTemper_33 : decode cX9_takesTemper 33 = .ok (.iconst 5, 1) := by decide +kernel
theorem dX9_takesTemper_34 : decode cX9_takesTemper 34 = .ok (.invokevirtual 110, 3) := by decide +kernel
theorem dX9_takesTemper_37 : decode cX9_takesTemper 37 = .ok (.ifCond .eq 14, 3) := by decide +kernel
theorem dX9_takesTemper_40 : decode cX9_takesTemper 40 = .ok (.aload_n 0, 1) := by decide +kernel
theorem dX9_takesTemper_41 : decode cX9_takesTemper 41 = .ok (.iconst 2, 1) := by decide +kernel
theorem dX9_takesTemper_42 : decode cX9_takesTemper 42 = .ok (.iconst 0, 1) := by decide +kernel
theorem dX9_takesTemper_43 : decode cX9_takesTemper 43 = .ok (.bipush 40, 2) := by decide +kernel
theorem dX9_takesTemper_45 : decode cX9_takesTemper 45 = .ok (.invokevirtual 110, 3) := by decide +kernel
theorem dX9_takesTemper_48 : decode cX9_takesTemper 48 = .ok (.ifCond .ne 5, 3) := by decide +kernel
theorem dX9_takesTemper_51 : decode cX9_takesTemper 51 = .ok (.iconst 0, 1) := by decide +kernel
theorem dX9_takesTemper_52 : decode cX9_takesTemper 52 = .ok (.ireturn, 1) := by decide +kernel
theorem dX9_takesTemper_53 : decode cX9_takesTemper 53 = .ok (.iconst 0, 1) := by decide +kernel
theorem dX9_takesTemper_54 : decode cX9_takesTemper 54 = .ok (.istore_n 1, 1) := by decide +kernel
theorem dX9_takesTemper_55 : decode cX9_takesTemper 55 = .ok (.iload_n 1, 1) := by decide +kernel
theorem dX9_takesTemper_56 : decode cX9_takesTemper 56 = .ok (.iconst 3, 1) := by decide +kernel
theorem dX9_takesTemper_57 : decode cX9_takesTemper 57 = .ok (.if_icmp .ge 28, 3) := by decide +kernel
theorem dX9_takesTemper_60 : decode cX9_takesTemper 60 = .ok (.aload_n 0, 1) := by decide +kernel
theorem dX9_takesTemper_61 : decode cX9_takesTemper 61 = .ok (.getfield 47, 3) := by decide +kernel
theorem dX9_takesTemper_64 : decode cX9_takesTemper 64 = .ok (.iconst 4, 1) := by decide +kernel
theorem dX9_takesTemper_65 : decode cX9_takesTemper 65 = .ok (.aload_n 0, 1) := by decide +kernel
theorem dX9_takesTemper_66 : decode cX9_takesTemper 66 = .ok (.getfield 107, 3) := by decide +kernel
theorem dX9_takesTemper_69 : decode cX9_takesTemper 69 = .ok (.imul, 1) := by decide +kernel
theorem dX9_takesTemper_70 : decode cX9_takesTemper 70 = .ok (.iload_n 1, 1) := by decide +kernel
theorem dX9_takesTemper_71 : decode cX9_takesTemper 71 = .ok (.iadd, 1) := by decide +kernel
theorem dX9_takesTemper_72 : decode cX9_takesTemper 72 = .ok (.aload_n 0, 1) := by decide +kernel
theorem dX9_takesTemper_73 : decode cX9_takesTemper 73 = .ok (.getfield 50, 3) := by decide +kernel
theorem dX9_takesTemper_76 : decode cX9_takesTemper 76 = .ok (.iload_n 1, 1) := by decide +kernel
theorem dX9_takesTemper_77 : decode cX9_takesTemper 77 = .ok (.iaload, 1) := by decide +kernel
theorem dX9_takesTemper_78 : decode cX9_takesTemper 78 = .ok (.iastore, 1) := by decide +kernel
theorem dX9_takesTemper_79 : decode cX9_takesTemper 79 = .ok (.iinc 1 1, 3) := by decide +kernel
theorem dX9_takesTemper_82 : decode cX9_takesTemper 82 = .ok (.goto (-27), 3) := by decide +kernel
theorem dX9_takesTemper_85 : decode cX9_takesTemper 85 = .ok (.aload_n 0, 1) := by decide +kernel
theorem dX9_takesTemper_86 : decode cX9_takesTemper 86 = .ok (.getfield 47, 3) := by decide +kernel
theorem dX9_takesTemper_89 : decode cX9_takesTemper 89 = .ok (.iconst 4, 1) := by decide +kernel
theorem dX9_takesTemper_90 : decode cX9_takesTemper 90 = .ok (.aload_n 0, 1) := by decide +kernel
theorem dX9_takesTemper_91 : decode cX9_takesTemper 91 = .ok (.getfield 107, 3) := by decide +kernel
theorem dX9_takesTemper_94 : decode cX9_takesTemper 94 = .ok (.imul, 1) := by decide +kernel
theorem dX9_takesTemper_95 : decode cX9_takesTemper 95 = .ok (.iconst 3, 1) := by decide +kernel
theorem dX9_takesTemper_96 : decode cX9_takesTemper 96 = .ok (.iadd, 1) := by decide +kernel
theorem dX9_takesTemper_97 : decode cX9_takesTemper 97 = .ok (.iconst 0, 1) := by decide +kernel
theorem dX9_takesTemper_98 : decode cX9_takesTemper 98 = .ok (.iastore, 1) := by decide +kernel
theorem dX9_takesTemper_99 : decode cX9_takesTemper 99 = .ok (.aload_n 0, 1) := by decide +kernel
theorem dX9_takesTemper_100 : decode cX9_takesTemper 100 = .ok (.dup, 1) := by decide +kernel
theorem dX9_takesTemper_101 : decode cX9_takesTemper 101 = .ok (.getfield 107, 3) := by decide +kernel
theorem dX9_takesTemper_104 : decode cX9_takesTemper 104 = .ok (.iconst 1, 1) := by decide +kernel
theorem dX9_takesTemper_105 : decode cX9_takesTemper 105 = .ok (.iadd, 1) := by decide +kernel
theorem dX9_takesTemper_106 : decode cX9_takesTemper 106 = .ok (.putfield 107, 3) := by decide +kernel
theorem dX9_takesTemper_109 : decode cX9_takesTemper 109 = .ok (.iconst 1, 1) := by decide +kernel
theorem dX9_takesTemper_110 : decode cX9_takesTemper 110 = .ok (.ireturn, 1) := by decide +kernel
theorem dX9_takesNurse_0 : decode cX9_takesNurse 0 = .ok (.aload_n 0, 1) := by decide +kernel
theorem dX9_takesNurse_1 : decode cX9_takesNurse 1 = .ok (.getfield 113, 3) := by decide +kernel
theorem dX9_takesNurse_4 : decode cX9_takesNurse 4 = .ok (.iconst 4, 1) := by decide +kernel
theorem dX9_takesNurse_5 : decode cX9_takesNurse 5 = .ok (.if_icmp .ne 5, 3) := by decide +kernel
theorem dX9_takesNurse_8 : decode cX9_takesNurse 8 = .ok (.iconst 0, 1) := by decide +kernel
theorem dX9_takesNurse_9 : decode cX9_takesNurse 9 = .ok (.ireturn, 1) := by decide +kernel
theorem dX9_takesNurse_10 : decode cX9_takesNurse 10 = .ok (.aload_n 0, 1) := by decide +kernel
theorem dX9_takesNurse_11 : decode cX9_takesNurse 11 = .ok (.aload_n 0, 1) := by decide +kernel
theorem dX9_takesNurse_12 : decode cX9_takesNurse 12 = .ok (.getfield 100, 3) := by decide +kernel
theorem dX9_takesNurse_15 : decode cX9_takesNurse 15 = .ok (.invokevirtual 103, 3) := by decide +kernel
theorem dX9_takesNurse_18 : decode cX9_takesNurse 18 = .ok (.aload_n 0, 1) := by decide +kernel
theorem dX9_takesNurse_19 : decode cX9_takesNurse 19 = .ok (.iconst 0, 1) := by decide +kernel
theorem dX9_takesNurse_20 : decode cX9_takesNurse 20 = .ok (.iconst 1, 1) := by decide +kernel
theorem dX9_takesNurse_21 : decode cX9_takesNurse 21 = .ok (.bipush 9, 2) := by decide +kernel
theorem dX9_takesNurse_23 : decode cX9_takesNurse 23 = .ok (.invokevirtual 110, 3) := by decide +kernel
theorem dX9_takesNurse_26 : decode cX9_takesNurse 26 = .ok (.ifCond .eq 24, 3) := by decide +kernel
theorem dX9_takesNurse_29 : decode cX9_takesNurse 29 = .ok (.aload_n 0, 1) := by decide +kernel
theorem dX9_takesNurse_30 : decode cX9_takesNurse 30 = .ok (.iconst 1, 1) := by decide +kernel
theorem dX9_takesNurse_31 : decode cX9_takesNurse 31 = .ok (.iconst 1, 1) := by decide +kernel
theorem dX9_takesNurse_32 : decode cX9_takesNurse 32 = .ok (.iconst 3, 1) := by decide +kernel
theorem dX9_takesNurse_33 : decode cX9_takesNurse 33 = .ok (.invokevirtual 110, 3) := by decide +kernel
theorem dX9_takesNurse_36 : decode cX9_takesNurse 36 = .ok (.ifCond .eq 14, 3) := by decide +kernel
theorem dX9_takesNurse_39 : decode cX9_takesNurse 39 = .ok (.aload_n 0, 1) := by decide +kernel
theorem dX9_takesNurse_40 : decode cX9_takesNurse 40 = .ok (.iconst 2, 1) := by decide +kernel
theorem dX9_takesNurse_41 : decode cX9_takesNurse 41 = .ok (.iconst 1, 1) := by decide +kernel
theorem dX9_takesNurse_42 : decode cX9_takesNurse 42 = .ok (.bipush 99, 2) := by decide +kernel
theorem dX9_takesNurse_44 : decode cX9_takesNurse 44 = .ok (.invokevirtual 110, 3) := by decide +kernel
theorem dX9_takesNurse_47 : decode cX9_takesNurse 47 = .ok (.ifCond .ne 5, 3) := by decide +kernel
theorem dX9_takesNurse_50 : decode cX9_takesNurse 50 = .ok (.iconst 0, 1) := by decide +kernel
theorem dX9_takesNurse_51 : decode cX9_takesNurse 51 = .ok (.ireturn, 1) := by decide +kernel
theorem dX9_takesNurse_52 : decode cX9_takesNurse 52 = .ok (.iconst 0, 1) := by decide +kernel
theorem dX9_takesNurse_53 : decode cX9_takesNurse 53 = .ok (.istore_n 1, 1) := by decide +kernel
theorem dX9_takesNurse_54 : decode cX9_takesNurse 54 = .ok (.iload_n 1, 1) := by decide +kernel
theorem dX9_takesNurse_55 : decode cX9_takesNurse 55 = .ok (.iconst 3, 1) := by decide +kernel
theorem dX9_takesNurse_56 : decode cX9_takesNurse 56 = .ok (.if_icmp .ge 31, 3) := by decide +kernel
theorem dX9_takesNurse_59 : decode cX9_takesNurse 59 = .ok (.aload_n 0, 1) := by decide +kernel
theorem dX9_takesNurse_60 : decode cX9_takesNurse 60 = .ok (.getfield 47, 3) := by decide +kernel
theorem dX9_takesNurse_63 : decode cX9_takesNurse 63 = .ok (.bipush 24, 2) := by decide +kernel
theorem dX9_takesNurse_65 : decode cX9_takesNurse 65 = .ok (.iconst 3, 1) := by decide +kernel
theorem dX9_takesNurse_66 : decode cX9_takesNurse 66 = .ok (.aload_n 0, 1) := by decide +kernel
theorem dX9_takesNurse_67 : decode cX9_takesNurse 67 = .ok (.getfield 113, 3) := by decide +kernel
theorem dX9_takesNurse_70 : decode cX9_takesNurse 70 = .ok (.imul, 1) := by decide +kernel
theorem dX9_takesNurse_71 : decode cX9_takesNurse 71 = .ok (.iadd, 1) := by decide +kernel
theorem dX9_takesNurse_72 : decode cX9_takesNurse 72 = .ok (.iload_n 1, 1) := by decide +kernel
theorem dX9_takesNurse_73 : decode cX9_takesNurse 73 = .ok (.iadd, 1) := by decide +kernel
theorem dX9_takesNurse_74 : decode cX9_takesNurse 74 = .ok (.aload_n 0, 1) := by decide +kernel
theorem dX9_takesNurse_75 : decode cX9_takesNurse 75 = .ok (.getfield 50, 3) := by decide +kernel
theorem dX9_takesNurse_78 : decode cX9_takesNurse 78 = .ok (.iload_n 1, 1) := by decide +kernel
theorem dX9_takesNurse_79 : decode cX9_takesNurse 79 = .ok (.iaload, 1) := by decide +kernel
theorem dX9_takesNurse_80 : decode cX9_takesNurse 80 = .ok (.iastore, 1) := by decide +kernel
theorem dX9_takesNurse_81 : decode cX9_takesNurse 81 = .ok (.iinc 1 1, 3) := by decide +kernel
theorem dX9_takesNurse_84 : decode cX9_takesNurse 84 = .ok (.goto (-30), 3) := by decide +kernel
theorem dX9_takesNurse_87 : decode cX9_takesNurse 87 = .ok (.aload_n 0, 1) := by decide +kernel
theorem dX9_takesNurse_88 : decode cX9_takesNurse 88 = .ok (.dup, 1) := by decide +kernel
theorem dX9_takesNurse_89 : decode cX9_takesNurse 89 = .ok (.getfield 113, 3) := by decide +kernel
theorem dX9_takesNurse_92 : decode cX9_takesNurse 92 = .ok (.iconst 1, 1) := by decide +kernel
theorem dX9_takesNurse_93 : decode cX9_takesNurse 93 = .ok (.iadd, 1) := by decide +kernel
theorem dX9_takesNurse_94 : decode cX9_takesNurse 94 = .ok (.putfield 113, 3) := by decide +kernel
theorem dX9_takesNurse_97 : decode cX9_takesNurse 97 = .ok (.iconst 1, 1) := by decide +kernel
theorem dX9_takesNurse_98 : decode cX9_takesNurse 98 = .ok (.ireturn, 1) := by decide +kernel
theorem dX9_takesClash_0 : decode cX9_takesClash 0 = .ok (.aload_n 0, 1) := by decide +kernel
theorem dX9_takesClash_1 : decode cX9_takesClash 1 = .ok (.aload_n 0, 1) := by decide +kernel
theorem dX9_takesClash_2 : decode cX9_takesClash 2 = .ok (.getfield 100, 3) := by decide +kernel
theorem dX9_takesClash_5 : decode cX9_takesClash 5 = .ok (.invokevirtual 103, 3) := by decide +kernel
theorem dX9_takesClash_8 : decode cX9_takesClash 8 = .ok (.aload_n 0, 1) := by decide +kernel
theorem dX9_takesClash_9 : decode cX9_takesClash 9 = .ok (.iconst 0, 1) := by decide +kernel
theorem dX9_takesClash_10 : decode cX9_takesClash 10 = .ok (.iconst 0, 1) := by decide +kernel
theorem dX9_takesClash_11 : decode cX9_takesClash 11 = .ok (.aload_n 0, 1) := by decide +kernel
theorem dX9_takesClash_12 : decode cX9_takesClash 12 = .ok (.getfield 107, 3) := by decide +kernel
theorem dX9_takesClash_15 : decode cX9_takesClash 15 = .ok (.iconst 1, 1) := by decide +kernel
theorem dX9_takesClash_16 : decode cX9_takesClash 16 = .ok (.isub, 1) := by decide +kernel
theorem dX9_takesClash_17 : decode cX9_takesClash 17 = .ok (.invokevirtual 110, 3) := by decide +kernel
theorem dX9_takesClash_20 : decode cX9_takesClash 20 = .ok (.ifCond .eq 39, 3) := by decide +kernel
theorem dX9_takesClash_23 : decode cX9_takesClash 23 = .ok (.aload_n 0, 1) := by decide +kernel
theorem dX9_takesClash_24 : decode cX9_takesClash 24 = .ok (.getfield 97, 3) := by decide +kernel
theorem dX9_takesClash_27 : decode cX9_takesClash 27 = .ok (.iconst 2, 1) := by decide +kernel
theorem dX9_takesClash_28 : decode cX9_takesClash 28 = .ok (.if_icmp .ne 31, 3) := by decide +kernel
theorem dX9_takesClash_31 : decode cX9_takesClash 31 = .ok (.aload_n 0, 1) := by decide +kernel
theorem dX9_takesClash_32 : decode cX9_takesClash 32 = .ok (.getfield 90, 3) := by decide +kernel
theorem dX9_takesClash_35 : decode cX9_takesClash 35 = .ok (.aload_n 0, 1) := by decide +kernel
theorem dX9_takesClash_36 : decode cX9_takesClash 36 = .ok (.getfield 50, 3) := by decide +kernel
theorem dX9_takesClash_39 : decode cX9_takesClash 39 = .ok (.iconst 0, 1) := by decide +kernel
theorem dX9_takesClash_40 : decode cX9_takesClash 40 = .ok (.iaload, 1) := by decide +kernel
theorem dX9_takesClash_41 : decode cX9_takesClash 41 = .ok (.if_icmp .eq 18, 3) := by decide +kernel
theorem dX9_takesClash_44 : decode cX9_takesClash 44 = .ok (.aload_n 0, 1) := by decide +kernel
theorem dX9_takesClash_45 : decode cX9_takesClash 45 = .ok (.iconst 1, 1) := by decide +kernel
theorem dX9_takesClash_46 : decode cX9_takesClash 46 = .ok (.iconst 0, 1) := by decide +kernel
theorem dX9_takesClash_47 : decode cX9_takesClash 47 = .ok (.aload_n 0, 1) := by decide +kernel
theorem dX9_takesClash_48 : decode cX9_takesClash 48 = .ok (.getfield 107, 3) := by decide +kernel
theorem dX9_takesClash_51 : decode cX9_takesClash 51 = .ok (.iconst 1, 1) := by decide +kernel
theorem dX9_takesClash_52 : decode cX9_takesClash 52 = .ok (.isub, 1) := by decide +kernel
theorem dX9_takesClash_53 : decode cX9_takesClash 53 = .ok (.invokevirtual 110, 3) := by decide +kernel
theorem dX9_takesClash_56 : decode cX9_takesClash 56 = .ok (.ifCond .ne 5, 3) := by decide +kernel
theorem dX9_takesClash_59 : decode cX9_takesClash 59 = .ok (.iconst 0, 1) := by decide +kernel
theorem dX9_takesClash_60 : decode cX9_takesClash 60 = .ok (.ireturn, 1) := by decide +kernel
theorem dX9_takesClash_61 : decode cX9_takesClash 61 = .ok (.aload_n 0, 1) := by decide +kernel
theorem dX9_takesClash_62 : decode cX9_takesClash 62 = .ok (.getfield 47, 3) := by decide +kernel
theorem dX9_takesClash_65 : decode cX9_takesClash 65 = .ok (.iconst 4, 1) := by decide +kernel
theorem dX9_takesClash_66 : decode cX9_takesClash 66 = .ok (.aload_n 0, 1) := by decide +kernel
theorem dX9_takesClash_67 : decode cX9_takesClash 67 = .ok (.getfield 50, 3) := by decide +kernel
theorem dX9_takesClash_70 : decode cX9_takesClash 70 = .ok (.iconst 0, 1) := by decide +kernel
theorem dX9_takesClash_71 : decode cX9_takesClash 71 = .ok (.iaload, 1) := by decide +kernel
theorem dX9_takesClash_72 : decode cX9_takesClash 72 = .ok (.imul, 1) := by decide +kernel
theorem dX9_takesClash_73 : decode cX9_takesClash 73 = .ok (.iconst 3, 1) := by decide +kernel
theorem dX9_takesClash_74 : decode cX9_takesClash 74 = .ok (.iadd, 1) := by decide +kernel
theorem dX9_takesClash_75 : decode cX9_takesClash 75 = .ok (.dup2, 1) := by decide +kernel
theorem dX9_takesClash_76 : decode cX9_takesClash 76 = .ok (.iaload, 1) := by decide +kernel
theorem dX9_takesClash_77 : decode cX9_takesClash 77 = .ok (.iconst 1, 1) := by decide +kernel
theorem dX9_takesClash_78 : decode cX9_takesClash 78 = .ok (.aload_n 0, 1) := by decide +kernel
theorem dX9_takesClash_79 : decode cX9_takesClash 79 = .ok (.getfield 50, 3) := by decide +kernel
theorem dX9_takesClash_82 : decode cX9_takesClash 82 = .ok (.iconst 1, 1) := by decide +kernel
theorem dX9_takesClash_83 : decode cX9_takesClash 83 = .ok (.iaload, 1) := by decide +kernel
theorem dX9_takesClash_84 : decode cX9_takesClash 84 = .ok (.ishl, 1) := by decide +kernel
theorem dX9_takesClash_85 : decode cX9_takesClash 85 = .ok (.ior, 1) := by decide +kernel
theorem dX9_takesClash_86 : decode cX9_takesClash 86 = .ok (.iastore, 1) := by decide +kernel
theorem dX9_takesClash_87 : decode cX9_takesClash 87 = .ok (.aload_n 0, 1) := by decide +kernel
theorem dX9_takesClash_88 : decode cX9_takesClash 88 = .ok (.getfield 47, 3) := by decide +kernel
theorem dX9_takesClash_91 : decode cX9_takesClash 91 = .ok (.iconst 4, 1) := by decide +kernel
theorem dX9_takesClash_92 : decode cX9_takesClash 92 = .ok (.aload_n 0, 1) := by decide +kernel
theorem dX9_takesClash_93 : decode cX9_takesClash 93 = .ok (.getfield 50, 3) := by decide +kernel
theorem dX9_takesClash_96 : decode cX9_takesClash 96 = .ok (.iconst 1, 1) := by decide +kernel
theorem dX9_takesClash_97 : decode cX9_takesClash 97 = .ok (.iaload, 1) := by decide +kernel
theorem dX9_takesClash_98 : decode cX9_takesClash 98 = .ok (.imul, 1) := by decide +kernel
theorem dX9_takesClash_99 : decode cX9_takesClash 99 = .ok (.iconst 3, 1) := by decide +kernel
theorem dX9_takesClash_100 : decode cX9_takesClash 100 = .ok (.iadd, 1) := by decide +kernel
theorem dX9_takesClash_101 : decode cX9_takesClash 101 = .ok (.dup2, 1) := by decide +kernel
theorem dX9_takesClash_102 : decode cX9_takesClash 102 = .ok (.iaload, 1) := by decide +kernel
theorem dX9_takesClash_103 : decode cX9_takesClash 103 = .ok (.iconst 1, 1) := by decide +kernel
theorem dX9_takesClash_104 : decode cX9_takesClash 104 = .ok (.aload_n 0, 1) := by decide +kernel
theorem dX9_takesClash_105 : decode cX9_takesClash 105 = .ok (.getfield 50, 3) := by decide +kernel
theorem dX9_takesClash_108 : decode cX9_takesClash 108 = .ok (.iconst 0, 1) := by decide +kernel
theorem dX9_takesClash_109 : decode cX9_takesClash 109 = .ok (.iaload, 1) := by decide +kernel
theorem dX9_takesClash_110 : decode cX9_takesClash 110 = .ok (.ishl, 1) := by decide +kernel
theorem dX9_takesClash_111 : decode cX9_takesClash 111 = .ok (.ior, 1) := by decide +kernel
theorem dX9_takesClash_112 : decode cX9_takesClash 112 = .ok (.iastore, 1) := by decide +kernel
theorem dX9_takesClash_113 : decode cX9_takesClash 113 = .ok (.iconst 1, 1) := by decide +kernel
theorem dX9_takesClash_114 : decode cX9_takesClash 114 = .ok (.ireturn, 1) := by decide +kernel
theorem dX9_takesItem_0 : decode cX9_takesItem 0 = .ok (.aload_n 0, 1) := by decide +kernel
theorem dX9_takesItem_1 : decode cX9_takesItem 1 = .ok (.bipush 116, 2) := by decide +kernel
theorem dX9_takesItem_3 : decode cX9_takesItem 3 = .ok (.invokevirtual 116, 3) := by decide +kernel
theorem dX9_takesItem_6 : decode cX9_takesItem 6 = .ok (.ifCond .eq 10, 3) := by decide +kernel
theorem dX9_takesItem_9 : decode cX9_takesItem 9 = .ok (.aload_n 0, 1) := by decide +kernel
theorem dX9_takesItem_10 : decode cX9_takesItem 10 = .ok (.invokevirtual 120, 3) := by decide +kernel
theorem dX9_takesItem_13 : decode cX9_takesItem 13 = .ok (.goto 40, 3) := by decide +kernel
theorem dX9_takesItem_16 : decode cX9_takesItem 16 = .ok (.aload_n 0, 1) := by decide +kernel
theorem dX9_takesItem_17 : decode cX9_takesItem 17 = .ok (.bipush 110, 2) := by decide +kernel
theorem dX9_takesItem_19 : decode cX9_takesItem 19 = .ok (.invokevirtual 116, 3) := by decide +kernel
theorem dX9_takesItem_22 : decode cX9_takesItem 22 = .ok (.ifCond .eq 10, 3) := by decide +kernel
theorem dX9_takesItem_25 : decode cX9_takesItem 25 = .ok (.aload_n 0, 1) := by decide +kernel
theorem dX9_takesItem_26 : decode cX9_takesItem 26 = .ok (.invokevirtual 124, 3) := by decide +kernel
theorem dX9_takesItem_29 : decode cX9_takesItem 29 = .ok (.goto 24, 3) := by decide +kernel
theorem dX9_takesItem_32 : decode cX9_takesItem 32 = .ok (.aload_n 0, 1) := by decide +kernel
theorem dX9_takesItem_33 : decode cX9_takesItem 33 = .ok (.bipush 120, 2) := by decide +kernel
theorem dX9_takesItem_35 : decode cX9_takesItem 35 = .ok (.invokevirtual 116, 3) := by decide +kernel
theorem dX9_takesItem_38 : decode cX9_takesItem 38 = .ok (.ifCond .eq 14, 3) := by decide +kernel
theorem dX9_takesItem_41 : decode cX9_takesItem 41 = .ok (.aload_n 0, 1) := by decide +kernel
theorem dX9_takesItem_42 : decode cX9_takesItem 42 = .ok (.invokevirtual 127, 3) := by decide +kernel
theorem dX9_takesItem_45 : decode cX9_takesItem 45 = .ok (.ifCond .eq 7, 3) := by decide +kernel
theorem dX9_takesItem_48 : decode cX9_takesItem 48 = .ok (.iconst 1, 1) := by decide +kernel
theorem dX9_takesItem_49 : decode cX9_takesItem 49 = .ok (.goto 4, 3) := by decide +kernel
theorem dX9_takesItem_52 : decode cX9_takesItem 52 = .ok (.iconst 0, 1) := by decide +kernel
theorem dX9_takesItem_53 : decode cX9_takesItem 53 = .ok (.ireturn, 1) := by decide +kernel
theorem dX9_takeAll_0 : decode cX9_takeAll 0 = .ok (.aload_n 0, 1) := by decide +kernel
theorem dX9_takeAll_1 : decode cX9_takeAll 1 = .ok (.aload_n 0, 1) := by decide +kernel
theorem dX9_takeAll_2 : decode cX9_takeAll 2 = .ok (.getfield 107, 3) := by decide +kernel
theorem dX9_takeAll_5 : decode cX9_takeAll 5 = .ok (.putfield 71, 3) := by decide +kernel
theorem dX9_takeAll_8 : decode cX9_takeAll 8 = .ok (.aload_n 0, 1) := by decide +kernel
theorem dX9_takeAll_9 : decode cX9_takeAll 9 = .ok (.aload_n 0, 1) := by decide +kernel
theorem dX9_takeAll_10 : decode cX9_takeAll 10 = .ok (.getfield 113, 3) := by decide +kernel
theorem dX9_takeAll_13 : decode cX9_takeAll 13 = .ok (.putfield 79, 3) := by decide +kernel
theorem dX9_takeAll_16 : decode cX9_takeAll 16 = .ok (.iconst 0, 1) := by decide +kernel
theorem dX9_takeAll_17 : decode cX9_takeAll 17 = .ok (.istore_n 1, 1) := by decide +kernel
theorem dX9_takeAll_18 : decode cX9_takeAll 18 = .ok (.iload_n 1, 1) := by decide +kernel
theorem dX9_takeAll_19 : decode cX9_takeAll 19 = .ok (.sipush 210, 3) := by decide +kernel
theorem dX9_takeAll_22 : decode cX9_takeAll 22 = .ok (.if_icmp .ge 16, 3) := by decide +kernel
theorem dX9_takeAll_25 : decode cX9_takeAll 25 = .ok (.aload_n 0, 1) := by decide +kernel
theorem dX9_takeAll_26 : decode cX9_takeAll 26 = .ok (.getfield 28, 3) := by decide +kernel
theorem dX9_takeAll_29 : decode cX9_takeAll 29 = .ok (.iload_n 1, 1) := by decide +kernel
theorem dX9_takeAll_30 : decode cX9_takeAll 30 = .ok (.iconst 0, 1) := by decide +kernel
theorem dX9_takeAll_31 : decode cX9_takeAll 31 = .ok (.iastore, 1) := by decide +kernel
theorem dX9_takeAll_32 : decode cX9_takeAll 32 = .ok (.iinc 1 1, 3) := by decide +kernel
theorem dX9_takeAll_35 : decode cX9_takeAll 35 = .ok (.goto (-17), 3) := by decide +kernel
theorem dX9_takeAll_38 : decode cX9_takeAll 38 = .ok (.iconst 0, 1) := by decide +kernel
theorem dX9_takeAll_39 : decode cX9_takeAll 39 = .ok (.istore_n 1, 1) := by decide +kernel
theorem dX9_takeAll_40 : decode cX9_takeAll 40 = .ok (.iload_n 1, 1) := by decide +kernel
theorem dX9_takeAll_41 : decode cX9_takeAll 41 = .ok (.aload_n 0, 1) := by decide +kernel
theorem dX9_takeAll_42 : decode cX9_takeAll 42 = .ok (.getfield 71, 3) := by decide +kernel
theorem dX9_takeAll_45 : decode cX9_takeAll 45 = .ok (.if_icmp .ge 94, 3) := by decide +kernel
theorem dX9_takeAll_48 : decode cX9_takeAll 48 = .ok (.aload_n 0, 1) := by decide +kernel
theorem dX9_takeAll_49 : decode cX9_takeAll 49 = .ok (.getfield 28, 3) := by decide +kernel
theorem dX9_takeAll_52 : decode cX9_takeAll 52 = .ok (.iconst 1, 1) := by decide +kernel
theorem dX9_takeAll_53 : decode cX9_takeAll 53 = .ok (.iload_n 1, 1) := by decide +kernel
theorem dX9_takeAll_54 : decode cX9_takeAll 54 = .ok (.iadd, 1) := by decide +kernel
theorem dX9_takeAll_55 : decode cX9_takeAll 55 = .ok (.aload_n 0, 1) := by decide +kernel
theorem dX9_takeAll_56 : decode cX9_takeAll 56 = .ok (.getfield 47, 3) := by decide +kernel
theorem dX9_takeAll_59 : decode cX9_takeAll 59 = .ok (.iconst 4, 1) := by decide +kernel
theorem dX9_takeAll_60 : decode cX9_takeAll 60 = .ok (.iload_n 1, 1) := by decide +kernel
theorem dX9_takeAll_61 : decode cX9_takeAll 61 = .ok (.imul, 1) := by decide +kernel
theorem dX9_takeAll_62 : decode cX9_takeAll 62 = .ok (.iaload, 1) := by decide +kernel
theorem dX9_takeAll_63 : decode cX9_takeAll 63 = .ok (.iastore, 1) := by decide +kernel
theorem dX9_takeAll_64 : decode cX9_takeAll 64 = .ok (.aload_n 0, 1) := by decide +kernel
theorem dX9_takeAll_65 : decode cX9_takeAll 65 = .ok (.getfield 28, 3) := by decide +kernel
theorem dX9_takeAll_68 : decode cX9_takeAll 68 = .ok (.bipush 7, 2) := by decide +kernel
theorem dX9_takeAll_70 : decode cX9_takeAll 70 = .ok (.iload_n 1, 1) := by decide +kernel
theorem dX9_takeAll_71 : decode cX9_takeAll 71 = .ok (.iadd, 1) := by decide +kernel
theorem dX9_takeAll_72 : decode cX9_takeAll 72 = .ok (.bipush (-9), 2) := by decide +kernel
theorem dX9_takeAll_74 : decode cX9_takeAll 74 = .ok (.iastore, 1) := by decide +kernel
theorem dX9_takeAll_75 : decode cX9_takeAll 75 = .ok (.aload_n 0, 1) := by decide +kernel
theorem dX9_takeAll_76 : decode cX9_takeAll 76 = .ok (.getfield 28, 3) := by decide +kernel
theorem dX9_takeAll_79 : decode cX9_takeAll 79 = .ok (.bipush 13, 2) := by decide +kernel
theorem dX9_takeAll_81 : decode cX9_takeAll 81 = .ok (.iload_n 1, 1) := by decide +kernel
theorem dX9_takeAll_82 : decode cX9_takeAll 82 = .ok (.iadd, 1) := by decide +kernel
theorem dX9_takeAll_83 : decode cX9_takeAll 83 = .ok (.iload_n 1, 1) := by decide +kernel
theorem dX9_takeAll_84 : decode cX9_takeAll 84 = .ok (.iastore, 1) := by decide +kernel
theorem dX9_takeAll_85 : decode cX9_takeAll 85 = .ok (.aload_n 0, 1) := by decide +kernel
theorem dX9_takeAll_86 : decode cX9_takeAll 86 = .ok (.getfield 7, 3) := by decide +kernel
theorem dX9_takeAll_89 : decode cX9_takeAll 89 = .ok (.iload_n 1, 1) := by decide +kernel
theorem dX9_takeAll_90 : decode cX9_takeAll 90 = .ok (.aload_n 0, 1) := by decide +kernel
theorem dX9_takeAll_91 : decode cX9_takeAll 91 = .ok (.getfield 47, 3) := by decide +kernel
theorem dX9_takeAll_94 : decode cX9_takeAll 94 = .ok (.iconst 4, 1) := by decide +kernel
theorem dX9_takeAll_95 : decode cX9_takeAll 95 = .ok (.iload_n 1, 1) := by decide +kernel
theorem dX9_takeAll_96 : decode cX9_takeAll 96 = .ok (.imul, 1) := by decide +kernel
theorem dX9_takeAll_97 : decode cX9_takeAll 97 = .ok (.iconst 1, 1) := by decide +kernel
theorem dX9_takeAll_98 : decode cX9_takeAll 98 = .ok (.iadd, 1) := by decide +kernel
theorem dX9_takeAll_99 : decode cX9_takeAll 99 = .ok (.iaload, 1) := by decide +kernel
theorem dX9_takeAll_100 : decode cX9_takeAll 100 = .ok (.iastore, 1) := by decide +kernel
theorem dX9_takeAll_101 : decode cX9_takeAll 101 = .ok (.aload_n 0, 1) := by decide +kernel
theorem dX9_takeAll_102 : decode cX9_takeAll 102 = .ok (.getfield 13, 3) := by decide +kernel
theorem dX9_takeAll_105 : decode cX9_takeAll 105 = .ok (.iload_n 1, 1) := by decide +kernel
theorem dX9_takeAll_106 : decode cX9_takeAll 106 = .ok (.aload_n 0, 1) := by decide +kernel
theorem dX9_takeAll_107 : decode cX9_takeAll 107 = .ok (.getfield 47, 3) := by decide +kernel
theorem dX9_takeAll_110 : decode cX9_takeAll 110 = .ok (.iconst 4, 1) := by decide +kernel
theorem dX9_takeAll_111 : decode cX9_takeAll 111 = .ok (.iload_n 1, 1) := by decide +kernel
theorem dX9_takeAll_112 : decode cX9_takeAll 112 = .ok (.imul, 1) := by decide +kernel
theorem dX9_takeAll_113 : decode cX9_takeAll 113 = .ok (.iconst 2, 1) := by decide +kernel
theorem dX9_takeAll_114 : decode cX9_takeAll 114 = .ok (.iadd, 1) := by decide +kernel
theorem dX9_takeAll_115 : decode cX9_takeAll 115 = .ok (.iaload, 1) := by decide +kernel
theorem dX9_takeAll_116 : decode cX9_takeAll 116 = .ok (.iastore, 1) := by decide +kernel
theorem dX9_takeAll_117 : decode cX9_takeAll 117 = .ok (.aload_n 0, 1) := by decide +kernel
theorem dX9_takeAll_118 : decode cX9_takeAll 118 = .ok (.getfield 16, 3) := by decide +kernel
theorem dX9_takeAll_121 : decode cX9_takeAll 121 = .ok (.iload_n 1, 1) := by decide +kernel
theorem dX9_takeAll_122 : decode cX9_takeAll 122 = .ok (.aload_n 0, 1) := by decide +kernel
theorem dX9_takeAll_123 : decode cX9_takeAll 123 = .ok (.getfield 47, 3) := by decide +kernel
theorem dX9_takeAll_126 : decode cX9_takeAll 126 = .ok (.iconst 4, 1) := by decide +kernel
theorem dX9_takeAll_127 : decode cX9_takeAll 127 = .ok (.iload_n 1, 1) := by decide +kernel
theorem dX9_takeAll_128 : decode cX9_takeAll 128 = .ok (.imul, 1) := by decide +kernel
theorem dX9_takeAll_129 : decode cX9_takeAll 129 = .ok (.iconst 3, 1) := by decide +kernel
theorem dX9_takeAll_130 : decode cX9_takeAll 130 = .ok (.iadd, 1) := by decide +kernel
theorem dX9_takeAll_131 : decode cX9_takeAll 131 = .ok (.iaload, 1) := by decide +kernel
theorem dX9_takeAll_132 : decode cX9_takeAll 132 = .ok (.iastore, 1) := by decide +kernel
theorem dX9_takeAll_133 : decode cX9_takeAll 133 = .ok (.iinc 1 1, 3) := by decide +kernel
theorem dX9_takeAll_136 : decode cX9_takeAll 136 = .ok (.goto (-96), 3) := by decide +kernel
theorem dX9_takeAll_139 : decode cX9_takeAll 139 = .ok (.iconst 0, 1) := by decide +kernel
theorem dX9_takeAll_140 : decode cX9_takeAll 140 = .ok (.istore_n 1, 1) := by decide +kernel
theorem dX9_takeAll_141 : decode cX9_takeAll 141 = .ok (.iload_n 1, 1) := by decide +kernel
theorem dX9_takeAll_142 : decode cX9_takeAll 142 = .ok (.aload_n 0, 1) := by decide +kernel
theorem dX9_takeAll_143 : decode cX9_takeAll 143 = .ok (.getfield 79, 3) := by decide +kernel
theorem dX9_takeAll_146 : decode cX9_takeAll 146 = .ok (.if_icmp .ge 60, 3) := by decide +kernel
theorem dX9_takeAll_149 : decode cX9_takeAll 149 = .ok (.aload_n 0, 1) := by decide +kernel
theorem dX9_takeAll_150 : decode cX9_takeAll 150 = .ok (.getfield 19, 3) := by decide +kernel
theorem dX9_takeAll_153 : decode cX9_takeAll 153 = .ok (.iload_n 1, 1) := by decide +kernel
theorem dX9_takeAll_154 : decode cX9_takeAll 154 = .ok (.aload_n 0, 1) := by decide +kernel
theorem dX9_takeAll_155 : decode cX9_takeAll 155 = .ok (.getfield 47, 3) := by decide +kernel
theorem dX9_takeAll_158 : decode cX9_takeAll 158 = .ok (.bipush 24, 2) := by decide +kernel
theorem dX9_takeAll_160 : decode cX9_takeAll 160 = .ok (.iconst 3, 1) := by decide +kernel
theorem dX9_takeAll_161 : decode cX9_takeAll 161 = .ok (.iload_n 1, 1) := by decide +kernel
theorem dX9_takeAll_162 : decode cX9_takeAll 162 = .ok (.imul, 1) := by decide +kernel
theorem dX9_takeAll_163 : decode cX9_takeAll 163 = .ok (.iadd, 1) := by decide +kernel
theorem dX9_takeAll_164 : decode cX9_takeAll 164 = .ok (.iaload, 1) := by decide +kernel
theorem dX9_takeAll_165 : decode cX9_takeAll 165 = .ok (.iastore, 1) := by decide +kernel
theorem dX9_takeAll_166 : decode cX9_takeAll 166 = .ok (.aload_n 0, 1) := by decide +kernel
theorem dX9_takeAll_167 : decode cX9_takeAll 167 = .ok (.getfield 22, 3) := by decide +kernel
theorem dX9_takeAll_170 : decode cX9_takeAll 170 = .ok (.iload_n 1, 1) := by decide +kernel
theorem dX9_takeAll_171 : decode cX9_takeAll 171 = .ok (.aload_n 0, 1) := by decide +kernel
theorem dX9_takeAll_172 : decode cX9_takeAll 172 = .ok (.getfield 47, 3) := by decide +kernel
theorem dX9_takeAll_175 : decode cX9_takeAll 175 = .ok (.bipush 25, 2) := by decide +kernel
theorem dX9_takeAll_177 : decode cX9_takeAll 177 = .ok (.iconst 3, 1) := by decide +kernel
theorem dX9_takeAll_178 : decode cX9_takeAll 178 = .ok (.iload_n 1, 1) := by decide +kernel
theorem dX9_takeAll_179 : decode cX9_takeAll 179 = .ok (.imul, 1) := by decide +kernel
theorem dX9_takeAll_180 : decode cX9_takeAll 180 = .ok (.iadd, 1) := by decide +kernel
theorem dX9_takeAll_181 : decode cX9_takeAll 181 = .ok (.iaload, 1) := by decide +kernel
theorem dX9_takeAll_182 : decode cX9_takeAll 182 = .ok (.iastore, 1) := by decide +kernel
theorem dX9_takeAll_183 : decode cX9_takeAll 183 = .ok (.aload_n 0, 1) := by decide +kernel
theorem dX9_takeAll_184 : decode cX9_takeAll 184 = .ok (.getfield 25, 3) := by decide +kernel
theorem dX9_takeAll_187 : decode cX9_takeAll 187 = .ok (.iload_n 1, 1) := by decide +kernel
theorem dX9_takeAll_188 : decode cX9_takeAll 188 = .ok (.aload_n 0, 1) := by decide +kernel
theorem dX9_takeAll_189 : decode cX9_takeAll 189 = .ok (.getfield 47, 3) := by decide +kernel
theorem dX9_takeAll_192 : decode cX9_takeAll 192 = .ok (.bipush 26, 2) := by decide +kernel
theorem dX9_takeAll_194 : decode cX9_takeAll 194 = .ok (.iconst 3, 1) := by decide +kernel
theorem dX9_takeAll_195 : decode cX9_takeAll 195 = .ok (.iload_n 1, 1) := by decide +kernel
theorem dX9_takeAll_196 : decode cX9_takeAll 196 = .ok (.imul, 1) := by decide +kernel
theorem dX9_takeAll_197 : decode cX9_takeAll 197 = .ok (.iadd, 1) := by decide +kernel
theorem dX9_takeAll_198 : decode cX9_takeAll 198 = .ok (.iaload, 1) := by decide +kernel
theorem dX9_takeAll_199 : decode cX9_takeAll 199 = .ok (.iastore, 1) := by decide +kernel
theorem dX9_takeAll_200 : decode cX9_takeAll 200 = .ok (.iinc 1 1, 3) := by decide +kernel
theorem dX9_takeAll_203 : decode cX9_takeAll 203 = .ok (.goto (-62), 3) := by decide +kernel
theorem dX9_takeAll_206 : decode cX9_takeAll 206 = .ok (.aload_n 0, 1) := by decide +kernel
theorem dX9_takeAll_207 : decode cX9_takeAll 207 = .ok (.iconst 0, 1) := by decide +kernel
theorem dX9_takeAll_208 : decode cX9_takeAll 208 = .ok (.putfield 130, 3) := by decide +kernel
theorem dX9_takeAll_211 : decode cX9_takeAll 211 = .ok (.aload_n 0, 1) := by decide +kernel
theorem dX9_takeAll_212 : decode cX9_takeAll 212 = .ok (.getfield 34, 3) := by decide +kernel
theorem dX9_takeAll_215 : decode cX9_takeAll 215 = .ok (.iconst 0, 1) := by decide +kernel
theorem dX9_takeAll_216 : decode cX9_takeAll 216 = .ok (.iconst 0, 1) := by decide +kernel
theorem dX9_takeAll_217 : decode cX9_takeAll 217 = .ok (.bastore, 1) := by decide +kernel
theorem dX9_takeAll_218 : decode cX9_takeAll 218 = .ok (.aload_n 0, 1) := by decide +kernel
theorem dX9_takeAll_219 : decode cX9_takeAll 219 = .ok (.getfield 34, 3) := by decide +kernel
theorem dX9_takeAll_222 : decode cX9_takeAll 222 = .ok (.iconst 1, 1) := by decide +kernel
theorem dX9_takeAll_223 : decode cX9_takeAll 223 = .ok (.iconst 0, 1) := by decide +kernel
theorem dX9_takeAll_224 : decode cX9_takeAll 224 = .ok (.bastore, 1) := by decide +kernel
theorem dX9_takeAll_225 : decode cX9_takeAll 225 = .ok (.aload_n 0, 1) := by decide +kernel
theorem dX9_takeAll_226 : decode cX9_takeAll 226 = .ok (.iconst 0, 1) := by decide +kernel
theorem dX9_takeAll_227 : decode cX9_takeAll 227 = .ok (.putfield 84, 3) := by decide +kernel
theorem dX9_takeAll_230 : decode cX9_takeAll 230 = .ok (.return_, 1) := by decide +kernel
theorem dX9_hill_0 : decode cX9_hill 0 = .ok (.iconst 0, 1) := by decide +kernel
theorem dX9_hill_1 : decode cX9_hill 1 = .ok (.istore_n 1, 1) := by decide +kernel
theorem dX9_hill_2 : decode cX9_hill 2 = .ok (.aload_n 0, 1) := by decide +kernel
theorem dX9_hill_3 : decode cX9_hill 3 = .ok (.iconst 0, 1) := by decide +kernel
theorem dX9_hill_4 : decode cX9_hill 4 = .ok (.putfield 107, 3) := by decide +kernel
theorem dX9_hill_7 : decode cX9_hill 7 = .ok (.aload_n 0, 1) := by decide +kernel
theorem dX9_hill_8 : decode cX9_hill 8 = .ok (.iconst 0, 1) := by decide +kernel
theorem dX9_hill_9 : decode cX9_hill 9 = .ok (.putfield 113, 3) := by decide +kernel
theorem dX9_hill_12 : decode cX9_hill 12 = .ok (.aload_n 0, 1) := by decide +kernel
theorem dX9_hill_13 : decode cX9_hill 13 = .ok (.iconst 0, 1) := by decide +kernel
theorem dX9_hill_14 : decode cX9_hill 14 = .ok (.invokevirtual 103, 3) := by decide +kernel
theorem dX9_hill_17 : decode cX9_hill 17 = .ok (.aload_n 0, 1) := by decide +kernel
theorem dX9_hill_18 : decode cX9_hill 18 = .ok (.getfield 97, 3) := by decide +kernel
theorem dX9_hill_21 : decode cX9_hill 21 = .ok (.ifCond .eq 40, 3) := by decide +kernel
theorem dX9_hill_24 : decode cX9_hill 24 = .ok (.aload_n 0, 1) := by decide +kernel
theorem dX9_hill_25 : decode cX9_hill 25 = .ok (.invokevirtual 133, 3) := by decide +kernel
theorem dX9_hill_28 : decode cX9_hill 28 = .ok (.ifCond .eq 11, 3) := by decide +kernel
theorem dX9_hill_31 : decode cX9_hill 31 = .ok (.aload_n 0, 1) := by decide +kernel
theorem dX9_hill_32 : decode cX9_hill 32 = .ok (.getfield 97, 3) := by decide +kernel
theorem dX9_hill_35 : decode cX9_hill 35 = .ok (.iconst 3, 1) := by decide +kernel
theorem dX9_hill_36 : decode cX9_hill 36 = .ok (.if_icmp .eq 11, 3) := by decide +kernel
theorem dX9_hill_39 : decode cX9_hill 39 = .ok (.bipush (-10), 2) := by decide +kernel
theorem dX9_hill_41 : decode cX9_hill 41 = .ok (.aload_n 0, 1) := by decide +kernel
theorem dX9_hill_42 : decode cX9_hill 42 = .ok (.getfield 87, 3) := by decide +kernel
theorem dX9_hill_45 : decode cX9_hill 45 = .ok (.isub, 1) := by decide +kernel
theorem dX9_hill_46 : decode cX9_hill 46 = .ok (.ireturn, 1) := by decide +kernel
theorem dX9_hill_47 : decode cX9_hill 47 = .ok (.aload_n 0, 1) := by decide +kernel
theorem dX9_hill_48 : decode cX9_hill 48 = .ok (.aload_n 0, 1) := by decide +kernel
theorem dX9_hill_49 : decode cX9_hill 49 = .ok (.getfield 100, 3) := by decide +kernel
theorem dX9_hill_52 : decode cX9_hill 52 = .ok (.invokevirtual 103, 3) := by decide +kernel
theorem dX9_hill_55 : decode cX9_hill 55 = .ok (.iinc 1 1, 3) := by decide +kernel
theorem dX9_hill_58 : decode cX9_hill 58 = .ok (.goto (-41), 3) := by decide +kernel
theorem dX9_hill_61 : decode cX9_hill 61 = .ok (.aload_n 0, 1) := by decide +kernel
theorem dX9_hill_62 : decode cX9_hill 62 = .ok (.invokevirtual 136, 3) := by decide +kernel
theorem dX9_hill_65 : decode cX9_hill 65 = .ok (.iload_n 1, 1) := by decide +kernel
theorem dX9_hill_66 : decode cX9_hill 66 = .ok (.ireturn, 1) := by decide +kernel
theorem dX9_heat_0 : decode cX9_heat 0 = .ok (.aload_n 0, 1) := by decide +kernel
theorem dX9_heat_1 : decode cX9_heat 1 = .ok (.getfield 28, 3) := by decide +kernel
theorem dX9_heat_4 : decode cX9_heat 4 = .ok (.iconst 1, 1) := by decide +kernel
theorem dX9_heat_5 : decode cX9_heat 5 = .ok (.iload_n 1, 1) := by decide +kernel
theorem dX9_heat_6 : decode cX9_heat 6 = .ok (.iadd, 1) := by decide +kernel
theorem dX9_heat_7 : decode cX9_heat 7 = .ok (.iaload, 1) := by decide +kernel
theorem dX9_heat_8 : decode cX9_heat 8 = .ok (.ireturn, 1) := by decide +kernel
theorem dX9_whom_0 : decode cX9_whom 0 = .ok (.iconst 0, 1) := by decide +kernel
theorem dX9_whom_1 : decode cX9_whom 1 = .ok (.istore_n 2, 1) := by decide +kernel
theorem dX9_whom_2 : decode cX9_whom 2 = .ok (.iconst 0, 1) := by decide +kernel
theorem dX9_whom_3 : decode cX9_whom 3 = .ok (.istore_n 3, 1) := by decide +kernel
theorem dX9_whom_4 : decode cX9_whom 4 = .ok (.iload_n 3, 1) := by decide +kernel
theorem dX9_whom_5 : decode cX9_whom 5 = .ok (.aload_n 0, 1) := by decide +kernel
theorem dX9_whom_6 : decode cX9_whom 6 = .ok (.getfield 71, 3) := by decide +kernel
theorem dX9_whom_9 : decode cX9_whom 9 = .ok (.if_icmp .ge 32, 3) := by decide +kernel
theorem dX9_whom_12 : decode cX9_whom 12 = .ok (.iload_n 2, 1) := by decide +kernel
theorem dX9_whom_13 : decode cX9_whom 13 = .ok (.aload_n 0, 1) := by decide +kernel
theorem dX9_whom_14 : decode cX9_whom 14 = .ok (.getfield 28, 3) := by decide +kernel
theorem dX9_whom_17 : decode cX9_whom 17 = .ok (.bipush 7, 2) := by decide +kernel
theorem dX9_whom_19 : decode cX9_whom 19 = .ok (.iload_n 3, 1) := by decide +kernel
theorem dX9_whom_20 : decode cX9_whom 20 = .ok (.iadd, 1) := by decide +kernel
theorem dX9_whom_21 : decode cX9_whom 21 = .ok (.iaload, 1) := by decide +kernel
theorem dX9_whom_22 : decode cX9_whom 22 = .ok (.iload_n 1, 1) := by decide +kernel
theorem dX9_whom_23 : decode cX9_whom 23 = .ok (.if_icmp .ne 9, 3) := by decide +kernel
theorem dX9_whom_26 : decode cX9_whom 26 = .ok (.iconst 1, 1) := by decide +kernel
theorem dX9_whom_27 : decode cX9_whom 27 = .ok (.iload_n 3, 1) := by decide +kernel
theorem dX9_whom_28 : decode cX9_whom 28 = .ok (.ishl, 1) := by decide +kernel
theorem dX9_whom_29 : decode cX9_whom 29 = .ok (.goto 4, 3) := by decide +kernel
theorem dX9_whom_32 : decode cX9_whom 32 = .ok (.iconst 0, 1) := by decide +kernel
theorem dX9_whom_33 : decode cX9_whom 33 = .ok (.ior, 1) := by decide +kernel
theorem dX9_whom_34 : decode cX9_whom 34 = .ok (.istore_n 2, 1) := by decide +kernel
theorem dX9_whom_35 : decode cX9_whom 35 = .ok (.iinc 3 1, 3) := by decide +kernel
theorem dX9_whom_38 : decode cX9_whom 38 = .ok (.goto (-34), 3) := by decide +kernel
theorem dX9_whom_41 : decode cX9_whom 41 = .ok (.iload_n 2, 1) := by decide +kernel
theorem dX9_whom_42 : decode cX9_whom 42 = .ok (.ireturn, 1) := by decide +kernel
theorem dX9_maySend_0 : decode cX9_maySend 0 = .ok (.aload_n 0, 1) := by decide +kernel
theorem dX9_maySend_1 : decode cX9_maySend 1 = .ok (.iload_n 2, 1) := by decide +kernel
theorem dX9_maySend_2 : decode cX9_maySend 2 = .ok (.invokevirtual 139, 3) := by decide +kernel
theorem dX9_maySend_5 : decode cX9_maySend 5 = .ok (.iconst 1, 1) := by decide +kernel
theorem dX9_maySend_6 : decode cX9_maySend 6 = .ok (.iload_n 1, 1) := by decide +kernel
theorem dX9_maySend_7 : decode cX9_maySend 7 = .ok (.ishl, 1) := by decide +kernel
theorem dX9_maySend_8 : decode cX9_maySend 8 = .ok (.iconst (-1), 1) := by decide +kernel
theorem dX9_maySend_9 : decode cX9_maySend 9 = .ok (.ixor, 1) := by decide +kernel
theorem dX9_maySend_10 : decode cX9_maySend 10 = .ok (.iand, 1) := by decide +kernel
theorem dX9_maySend_11 : decode cX9_maySend 11 = .ok (.istore_n 3, 1) := by decide +kernel
theorem dX9_maySend_12 : decode cX9_maySend 12 = .ok (.aload_n 0, 1) := by decide +kernel
theorem dX9_maySend_13 : decode cX9_maySend 13 = .ok (.iload_n 1, 1) := by decide +kernel
theorem dX9_maySend_14 : decode cX9_maySend 14 = .ok (.invokevirtual 143, 3) := by decide +kernel
theorem dX9_maySend_17 : decode cX9_maySend 17 = .ok (.aload_n 0, 1) := by decide +kernel
theorem dX9_maySend_18 : decode cX9_maySend 18 = .ok (.getfield 25, 3) := by decide +kernel
theorem dX9_maySend_21 : decode cX9_maySend 21 = .ok (.iload_n 2, 1) := by decide +kernel
theorem dX9_maySend_22 : decode cX9_maySend 22 = .ok (.iaload, 1) := by decide +kernel
theorem dX9_maySend_23 : decode cX9_maySend 23 = .ok (.if_icmp .gt 31, 3) := by decide +kernel
theorem dX9_maySend_26 : decode cX9_maySend 26 = .ok (.iload_n 3, 1) := by decide +kernel
theorem dX9_maySend_27 : decode cX9_maySend 27 = .ok (.invokestatic 146, 3) := by decide +kernel
theorem dX9_maySend_30 : decode cX9_maySend 30 = .ok (.aload_n 0, 1) := by decide +kernel
theorem dX9_maySend_31 : decode cX9_maySend 31 = .ok (.getfield 22, 3) := by decide +kernel
theorem dX9_maySend_34 : decode cX9_maySend 34 = .ok (.iload_n 2, 1) := by decide +kernel
theorem dX9_maySend_35 : decode cX9_maySend 35 = .ok (.iaload, 1) := by decide +kernel
theorem dX9_maySend_36 : decode cX9_maySend 36 = .ok (.if_icmp .ge 18, 3) := by decide +kernel
theorem dX9_maySend_39 : decode cX9_maySend 39 = .ok (.iload_n 3, 1) := by decide +kernel
theorem dX9_maySend_40 : decode cX9_maySend 40 = .ok (.aload_n 0, 1) := by decide +kernel
theorem dX9_maySend_41 : decode cX9_maySend 41 = .ok (.getfield 16, 3) := by decide +kernel
theorem dX9_maySend_44 : decode cX9_maySend 44 = .ok (.iload_n 1, 1) := by decide +kernel
theorem dX9_maySend_45 : decode cX9_maySend 45 = .ok (.iaload, 1) := by decide +kernel
theorem dX9_maySend_46 : decode cX9_maySend 46 = .ok (.iand, 1) := by decide +kernel
theorem dX9_maySend_47 : decode cX9_maySend 47 = .ok (.ifCond .ne 7, 3) := by decide +kernel
theorem dX9_maySend_50 : decode cX9_maySend 50 = .ok (.iconst 1, 1) := by decide +kernel
theorem dX9_maySend_51 : decode cX9_maySend 51 = .ok (.goto 4, 3) := by decide +kernel
theorem dX9_maySend_54 : decode cX9_maySend 54 = .ok (.iconst 0, 1) := by decide +kernel
theorem dX9_maySend_55 : decode cX9_maySend 55 = .ok (.ireturn, 1) := by decide +kernel
theorem dX9_ring_0 : decode cX9_ring 0 = .ok (.iconst 1, 1) := by decide +kernel
theorem dX9_ring_1 : decode cX9_ring 1 = .ok (.istore_n 2, 1) := by decide +kernel
theorem dX9_ring_2 : decode cX9_ring 2 = .ok (.aload_n 0, 1) := by decide +kernel
theorem dX9_ring_3 : decode cX9_ring 3 = .ok (.getfield 28, 3) := by decide +kernel
theorem dX9_ring_6 : decode cX9_ring 6 = .ok (.bipush 13, 2) := by decide +kernel
theorem dX9_ring_8 : decode cX9_ring 8 = .ok (.iload_n 1, 1) := by decide +kernel
theorem dX9_ring_9 : decode cX9_ring 9 = .ok (.iadd, 1) := by decide +kernel
theorem dX9_ring_10 : decode cX9_ring 10 = .ok (.iaload, 1) := by decide +kernel
theorem dX9_ring_11 : decode cX9_ring 11 = .ok (.istore_n 3, 1) := by decide +kernel
theorem dX9_ring_12 : decode cX9_ring 12 = .ok (.iload_n 3, 1) := by decide +kernel
theorem dX9_ring_13 : decode cX9_ring 13 = .ok (.iload_n 1, 1) := by decide +kernel
theorem dX9_ring_14 : decode cX9_ring 14 = .ok (.if_icmp .eq 19, 3) := by decide +kernel
theorem dX9_ring_17 : decode cX9_ring 17 = .ok (.aload_n 0, 1) := by decide +kernel
theorem dX9_ring_18 : decode cX9_ring 18 = .ok (.getfield 28, 3) := by decide +kernel
theorem dX9_ring_21 : decode cX9_ring 21 = .ok (.bipush 13, 2) := by decide +kernel
theorem dX9_ring_23 : decode cX9_ring 23 = .ok (.iload_n 3, 1) := by decide +kernel
theorem dX9_ring_24 : decode cX9_ring 24 = .ok (.iadd, 1) := by decide +kernel
theorem dX9_ring_25 : decode cX9_ring 25 = .ok (.iaload, 1) := by decide +kernel
theorem dX9_ring_26 : decode cX9_ring 26 = .ok (.istore_n 3, 1) := by decide +kernel
theorem dX9_ring_27 : decode cX9_ring 27 = .ok (.iinc 2 1, 3) := by decide +kernel
theorem dX9_ring_30 : decode cX9_ring 30 = .ok (.goto (-18), 3) := by decide +kernel
theorem dX9_ring_33 : decode cX9_ring 33 = .ok (.iload_n 2, 1) := by decide +kernel
theorem dX9_ring_34 : decode cX9_ring 34 = .ok (.ireturn, 1) := by decide +kernel
theorem dX9_temper_0 : decode cX9_temper 0 = .ok (.aload_n 0, 1) := by decide +kernel
theorem dX9_temper_1 : decode cX9_temper 1 = .ok (.iload_n 1, 1) := by decide +kernel
theorem dX9_temper_2 : decode cX9_temper 2 = .ok (.invokevirtual 149, 3) := by decide +kernel
theorem dX9_temper_5 : decode cX9_temper 5 = .ok (.ifCond .eq 15, 3) := by decide +kernel
theorem dX9_temper_8 : decode cX9_temper 8 = .ok (.iload_n 2, 1) := by decide +kernel
theorem dX9_temper_9 : decode cX9_temper 9 = .ok (.i2l, 1) := by decide +kernel
theorem dX9_temper_10 : decode cX9_temper 10 = .ok (.lconst 0, 1) := by decide +kernel
theorem dX9_temper_11 : decode cX9_temper 11 = .ok (.ldc2_w 152, 3) := by decide +kernel
theorem dX9_temper_14 : decode cX9_temper 14 = .ok (.invokestatic 75, 3) := by decide +kernel
theorem dX9_temper_17 : decode cX9_temper 17 = .ok (.ifCond .ne 5, 3) := by decide +kernel
theorem dX9_temper_20 : decode cX9_temper 20 = .ok (.iconst (-1), 1) := by decide +kernel
theorem dX9_temper_21 : decode cX9_temper 21 = .ok (.ireturn, 1) := by decide +kernel
theorem dX9_temper_22 : decode cX9_temper 22 = .ok (.iload_n 2, 1) := by decide +kernel
theorem dX9_temper_23 : decode cX9_temper 23 = .ok (.tableswitch 84 0 5 #[37, 43, 50, 57, 67, 77], 37) := by decide +kernel
theorem dX9_temper_60 : decode cX9_temper 60 = .ok (.aload_n 0, 1) := by decide +kernel
theorem dX9_temper_61 : decode cX9_temper 61 = .ok (.iload_n 1, 1) := by decide +kernel
theorem dX9_temper_62 : decode cX9_temper 62 = .ok (.invokevirtual 143, 3) := by decide +kernel
theorem dX9_temper_65 : decode cX9_temper 65 = .ok (.ireturn, 1) := by decide +kernel
theorem dX9_temper_66 : decode cX9_temper 66 = .ok (.aload_n 0, 1) := by decide +kernel
theorem dX9_temper_67 : decode cX9_temper 67 = .ok (.getfield 7, 3) := by decide +kernel
theorem dX9_temper_70 : decode cX9_temper 70 = .ok (.iload_n 1, 1) := by decide +kernel
theorem dX9_temper_71 : decode cX9_temper 71 = .ok (.iaload, 1) := by decide +kernel
theorem dX9_temper_72 : decode cX9_temper 72 = .ok (.ireturn, 1) := by decide +kernel
theorem dX9_temper_73 : decode cX9_temper 73 = .ok (.aload_n 0, 1) := by decide +kernel
theorem dX9_temper_74 : decode cX9_temper 74 = .ok (.getfield 13, 3) := by decide +kernel
theorem dX9_temper_77 : decode cX9_temper 77 = .ok (.iload_n 1, 1) := by decide +kernel
theorem dX9_temper_78 : decode cX9_temper 78 = .ok (.iaload, 1) := by decide +kernel
theorem dX9_temper_79 : decode cX9_temper 79 = .ok (.ireturn, 1) := by decide +kernel
theorem dX9_temper_80 : decode cX9_temper 80 = .ok (.aload_n 0, 1) := by decide +kernel
theorem dX9_temper_81 : decode cX9_temper 81 = .ok (.getfield 28, 3) := by decide +kernel
theorem dX9_temper_84 : decode cX9_temper 84 = .ok (.bipush 7, 2) := by decide +kernel
theorem dX9_temper_86 : decode cX9_temper 86 = .ok (.iload_n 1, 1) := by decide +kernel
theorem dX9_temper_87 : decode cX9_temper 87 = .ok (.iadd, 1) := by decide +kernel
theorem dX9_temper_88 : decode cX9_temper 88 = .ok (.iaload, 1) := by decide +kernel
theorem dX9_temper_89 : decode cX9_temper 89 = .ok (.ireturn, 1) := by decide +kernel
theorem dX9_temper_90 : decode cX9_temper 90 = .ok (.aload_n 0, 1) := by decide +kernel
theorem dX9_temper_91 : decode cX9_temper 91 = .ok (.getfield 28, 3) := by decide +kernel
theorem dX9_temper_94 : decode cX9_temper 94 = .ok (.bipush 13, 2) := by decide +kernel
theorem dX9_temper_96 : decode cX9_temper 96 = .ok (.iload_n 1, 1) := by decide +kernel
theorem dX9_temper_97 : decode cX9_temper 97 = .ok (.iadd, 1) := by decide +kernel
theorem dX9_temper_98 : decode cX9_temper 98 = .ok (.iaload, 1) := by decide +kernel
theorem dX9_temper_99 : decode cX9_temper 99 = .ok (.ireturn, 1) := by decide +kernel
theorem dX9_temper_100 : decode cX9_temper 100 = .ok (.aload_n 0, 1) := by decide +kernel
theorem dX9_temper_101 : decode cX9_temper 101 = .ok (.getfield 16, 3) := by decide +kernel
theorem dX9_temper_104 : decode cX9_temper 104 = .ok (.iload_n 1, 1) := by decide +kernel
theorem dX9_temper_105 : decode cX9_temper 105 = .ok (.iaload, 1) := by decide +kernel
theorem dX9_temper_106 : decode cX9_temper 106 = .ok (.ireturn, 1) := by decide +kernel
theorem dX9_temper_107 : decode cX9_temper 107 = .ok (.aload_n 0, 1) := by decide +kernel
theorem dX9_temper_108 : decode cX9_temper 108 = .ok (.iload_n 1, 1) := by decide +kernel
theorem dX9_temper_109 : decode cX9_temper 109 = .ok (.invokevirtual 154, 3) := by decide +kernel
theorem dX9_temper_112 : decode cX9_temper 112 = .ok (.ireturn, 1) := by decide +kernel
theorem dX9_nurse_0 : decode cX9_nurse 0 = .ok (.aload_n 0, 1) := by decide +kernel
theorem dX9_nurse_1 : decode cX9_nurse 1 = .ok (.iload_n 1, 1) := by decide +kernel
theorem dX9_nurse_2 : decode cX9_nurse 2 = .ok (.invokevirtual 157, 3) := by decide +kernel
theorem dX9_nurse_5 : decode cX9_nurse 5 = .ok (.ifCond .eq 15, 3) := by decide +kernel
theorem dX9_nurse_8 : decode cX9_nurse 8 = .ok (.iload_n 2, 1) := by decide +kernel
theorem dX9_nurse_9 : decode cX9_nurse 9 = .ok (.i2l, 1) := by decide +kernel
theorem dX9_nurse_10 : decode cX9_nurse 10 = .ok (.lconst 0, 1) := by decide +kernel
theorem dX9_nurse_11 : decode cX9_nurse 11 = .ok (.ldc2_w 160, 3) := by decide +kernel
theorem dX9_nurse_14 : decode cX9_nurse 14 = .ok (.invokestatic 75, 3) := by decide +kernel
theorem dX9_nurse_17 : decode cX9_nurse 17 = .ok (.ifCond .ne 5, 3) := by decide +kernel
theorem dX9_nurse_20 : decode cX9_nurse 20 = .ok (.iconst (-1), 1) := by decide +kernel
theorem dX9_nurse_21 : decode cX9_nurse 21 = .ok (.ireturn, 1) := by decide +kernel
theorem dX9_nurse_22 : decode cX9_nurse 22 = .ok (.iconst 0, 1) := by decide +kernel
theorem dX9_nurse_23 : decode cX9_nurse 23 = .ok (.istore_n 3, 1) := by decide +kernel
theorem dX9_nurse_24 : decode cX9_nurse 24 = .ok (.iconst 0, 1) := by decide +kernel
theorem dX9_nurse_25 : decode cX9_nurse 25 = .ok (.istore 4, 2) := by decide +kernel
theorem dX9_nurse_27 : decode cX9_nurse 27 = .ok (.iload 4, 2) := by decide +kernel
theorem dX9_nurse_29 : decode cX9_nurse 29 = .ok (.aload_n 0, 1) := by decide +kernel
theorem dX9_nurse_30 : decode cX9_nurse 30 = .ok (.getfield 71, 3) := by decide +kernel
theorem dX9_nurse_33 : decode cX9_nurse 33 = .ok (.if_icmp .ge 44, 3) := by decide +kernel
theorem dX9_nurse_36 : decode cX9_nurse 36 = .ok (.iload_n 3, 1) := by decide +kernel
theorem dX9_nurse_37 : decode cX9_nurse 37 = .ok (.aload_n 0, 1) := by decide +kernel
theorem dX9_nurse_38 : decode cX9_nurse 38 = .ok (.getfield 28, 3) := by decide +kernel
theorem dX9_nurse_41 : decode cX9_nurse 41 = .ok (.bipush 7, 2) := by decide +kernel
theorem dX9_nurse_43 : decode cX9_nurse 43 = .ok (.iload 4, 2) := by decide +kernel
theorem dX9_nurse_45 : decode cX9_nurse 45 = .ok (.iadd, 1) := by decide +kernel
theorem dX9_nurse_46 : decode cX9_nurse 46 = .ok (.iaload, 1) := by decide +kernel
theorem dX9_nurse_47 : decode cX9_nurse 47 = .ok (.iload_n 1, 1) := by decide +kernel
theorem dX9_nurse_48 : decode cX9_nurse 48 = .ok (.if_icmp .eq 20, 3) := by decide +kernel
theorem dX9_nurse_51 : decode cX9_nurse 51 = .ok (.aload_n 0, 1) := by decide +kernel
theorem dX9_nurse_52 : decode cX9_nurse 52 = .ok (.iload 4, 2) := by decide +kernel
theorem dX9_nurse_54 : decode cX9_nurse 54 = .ok (.iload_n 1, 1) := by decide +kernel
theorem dX9_nurse_55 : decode cX9_nurse 55 = .ok (.invokevirtual 162, 3) := by decide +kernel
theorem dX9_nurse_58 : decode cX9_nurse 58 = .ok (.ifCond .eq 10, 3) := by decide +kernel
theorem dX9_nurse_61 : decode cX9_nurse 61 = .ok (.iconst 1, 1) := by decide +kernel
theorem dX9_nurse_62 : decode cX9_nurse 62 = .ok (.iload 4, 2) := by decide +kernel
theorem dX9_nurse_64 : decode cX9_nurse 64 = .ok (.ishl, 1) := by decide +kernel
theorem dX9_nurse_65 : decode cX9_nurse 65 = .ok (.goto 4, 3) := by decide +kernel
theorem dX9_nurse_68 : decode cX9_nurse 68 = .ok (.iconst 0, 1) := by decide +kernel
theorem dX9_nurse_69 : decode cX9_nurse 69 = .ok (.ior, 1) := by decide +kernel
theorem dX9_nurse_70 : decode cX9_nurse 70 = .ok (.istore_n 3, 1) := by decide +kernel
theorem dX9_nurse_71 : decode cX9_nurse 71 = .ok (.iinc 4 1, 3) := by decide +kernel
theorem dX9_nurse_74 : decode cX9_nurse 74 = .ok (.goto (-47), 3) := by decide +kernel
theorem dX9_nurse_77 : decode cX9_nurse 77 = .ok (.iload_n 2, 1) := by decide +kernel
theorem dX9_nurse_78 : decode cX9_nurse 78 = .ok (.tableswitch 57 0 3 #[30, 37, 44, 51], 30) := by decide +kernel
theorem dX9_nurse_108 : decode cX9_nurse 108 = .ok (.aload_n 0, 1) := by decide +kernel
theorem dX9_nurse_109 : decode cX9_nurse 109 = .ok (.getfield 19, 3) := by decide +kernel
theorem dX9_nurse_112 : decode cX9_nurse 112 = .ok (.iload_n 1, 1) := by decide +kernel
theorem dX9_nurse_113 : decode cX9_nurse 113 = .ok (.iaload, 1) := by decide +kernel
theorem dX9_nurse_114 : decode cX9_nurse 114 = .ok (.ireturn, 1) := by decide +kernel
theorem dX9_nurse_115 : decode cX9_nurse 115 = .ok (.aload_n 0, 1) := by decide +kernel
theorem dX9_nurse_116 : decode cX9_nurse 116 = .ok (.getfield 22, 3) := by decide +kernel
theorem dX9_nurse_119 : decode cX9_nurse 119 = .ok (.iload_n 1, 1) := by decide +kernel
theorem dX9_nurse_120 : decode cX9_nurse 120 = .ok (.iaload, 1) := by decide +kernel
theorem dX9_nurse_121 : decode cX9_nurse 121 = .ok (.ireturn, 1) := by decide +kernel
theorem dX9_nurse_122 : decode cX9_nurse 122 = .ok (.aload_n 0, 1) := by decide +kernel
theorem dX9_nurse_123 : decode cX9_nurse 123 = .ok (.getfield 25, 3) := by decide +kernel
theorem dX9_nurse_126 : decode cX9_nurse 126 = .ok (.iload_n 1, 1) := by decide +kernel
theorem dX9_nurse_127 : decode cX9_nurse 127 = .ok (.iaload, 1) := by decide +kernel
theorem dX9_nurse_128 : decode cX9_nurse 128 = .ok (.ireturn, 1) := by decide +kernel
theorem dX9_nurse_129 : decode cX9_nurse 129 = .ok (.aload_n 0, 1) := by decide +kernel
theorem dX9_nurse_130 : decode cX9_nurse 130 = .ok (.iload_n 1, 1) := by decide +kernel
theorem dX9_nurse_131 : decode cX9_nurse 131 = .ok (.invokevirtual 139, 3) := by decide +kernel
theorem dX9_nurse_134 : decode cX9_nurse 134 = .ok (.ireturn, 1) := by decide +kernel
theorem dX9_nurse_135 : decode cX9_nurse 135 = .ok (.iload_n 3, 1) := by decide +kernel
theorem dX9_nurse_136 : decode cX9_nurse 136 = .ok (.ireturn, 1) := by decide +kernel
theorem dX9_save_0 : decode cX9_save 0 = .ok (.aload_n 0, 1) := by decide +kernel
theorem dX9_save_1 : decode cX9_save 1 = .ok (.getfield 28, 3) := by decide +kernel
theorem dX9_save_4 : decode cX9_save 4 = .ok (.bipush 19, 2) := by decide +kernel
theorem dX9_save_6 : decode cX9_save 6 = .ok (.iaload, 1) := by decide +kernel
theorem dX9_save_7 : decode cX9_save 7 = .ok (.bipush 10, 2) := by decide +kernel
theorem dX9_save_9 : decode cX9_save 9 = .ok (.if_icmp .ne 45, 3) := by decide +kernel
theorem dX9_save_12 : decode cX9_save 12 = .ok (.iconst 0, 1) := by decide +kernel
theorem dX9_save_13 : decode cX9_save 13 = .ok (.istore_n 1, 1) := by decide +kernel
theorem dX9_save_14 : decode cX9_save 14 = .ok (.iload_n 1, 1) := by decide +kernel
theorem dX9_save_15 : decode cX9_save 15 = .ok (.sipush 171, 3) := by decide +kernel
theorem dX9_save_18 : decode cX9_save 18 = .ok (.if_icmp .ge 27, 3) := by decide +kernel
theorem dX9_save_21 : decode cX9_save 21 = .ok (.aload_n 0, 1) := by decide +kernel
theorem dX9_save_22 : decode cX9_save 22 = .ok (.getfield 28, 3) := by decide +kernel
theorem dX9_save_25 : decode cX9_save 25 = .ok (.bipush 20, 2) := by decide +kernel
theorem dX9_save_27 : decode cX9_save 27 = .ok (.iload_n 1, 1) := by decide +kernel
theorem dX9_save_28 : decode cX9_save 28 = .ok (.iadd, 1) := by decide +kernel
theorem dX9_save_29 : decode cX9_save 29 = .ok (.aload_n 0, 1) := by decide +kernel
theorem dX9_save_30 : decode cX9_save 30 = .ok (.getfield 28, 3) := by decide +kernel
theorem dX9_save_33 : decode cX9_save 33 = .ok (.bipush 39, 2) := by decide +kernel
theorem dX9_save_35 : decode cX9_save 35 = .ok (.iload_n 1, 1) := by decide +kernel
theorem dX9_save_36 : decode cX9_save 36 = .ok (.iadd, 1) := by decide +kernel
theorem dX9_save_37 : decode cX9_save 37 = .ok (.iaload, 1) := by decide +kernel
theorem dX9_save_38 : decode cX9_save 38 = .ok (.iastore, 1) := by decide +kernel
theorem dX9_save_39 : decode cX9_save 39 = .ok (.iinc 1 1, 3) := by decide +kernel
theorem dX9_save_42 : decode cX9_save 42 = .ok (.goto (-28), 3) := by decide +kernel
theorem dX9_save_45 : decode cX9_save 45 = .ok (.aload_n 0, 1) := by decide +kernel
theorem dX9_save_46 : decode cX9_save 46 = .ok (.getfield 28, 3) := by decide +kernel
theorem dX9_save_49 : decode cX9_save 49 = .ok (.bipush 19, 2) := by decide +kernel
theorem dX9_save_51 : decode cX9_save 51 = .ok (.bipush 9, 2) := by decide +kernel
theorem dX9_save_53 : decode cX9_save 53 = .ok (.iastore, 1) := by decide +kernel
theorem dX9_save_54 : decode cX9_save 54 = .ok (.iconst 0, 1) := by decide +kernel
theorem dX9_save_55 : decode cX9_save 55 = .ok (.istore_n 1, 1) := by decide +kernel
theorem dX9_save_56 : decode cX9_save 56 = .ok (.iload_n 1, 1) := by decide +kernel
theorem dX9_save_57 : decode cX9_save 57 = .ok (.bipush 19, 2) := by decide +kernel
theorem dX9_save_59 : decode cX9_save 59 = .ok (.if_icmp .ge 35, 3) := by decide +kernel
theorem dX9_save_62 : decode cX9_save 62 = .ok (.aload_n 0, 1) := by decide +kernel
theorem dX9_save_63 : decode cX9_save 63 = .ok (.getfield 28, 3) := by decide +kernel
theorem dX9_save_66 : decode cX9_save 66 = .ok (.bipush 20, 2) := by decide +kernel
theorem dX9_save_68 : decode cX9_save 68 = .ok (.bipush 19, 2) := by decide +kernel
theorem dX9_save_70 : decode cX9_save 70 = .ok (.aload_n 0, 1) := by decide +kernel
theorem dX9_save_71 : decode cX9_save 71 = .ok (.getfield 28, 3) := by decide +kernel
theorem dX9_save_74 : decode cX9_save 74 = .ok (.bipush 19, 2) := by decide +kernel
theorem dX9_save_76 : decode cX9_save 76 = .ok (.iaload, 1) := by decide +kernel
theorem dX9_save_77 : decode cX9_save 77 = .ok (.imul, 1) := by decide +kernel
theorem dX9_save_78 : decode cX9_save 78 = .ok (.iadd, 1) := by decide +kernel
theorem dX9_save_79 : decode cX9_save 79 = .ok (.iload_n 1, 1) := by decide +kernel
theorem dX9_save_80 : decode cX9_save 80 = .ok (.iadd, 1) := by decide +kernel
theorem dX9_save_81 : decode cX9_save 81 = .ok (.aload_n 0, 1) := by decide +kernel
theorem dX9_save_82 : decode cX9_save 82 = .ok (.getfield 28, 3) := by decide +kernel
theorem dX9_save_85 : decode cX9_save 85 = .ok (.iload_n 1, 1) := by decide +kernel
theorem dX9_save_86 : decode cX9_save 86 = .ok (.iaload, 1) := by decide +kernel
theorem dX9_save_87 : decode cX9_save 87 = .ok (.iastore, 1) := by decide +kernel
theorem dX9_save_88 : decode cX9_save 88 = .ok (.iinc 1 1, 3) := by decide +kernel
theorem dX9_save_91 : decode cX9_save 91 = .ok (.goto (-35), 3) := by decide +kernel
theorem dX9_save_94 : decode cX9_save 94 = .ok (.aload_n 0, 1) := by decide +kernel
theorem dX9_save_95 : decode cX9_save 95 = .ok (.getfield 28, 3) := by decide +kernel
theorem dX9_save_98 : decode cX9_save 98 = .ok (.bipush 19, 2) := by decide +kernel
theorem dX9_save_100 : decode cX9_save 100 = .ok (.dup2, 1) := by decide +kernel
theorem dX9_save_101 : decode cX9_save 101 = .ok (.iaload, 1) := by decide +kernel
theorem dX9_save_102 : decode cX9_save 102 = .ok (.iconst 1, 1) := by decide +kernel
theorem dX9_save_103 : decode cX9_save 103 = .ok (.iadd, 1) := by decide +kernel
theorem dX9_save_104 : decode cX9_save 104 = .ok (.iastore, 1) := by decide +kernel
theorem dX9_save_105 : decode cX9_save 105 = .ok (.return_, 1) := by decide +kernel
theorem dX9_sends_0 : decode cX9_sends 0 = .ok (.aload_n 0, 1) := by decide +kernel
theorem dX9_sends_1 : decode cX9_sends 1 = .ok (.iload_n 1, 1) := by decide +kernel
theorem dX9_sends_2 : decode cX9_sends 2 = .ok (.invokevirtual 149, 3) := by decide +kernel
theorem dX9_sends_5 : decode cX9_sends 5 = .ok (.ifCond .eq 11, 3) := by decide +kernel
theorem dX9_sends_8 : decode cX9_sends 8 = .ok (.aload_n 0, 1) := by decide +kernel
theorem dX9_sends_9 : decode cX9_sends 9 = .ok (.iload_n 2, 1) := by decide +kernel
theorem dX9_sends_10 : decode cX9_sends 10 = .ok (.invokevirtual 157, 3) := by decide +kernel
theorem dX9_sends_13 : decode cX9_sends 13 = .ok (.ifCond .ne 5, 3) := by decide +kernel
theorem dX9_sends_16 : decode cX9_sends 16 = .ok (.iconst (-1), 1) := by decide +kernel
theorem dX9_sends_17 : decode cX9_sends 17 = .ok (.ireturn, 1) := by decide +kernel
theorem dX9_sends_18 : decode cX9_sends 18 = .ok (.aload_n 0, 1) := by decide +kernel
theorem dX9_sends_19 : decode cX9_sends 19 = .ok (.getfield 28, 3) := by decide +kernel
theorem dX9_sends_22 : decode cX9_sends 22 = .ok (.bipush 7, 2) := by decide +kernel
theorem dX9_sends_24 : decode cX9_sends 24 = .ok (.iload_n 1, 1) := by decide +kernel
theorem dX9_sends_25 : decode cX9_sends 25 = .ok (.iadd, 1) := by decide +kernel
theorem dX9_sends_26 : decode cX9_sends 26 = .ok (.iaload, 1) := by decide +kernel
theorem dX9_sends_27 : decode cX9_sends 27 = .ok (.iload_n 2, 1) := by decide +kernel
theorem dX9_sends_28 : decode cX9_sends 28 = .ok (.if_icmp .eq 12, 3) := by decide +kernel
theorem dX9_sends_31 : decode cX9_sends 31 = .ok (.aload_n 0, 1) := by decide +kernel
theorem dX9_sends_32 : decode cX9_sends 32 = .ok (.iload_n 1, 1) := by decide +kernel
theorem dX9_sends_33 : decode cX9_sends 33 = .ok (.iload_n 2, 1) := by decide +kernel
theorem dX9_sends_34 : decode cX9_sends 34 = .ok (.invokevirtual 162, 3) := by decide +kernel
theorem dX9_sends_37 : decode cX9_sends 37 = .ok (.ifCond .ne 6, 3) := by decide +kernel
theorem dX9_sends_40 : decode cX9_sends 40 = .ok (.bipush (-2), 2) := by decide +kernel
theorem dX9_sends_42 : decode cX9_sends 42 = .ok (.ireturn, 1) := by decide +kernel
theorem dX9_sends_43 : decode cX9_sends 43 = .ok (.aload_n 0, 1) := by decide +kernel
theorem dX9_sends_44 : decode cX9_sends 44 = .ok (.invokevirtual 166, 3) := by decide +kernel
theorem dX9_sends_47 : decode cX9_sends 47 = .ok (.aload_n 0, 1) := by decide +kernel
theorem dX9_sends_48 : decode cX9_sends 48 = .ok (.getfield 28, 3) := by decide +kernel
theorem dX9_sends_51 : decode cX9_sends 51 = .ok (.bipush 7, 2) := by decide +kernel
theorem dX9_sends_53 : decode cX9_sends 53 = .ok (.iload_n 1, 1) := by decide +kernel
theorem dX9_sends_54 : decode cX9_sends 54 = .ok (.iadd, 1) := by decide +kernel
theorem dX9_sends_55 : decode cX9_sends 55 = .ok (.iload_n 2, 1) := by decide +kernel
theorem dX9_sends_56 : decode cX9_sends 56 = .ok (.iastore, 1) := by decide +kernel
theorem dX9_sends_57 : decode cX9_sends 57 = .ok (.aload_n 0, 1) := by decide +kernel
theorem dX9_sends_58 : decode cX9_sends 58 = .ok (.iload_n 2, 1) := by decide +kernel
theorem dX9_sends_59 : decode cX9_sends 59 = .ok (.invokevirtual 139, 3) := by decide +kernel
theorem dX9_sends_62 : decode cX9_sends 62 = .ok (.invokestatic 146, 3) := by decide +kernel
theorem dX9_sends_65 : decode cX9_sends 65 = .ok (.ireturn, 1) := by decide +kernel
theorem dX9_fetches_0 : decode cX9_fetches 0 = .ok (.aload_n 0, 1) := by decide +kernel
theorem dX9_fetches_1 : decode cX9_fetches 1 = .ok (.iload_n 1, 1) := by decide +kernel
theorem dX9_fetches_2 : decode cX9_fetches 2 = .ok (.invokevirtual 149, 3) := by decide +kernel
theorem dX9_fetches_5 : decode cX9_fetches 5 = .ok (.ifCond .ne 5, 3) := by decide +kernel
theorem dX9_fetches_8 : decode cX9_fetches 8 = .ok (.iconst (-1), 1) := by decide +kernel
theorem dX9_fetches_9 : decode cX9_fetches 9 = .ok (.ireturn, 1) := by decide +kernel
theorem dX9_fetches_10 : decode cX9_fetches 10 = .ok (.aload_n 0, 1) := by decide +kernel
theorem dX9_fetches_11 : decode cX9_fetches 11 = .ok (.getfield 28, 3) := by decide +kernel
theorem dX9_fetches_14 : decode cX9_fetches 14 = .ok (.bipush 7, 2) := by decide +kernel
theorem dX9_fetches_16 : decode cX9_fetches 16 = .ok (.iload_n 1, 1) := by decide +kernel
theorem dX9_fetches_17 : decode cX9_fetches 17 = .ok (.iadd, 1) := by decide +kernel
theorem dX9_fetches_18 : decode cX9_fetches 18 = .ok (.iaload, 1) := by decide +kernel
theorem dX9_fetches_19 : decode cX9_fetches 19 = .ok (.istore_n 2, 1) := by decide +kernel
theorem dX9_fetches_20 : decode cX9_fetches 20 = .ok (.iload_n 2, 1) := by decide +kernel
theorem dX9_fetches_21 : decode cX9_fetches 21 = .ok (.bipush (-9), 2) := by decide +kernel
theorem dX9_fetches_23 : decode cX9_fetches 23 = .ok (.if_icmp .ne 6, 3) := by decide +kernel
theorem dX9_fetches_26 : decode cX9_fetches 26 = .ok (.bipush (-2), 2) := by decide +kernel
theorem dX9_fetches_28 : decode cX9_fetches 28 = .ok (.ireturn, 1) := by decide +kernel
theorem dX9_fetches_29 : decode cX9_fetches 29 = .ok (.aload_n 0, 1) := by decide +kernel
theorem dX9_fetches_30 : decode cX9_fetches 30 = .ok (.invokevirtual 166, 3) := by decide +kernel
theorem dX9_fetches_33 : decode cX9_fetches 33 = .ok (.aload_n 0, 1) := by decide +kernel
theorem dX9_fetches_34 : decode cX9_fetches 34 = .ok (.getfield 28, 3) := by decide +kernel
theorem dX9_fetches_37 : decode cX9_fetches 37 = .ok (.bipush 7, 2) := by decide +kernel
theorem dX9_fetches_39 : decode cX9_fetches 39 = .ok (.iload_n 1, 1) := by decide +kernel
theorem dX9_fetches_40 : decode cX9_fetches 40 = .ok (.iadd, 1) := by decide +kernel
theorem dX9_fetches_41 : decode cX9_fetches 41 = .ok (.bipush (-9), 2) := by decide +kernel
theorem dX9_fetches_43 : decode cX9_fetches 43 = .ok (.iastore, 1) := by decide +kernel
theorem dX9_fetches_44 : decode cX9_fetches 44 = .ok (.iload_n 2, 1) := by decide +kernel
theorem dX9_fetches_45 : decode cX9_fetches 45 = .ok (.ireturn, 1) := by decide +kernel
theorem dX9_visits_0 : decode cX9_visits 0 = .ok (.aload_n 0, 1) := by decide +kernel
theorem dX9_visits_1 : decode cX9_visits 1 = .ok (.iload_n 1, 1) := by decide +kernel
theorem dX9_visits_2 : decode cX9_visits 2 = .ok (.invokevirtual 149, 3) := by decide +kernel
theorem dX9_visits_5 : decode cX9_visits 5 = .ok (.ifCond .ne 5, 3) := by decide +kernel
theorem dX9_visits_8 : decode cX9_visits 8 = .ok (.iconst (-1), 1) := by decide +kernel
theorem dX9_visits_9 : decode cX9_visits 9 = .ok (.ireturn, 1) := by decide +kernel
theorem dX9_visits_10 : decode cX9_visits 10 = .ok (.aload_n 0, 1) := by decide +kernel
theorem dX9_visits_11 : decode cX9_visits 11 = .ok (.getfield 28, 3) := by decide +kernel
theorem dX9_visits_14 : decode cX9_visits 14 = .ok (.bipush 7, 2) := by decide +kernel
theorem dX9_visits_16 : decode cX9_visits 16 = .ok (.iload_n 1, 1) := by decide +kernel
theorem dX9_visits_17 : decode cX9_visits 17 = .ok (.iadd, 1) := by decide +kernel
theorem dX9_visits_18 : decode cX9_visits 18 = .ok (.iaload, 1) := by decide +kernel
theorem dX9_visits_19 : decode cX9_visits 19 = .ok (.bipush (-9), 2) := by decide +kernel
theorem dX9_visits_21 : decode cX9_visits 21 = .ok (.if_icmp .eq 11, 3) := by decide +kernel
theorem dX9_visits_24 : decode cX9_visits 24 = .ok (.aload_n 0, 1) := by decide +kernel
theorem dX9_visits_25 : decode cX9_visits 25 = .ok (.iload_n 1, 1) := by decide +kernel
theorem dX9_visits_26 : decode cX9_visits 26 = .ok (.invokevirtual 143, 3) := by decide +kernel
theorem dX9_visits_29 : decode cX9_visits 29 = .ok (.ifCond .ne 6, 3) := by decide +kernel
theorem dX9_visits_32 : decode cX9_visits 32 = .ok (.bipush (-2), 2) := by decide +kernel
theorem dX9_visits_34 : decode cX9_visits 34 = .ok (.ireturn, 1) := by decide +kernel
theorem dX9_visits_35 : decode cX9_visits 35 = .ok (.aload_n 0, 1) := by decide +kernel
theorem dX9_visits_36 : decode cX9_visits 36 = .ok (.invokevirtual 166, 3) := by decide +kernel
theorem dX9_visits_39 : decode cX9_visits 39 = .ok (.aload_n 0, 1) := by decide +kernel
theorem dX9_visits_40 : decode cX9_visits 40 = .ok (.getfield 28, 3) := by decide +kernel
theorem dX9_visits_43 : decode cX9_visits 43 = .ok (.iconst 1, 1) := by decide +kernel
theorem dX9_visits_44 : decode cX9_visits 44 = .ok (.iload_n 1, 1) := by decide +kernel
theorem dX9_visits_45 : decode cX9_visits 45 = .ok (.iadd, 1) := by decide +kernel
theorem dX9_visits_46 : decode cX9_visits 46 = .ok (.dup2, 1) := by decide +kernel
theorem dX9_visits_47 : decode cX9_visits 47 = .ok (.iaload, 1) := by decide +kernel
theorem dX9_visits_48 : decode cX9_visits 48 = .ok (.iconst 1, 1) := by decide +kernel
theorem dX9_visits_49 : decode cX9_visits 49 = .ok (.isub, 1) := by decide +kernel
theorem dX9_visits_50 : decode cX9_visits 50 = .ok (.iastore, 1) := by decide +kernel
theorem dX9_visits_51 : decode cX9_visits 51 = .ok (.aload_n 0, 1) := by decide +kernel
theorem dX9_visits_52 : decode cX9_visits 52 = .ok (.iload_n 1, 1) := by decide +kernel
theorem dX9_visits_53 : decode cX9_visits 53 = .ok (.invokevirtual 143, 3) := by decide +kernel
theorem dX9_visits_56 : decode cX9_visits 56 = .ok (.ireturn, 1) := by decide +kernel
theorem dX9_right_0 : decode cX9_right 0 = .ok (.iconst 0, 1) := by decide +kernel
theorem dX9_right_1 : decode cX9_right 1 = .ok (.istore_n 1, 1) := by decide +kernel
theorem dX9_right_2 : decode cX9_right 2 = .ok (.iconst 0, 1) := by decide +kernel
theorem dX9_right_3 : decode cX9_right 3 = .ok (.istore_n 2, 1) := by decide +kernel
theorem dX9_right_4 : decode cX9_right 4 = .ok (.iload_n 2, 1) := by decide +kernel
theorem dX9_right_5 : decode cX9_right 5 = .ok (.aload_n 0, 1) := by decide +kernel
theorem dX9_right_6 : decode cX9_right 6 = .ok (.getfield 71, 3) := by decide +kernel
theorem dX9_right_9 : decode cX9_right 9 = .ok (.if_icmp .ge 50, 3) := by decide +kernel
theorem dX9_right_12 : decode cX9_right 12 = .ok (.aload_n 0, 1) := by decide +kernel
theorem dX9_right_13 : decode cX9_right 13 = .ok (.getfield 28, 3) := by decide +kernel
theorem dX9_right_16 : decode cX9_right 16 = .ok (.bipush 13, 2) := by decide +kernel
theorem dX9_right_18 : decode cX9_right 18 = .ok (.iload_n 2, 1) := by decide +kernel
theorem dX9_right_19 : decode cX9_right 19 = .ok (.iadd, 1) := by decide +kernel
theorem dX9_right_20 : decode cX9_right 20 = .ok (.iaload, 1) := by decide +kernel
theorem dX9_right_21 : decode cX9_right 21 = .ok (.istore_n 3, 1) := by decide +kernel
theorem dX9_right_22 : decode cX9_right 22 = .ok (.iload_n 3, 1) := by decide +kernel
theorem dX9_right_23 : decode cX9_right 23 = .ok (.iload_n 2, 1) := by decide +kernel
theorem dX9_right_24 : decode cX9_right 24 = .ok (.if_icmp .le 16, 3) := by decide +kernel
theorem dX9_right_27 : decode cX9_right 27 = .ok (.aload_n 0, 1) := by decide +kernel
theorem dX9_right_28 : decode cX9_right 28 = .ok (.getfield 28, 3) := by decide +kernel
theorem dX9_right_31 : decode cX9_right 31 = .ok (.bipush 13, 2) := by decide +kernel
theorem dX9_right_33 : decode cX9_right 33 = .ok (.iload_n 3, 1) := by decide +kernel
theorem dX9_right_34 : decode cX9_right 34 = .ok (.iadd, 1) := by decide +kernel
theorem dX9_right_35 : decode cX9_right 35 = .ok (.iaload, 1) := by decide +kernel
theorem dX9_right_36 : decode cX9_right 36 = .ok (.istore_n 3, 1) := by decide +kernel
theorem dX9_right_37 : decode cX9_right 37 = .ok (.goto (-15), 3) := by decide +kernel
theorem dX9_right_40 : decode cX9_right 40 = .ok (.iload_n 1, 1) := by decide +kernel
theorem dX9_right_41 : decode cX9_right 41 = .ok (.iload_n 3, 1) := by decide +kernel
theorem dX9_right_42 : decode cX9_right 42 = .ok (.iload_n 2, 1) := by decide +kernel
theorem dX9_right_43 : decode cX9_right 43 = .ok (.if_icmp .ne 7, 3) := by decide +kernel
theorem dX9_right_46 : decode cX9_right 46 = .ok (.iconst 1, 1) := by decide +kernel
theorem dX9_right_47 : decode cX9_right 47 = .ok (.goto 4, 3) := by decide +kernel
theorem dX9_right_50 : decode cX9_right 50 = .ok (.iconst 0, 1) := by decide +kernel
theorem dX9_right_51 : decode cX9_right 51 = .ok (.iadd, 1) := by decide +kernel
theorem dX9_right_52 : decode cX9_right 52 = .ok (.istore_n 1, 1) := by decide +kernel
theorem dX9_right_53 : decode cX9_right 53 = .ok (.iinc 2 1, 3) := by decide +kernel
theorem dX9_right_56 : decode cX9_right 56 = .ok (.goto (-52), 3) := by decide +kernel
theorem dX9_right_59 : decode cX9_right 59 = .ok (.aload_n 0, 1) := by decide +kernel
theorem dX9_right_60 : decode cX9_right 60 = .ok (.getfield 71, 3) := by decide +kernel
theorem dX9_right_63 : decode cX9_right 63 = .ok (.iload_n 1, 1) := by decide +kernel
theorem dX9_right_64 : decode cX9_right 64 = .ok (.isub, 1) := by decide +kernel
theorem dX9_right_65 : decode cX9_right 65 = .ok (.ireturn, 1) := by decide +kernel
theorem dX9_mixes_0 : decode cX9_mixes 0 = .ok (.aload_n 0, 1) := by decide +kernel
theorem dX9_mixes_1 : decode cX9_mixes 1 = .ok (.iload_n 1, 1) := by decide +kernel
theorem dX9_mixes_2 : decode cX9_mixes 2 = .ok (.invokevirtual 149, 3) := by decide +kernel
theorem dX9_mixes_5 : decode cX9_mixes 5 = .ok (.ifCond .eq 16, 3) := by decide +kernel
theorem dX9_mixes_8 : decode cX9_mixes 8 = .ok (.aload_n 0, 1) := by decide +kernel
theorem dX9_mixes_9 : decode cX9_mixes 9 = .ok (.iload_n 2, 1) := by decide +kernel
theorem dX9_mixes_10 : decode cX9_mixes 10 = .ok (.invokevirtual 149, 3) := by decide +kernel
theorem dX9_mixes_13 : decode cX9_mixes 13 = .ok (.ifCond .eq 8, 3) := by decide +kernel
theorem dX9_mixes_16 : decode cX9_mixes 16 = .ok (.iload_n 1, 1) := by decide +kernel
theorem dX9_mixes_17 : decode cX9_mixes 17 = .ok (.iload_n 2, 1) := by decide +kernel
theorem dX9_mixes_18 : decode cX9_mixes 18 = .ok (.if_icmp .ne 5, 3) := by decide +kernel
theorem dX9_mixes_21 : decode cX9_mixes 21 = .ok (.iconst (-1), 1) := by decide +kernel
theorem dX9_mixes_22 : decode cX9_mixes 22 = .ok (.ireturn, 1) := by decide +kernel
theorem dX9_mixes_23 : decode cX9_mixes 23 = .ok (.aload_n 0, 1) := by decide +kernel
theorem dX9_mixes_24 : decode cX9_mixes 24 = .ok (.invokevirtual 166, 3) := by decide +kernel
theorem dX9_mixes_27 : decode cX9_mixes 27 = .ok (.aload_n 0, 1) := by decide +kernel
theorem dX9_mixes_28 : decode cX9_mixes 28 = .ok (.getfield 28, 3) := by decide +kernel
theorem dX9_mixes_31 : decode cX9_mixes 31 = .ok (.bipush 13, 2) := by decide +kernel
theorem dX9_mixes_33 : decode cX9_mixes 33 = .ok (.iload_n 1, 1) := by decide +kernel
theorem dX9_mixes_34 : decode cX9_mixes 34 = .ok (.iadd, 1) := by decide +kernel
theorem dX9_mixes_35 : decode cX9_mixes 35 = .ok (.iaload, 1) := by decide +kernel
theorem dX9_mixes_36 : decode cX9_mixes 36 = .ok (.istore_n 3, 1) := by decide +kernel
theorem dX9_mixes_37 : decode cX9_mixes 37 = .ok (.aload_n 0, 1) := by decide +kernel
theorem dX9_mixes_38 : decode cX9_mixes 38 = .ok (.getfield 28, 3) := by decide +kernel
theorem dX9_mixes_41 : decode cX9_mixes 41 = .ok (.bipush 13, 2) := by decide +kernel
theorem dX9_mixes_43 : decode cX9_mixes 43 = .ok (.iload_n 1, 1) := by decide +kernel
theorem dX9_mixes_44 : decode cX9_mixes 44 = .ok (.iadd, 1) := by decide +kernel
theorem dX9_mixes_45 : decode cX9_mixes 45 = .ok (.aload_n 0, 1) := by decide +kernel
theorem dX9_mixes_46 : decode cX9_mixes 46 = .ok (.getfield 28, 3) := by decide +kernel
theorem dX9_mixes_49 : decode cX9_mixes 49 = .ok (.bipush 13, 2) := by decide +kernel
theorem dX9_mixes_51 : decode cX9_mixes 51 = .ok (.iload_n 2, 1) := by decide +kernel
theorem dX9_mixes_52 : decode cX9_mixes 52 = .ok (.iadd, 1) := by decide +kernel
theorem dX9_mixes_53 : decode cX9_mixes 53 = .ok (.iaload, 1) := by decide +kernel
theorem dX9_mixes_54 : decode cX9_mixes 54 = .ok (.iastore, 1) := by decide +kernel
theorem dX9_mixes_55 : decode cX9_mixes 55 = .ok (.aload_n 0, 1) := by decide +kernel
theorem dX9_mixes_56 : decode cX9_mixes 56 = .ok (.getfield 28, 3) := by decide +kernel
theorem dX9_mixes_59 : decode cX9_mixes 59 = .ok (.bipush 13, 2) := by decide +kernel
theorem dX9_mixes_61 : decode cX9_mixes 61 = .ok (.iload_n 2, 1) := by decide +kernel
theorem dX9_mixes_62 : decode cX9_mixes 62 = .ok (.iadd, 1) := by decide +kernel
theorem dX9_mixes_63 : decode cX9_mixes 63 = .ok (.iload_n 3, 1) := by decide +kernel
theorem dX9_mixes_64 : decode cX9_mixes 64 = .ok (.iastore, 1) := by decide +kernel
theorem dX9_mixes_65 : decode cX9_mixes 65 = .ok (.aload_n 0, 1) := by decide +kernel
theorem dX9_mixes_66 : decode cX9_mixes 66 = .ok (.invokevirtual 169, 3) := by decide +kernel
theorem dX9_mixes_69 : decode cX9_mixes 69 = .ok (.ireturn, 1) := by decide +kernel
theorem dX9_aged_0 : decode cX9_aged 0 = .ok (.iload_n 2, 1) := by decide +kernel
theorem dX9_aged_1 : decode cX9_aged 1 = .ok (.ifCond .ne 5, 3) := by decide +kernel
theorem dX9_aged_4 : decode cX9_aged 4 = .ok (.iconst 0, 1) := by decide +kernel
theorem dX9_aged_5 : decode cX9_aged 5 = .ok (.ireturn, 1) := by decide +kernel
theorem dX9_aged_6 : decode cX9_aged 6 = .ok (.iload_n 2, 1) := by decide +kernel
theorem dX9_aged_7 : decode cX9_aged 7 = .ok (.aload_n 0, 1) := by decide +kernel
theorem dX9_aged_8 : decode cX9_aged 8 = .ok (.getfield 7, 3) := by decide +kernel
theorem dX9_aged_11 : decode cX9_aged 11 = .ok (.iload_n 1, 1) := by decide +kernel
theorem dX9_aged_12 : decode cX9_aged 12 = .ok (.iaload, 1) := by decide +kernel
theorem dX9_aged_13 : decode cX9_aged 13 = .ok (.iadd, 1) := by decide +kernel
theorem dX9_aged_14 : decode cX9_aged 14 = .ok (.bipush 99, 2) := by decide +kernel
theorem dX9_aged_16 : decode cX9_aged 16 = .ok (.if_icmp .le 8, 3) := by decide +kernel
theorem dX9_aged_19 : decode cX9_aged 19 = .ok (.bipush 99, 2) := by decide +kernel
theorem dX9_aged_21 : decode cX9_aged 21 = .ok (.goto 11, 3) := by decide +kernel
theorem dX9_aged_24 : decode cX9_aged 24 = .ok (.iload_n 2, 1) := by decide +kernel
theorem dX9_aged_25 : decode cX9_aged 25 = .ok (.aload_n 0, 1) := by decide +kernel
theorem dX9_aged_26 : decode cX9_aged 26 = .ok (.getfield 7, 3) := by decide +kernel
theorem dX9_aged_29 : decode cX9_aged 29 = .ok (.iload_n 1, 1) := by decide +kernel
theorem dX9_aged_30 : decode cX9_aged 30 = .ok (.iaload, 1) := by decide +kernel
theorem dX9_aged_31 : decode cX9_aged 31 = .ok (.iadd, 1) := by decide +kernel
theorem dX9_aged_32 : decode cX9_aged 32 = .ok (.istore 4, 2) := by decide +kernel
theorem dX9_aged_34 : decode cX9_aged 34 = .ok (.iload_n 3, 1) := by decide +kernel
theorem dX9_aged_35 : decode cX9_aged 35 = .ok (.bipush (-9), 2) := by decide +kernel
theorem dX9_aged_37 : decode cX9_aged 37 = .ok (.if_icmp .ne 7, 3) := by decide +kernel
theorem dX9_aged_40 : decode cX9_aged 40 = .ok (.iconst 0, 1) := by decide +kernel
theorem dX9_aged_41 : decode cX9_aged 41 = .ok (.goto 9, 3) := by decide +kernel
theorem dX9_aged_44 : decode cX9_aged 44 = .ok (.aload_n 0, 1) := by decide +kernel
theorem dX9_aged_45 : decode cX9_aged 45 = .ok (.getfield 19, 3) := by decide +kernel
theorem dX9_aged_48 : decode cX9_aged 48 = .ok (.iload_n 3, 1) := by decide +kernel
theorem dX9_aged_49 : decode cX9_aged 49 = .ok (.iaload, 1) := by decide +kernel
theorem dX9_aged_50 : decode cX9_aged 50 = .ok (.istore 5, 2) := by decide +kernel
theorem dX9_aged_52 : decode cX9_aged 52 = .ok (.iload 4, 2) := by decide +kernel
theorem dX9_aged_54 : decode cX9_aged 54 = .ok (.iload 5, 2) := by decide +kernel
theorem dX9_aged_56 : decode cX9_aged 56 = .ok (.if_icmp .le 11, 3) := by decide +kernel
theorem dX9_aged_59 : decode cX9_aged 59 = .ok (.iload 4, 2) := by decide +kernel
theorem dX9_aged_61 : decode cX9_aged 61 = .ok (.iload 5, 2) := by decide +kernel
theorem dX9_aged_63 : decode cX9_aged 63 = .ok (.isub, 1) := by decide +kernel
theorem dX9_aged_64 : decode cX9_aged 64 = .ok (.goto 4, 3) := by decide +kernel
theorem dX9_aged_67 : decode cX9_aged 67 = .ok (.iconst 0, 1) := by decide +kernel
theorem dX9_aged_68 : decode cX9_aged 68 = .ok (.ireturn, 1) := by decide +kernel
theorem dX9_broken_0 : decode cX9_broken 0 = .ok (.iconst 0, 1) := by decide +kernel
theorem dX9_broken_1 : decode cX9_broken 1 = .ok (.istore_n 1, 1) := by decide +kernel
theorem dX9_broken_2 : decode cX9_broken 2 = .ok (.iconst 0, 1) := by decide +kernel
theorem dX9_broken_3 : decode cX9_broken 3 = .ok (.istore_n 2, 1) := by decide +kernel
theorem dX9_broken_4 : decode cX9_broken 4 = .ok (.iload_n 2, 1) := by decide +kernel
theorem dX9_broken_5 : decode cX9_broken 5 = .ok (.aload_n 0, 1) := by decide +kernel
theorem dX9_broken_6 : decode cX9_broken 6 = .ok (.getfield 71, 3) := by decide +kernel
theorem dX9_broken_9 : decode cX9_broken 9 = .ok (.if_icmp .ge 27, 3) := by decide +kernel
theorem dX9_broken_12 : decode cX9_broken 12 = .ok (.iload_n 1, 1) := by decide +kernel
theorem dX9_broken_13 : decode cX9_broken 13 = .ok (.aload_n 0, 1) := by decide +kernel
theorem dX9_broken_14 : decode cX9_broken 14 = .ok (.iload_n 2, 1) := by decide +kernel
theorem dX9_broken_15 : decode cX9_broken 15 = .ok (.invokevirtual 143, 3) := by decide +kernel
theorem dX9_broken_18 : decode cX9_broken 18 = .ok (.ifCond .ne 9, 3) := by decide +kernel
theorem dX9_broken_21 : decode cX9_broken 21 = .ok (.iconst 1, 1) := by decide +kernel
theorem dX9_broken_22 : decode cX9_broken 22 = .ok (.iload_n 2, 1) := by decide +kernel
theorem dX9_broken_23 : decode cX9_broken 23 = .ok (.ishl, 1) := by decide +kernel
theorem dX9_broken_24 : decode cX9_broken 24 = .ok (.goto 4, 3) := by decide +kernel
theorem dX9_broken_27 : decode cX9_broken 27 = .ok (.iconst 0, 1) := by decide +kernel
theorem dX9_broken_28 : decode cX9_broken 28 = .ok (.ior, 1) := by decide +kernel
theorem dX9_broken_29 : decode cX9_broken 29 = .ok (.istore_n 1, 1) := by decide +kernel
theorem dX9_broken_30 : decode cX9_broken 30 = .ok (.iinc 2 1, 3) := by decide +kernel
theorem dX9_broken_33 : decode cX9_broken 33 = .ok (.goto (-29), 3) := by decide +kernel
theorem dX9_broken_36 : decode cX9_broken 36 = .ok (.iload_n 1, 1) := by decide +kernel
theorem dX9_broken_37 : decode cX9_broken 37 = .ok (.ireturn, 1) := by decide +kernel
theorem dX9_years_0 : decode cX9_years 0 = .ok (.iload_n 1, 1) := by decide +kernel
theorem dX9_years_1 : decode cX9_years 1 = .ok (.i2l, 1) := by decide +kernel
theorem dX9_years_2 : decode cX9_years 2 = .ok (.lconst 1, 1) := by decide +kernel
theorem dX9_years_3 : decode cX9_years 3 = .ok (.ldc2_w 173, 3) := by decide +kernel
theorem dX9_years_6 : decode cX9_years 6 = .ok (.invokestatic 75, 3) := by decide +kernel
theorem dX9_years_9 : decode cX9_years 9 = .ok (.ifCond .ne 5, 3) := by decide +kernel
theorem dX9_years_12 : decode cX9_years 12 = .ok (.iconst (-1), 1) := by decide +kernel
theorem dX9_years_13 : decode cX9_years 13 = .ok (.ireturn, 1) := by decide +kernel
theorem dX9_years_14 : decode cX9_years 14 = .ok (.aload_n 0, 1) := by decide +kernel
theorem dX9_years_15 : decode cX9_years 15 = .ok (.getfield 28, 3) := by decide +kernel
theorem dX9_years_18 : decode cX9_years 18 = .ok (.iconst 0, 1) := by decide +kernel
theorem dX9_years_19 : decode cX9_years 19 = .ok (.iaload, 1) := by decide +kernel
theorem dX9_years_20 : decode cX9_years 20 = .ok (.iload_n 1, 1) := by decide +kernel
theorem dX9_years_21 : decode cX9_years 21 = .ok (.iadd, 1) := by decide +kernel
theorem dX9_years_22 : decode cX9_years 22 = .ok (.bipush 99, 2) := by decide +kernel
theorem dX9_years_24 : decode cX9_years 24 = .ok (.if_icmp .le 6, 3) := by decide +kernel
theorem dX9_years_27 : decode cX9_years 27 = .ok (.bipush (-2), 2) := by decide +kernel
theorem dX9_years_29 : decode cX9_years 29 = .ok (.ireturn, 1) := by decide +kernel
theorem dX9_years_30 : decode cX9_years 30 = .ok (.aload_n 0, 1) := by decide +kernel
theorem dX9_years_31 : decode cX9_years 31 = .ok (.invokevirtual 166, 3) := by decide +kernel
theorem dX9_years_34 : decode cX9_years 34 = .ok (.iconst 0, 1) := by decide +kernel
theorem dX9_years_35 : decode cX9_years 35 = .ok (.istore_n 2, 1) := by decide +kernel
theorem dX9_years_36 : decode cX9_years 36 = .ok (.iload_n 2, 1) := by decide +kernel
theorem dX9_years_37 : decode cX9_years 37 = .ok (.iload_n 1, 1) := by decide +kernel
theorem dX9_years_38 : decode cX9_years 38 = .ok (.if_icmp .ge 52, 3) := by decide +kernel
theorem dX9_years_41 : decode cX9_years 41 = .ok (.iconst 0, 1) := by decide +kernel
theorem dX9_years_42 : decode cX9_years 42 = .ok (.istore_n 3, 1) := by decide +kernel
theorem dX9_years_43 : decode cX9_years 43 = .ok (.iload_n 3, 1) := by decide +kernel
theorem dX9_years_44 : decode cX9_years 44 = .ok (.aload_n 0, 1) := by decide +kernel
theorem dX9_years_45 : decode cX9_years 45 = .ok (.getfield 71, 3) := by decide +kernel
theorem dX9_years_48 : decode cX9_years 48 = .ok (.if_icmp .ge 36, 3) := by decide +kernel
theorem dX9_years_51 : decode cX9_years 51 = .ok (.aload_n 0, 1) := by decide +kernel
theorem dX9_years_52 : decode cX9_years 52 = .ok (.getfield 28, 3) := by decide +kernel
theorem dX9_years_55 : decode cX9_years 55 = .ok (.iconst 1, 1) := by decide +kernel
theorem dX9_years_56 : decode cX9_years 56 = .ok (.iload_n 3, 1) := by decide +kernel
theorem dX9_years_57 : decode cX9_years 57 = .ok (.iadd, 1) := by decide +kernel
theorem dX9_years_58 : decode cX9_years 58 = .ok (.aload_n 0, 1) := by decide +kernel
theorem dX9_years_59 : decode cX9_years 59 = .ok (.iload_n 3, 1) := by decide +kernel
theorem dX9_years_60 : decode cX9_years 60 = .ok (.aload_n 0, 1) := by decide +kernel
theorem dX9_years_61 : decode cX9_years 61 = .ok (.iload_n 3, 1) := by decide +kernel
theorem dX9_years_62 : decode cX9_years 62 = .ok (.invokevirtual 143, 3) := by decide +kernel
theorem dX9_years_65 : decode cX9_years 65 = .ok (.aload_n 0, 1) := by decide +kernel
theorem dX9_years_66 : decode cX9_years 66 = .ok (.getfield 28, 3) := by decide +kernel
theorem dX9_years_69 : decode cX9_years 69 = .ok (.bipush 7, 2) := by decide +kernel
theorem dX9_years_71 : decode cX9_years 71 = .ok (.iload_n 3, 1) := by decide +kernel
theorem dX9_years_72 : decode cX9_years 72 = .ok (.iadd, 1) := by decide +kernel
theorem dX9_years_73 : decode cX9_years 73 = .ok (.iaload, 1) := by decide +kernel
theorem dX9_years_74 : decode cX9_years 74 = .ok (.invokevirtual 175, 3) := by decide +kernel
theorem dX9_years_77 : decode cX9_years 77 = .ok (.iastore, 1) := by decide +kernel
theorem dX9_years_78 : decode cX9_years 78 = .ok (.iinc 3 1, 3) := by decide +kernel
theorem dX9_years_81 : decode cX9_years 81 = .ok (.goto (-38), 3) := by decide +kernel
theorem dX9_years_84 : decode cX9_years 84 = .ok (.iinc 2 1, 3) := by decide +kernel
theorem dX9_years_87 : decode cX9_years 87 = .ok (.goto (-51), 3) := by decide +kernel
theorem dX9_years_90 : decode cX9_years 90 = .ok (.aload_n 0, 1) := by decide +kernel
theorem dX9_years_91 : decode cX9_years 91 = .ok (.getfield 28, 3) := by decide +kernel
theorem dX9_years_94 : decode cX9_years 94 = .ok (.iconst 0, 1) := by decide +kernel
theorem dX9_years_95 : decode cX9_years 95 = .ok (.dup2, 1) := by decide +kernel
theorem dX9_years_96 : decode cX9_years 96 = .ok (.iaload, 1) := by decide +kernel
theorem dX9_years_97 : decode cX9_years 97 = .ok (.iload_n 1, 1) := by decide +kernel
theorem dX9_years_98 : decode cX9_years 98 = .ok (.iadd, 1) := by decide +kernel
theorem dX9_years_99 : decode cX9_years 99 = .ok (.iastore, 1) := by decide +kernel
theorem dX9_years_100 : decode cX9_years 100 = .ok (.aload_n 0, 1) := by decide +kernel
theorem dX9_years_101 : decode cX9_years 101 = .ok (.invokevirtual 179, 3) := by decide +kernel
theorem dX9_years_104 : decode cX9_years 104 = .ok (.invokestatic 146, 3) := by decide +kernel
theorem dX9_years_107 : decode cX9_years 107 = .ok (.ireturn, 1) := by decide +kernel
theorem dX9_undo_0 : decode cX9_undo 0 = .ok (.aload_n 0, 1) := by decide +kernel
theorem dX9_undo_1 : decode cX9_undo 1 = .ok (.getfield 28, 3) := by decide +kernel
theorem dX9_undo_4 : decode cX9_undo 4 = .ok (.bipush 19, 2) := by decide +kernel
theorem dX9_undo_6 : decode cX9_undo 6 = .ok (.iaload, 1) := by decide +kernel
theorem dX9_undo_7 : decode cX9_undo 7 = .ok (.ifCond .ne 6, 3) := by decide +kernel
theorem dX9_undo_10 : decode cX9_undo 10 = .ok (.bipush (-2), 2) := by decide +kernel
theorem dX9_undo_12 : decode cX9_undo 12 = .ok (.ireturn, 1) := by decide +kernel
theorem dX9_undo_13 : decode cX9_undo 13 = .ok (.aload_n 0, 1) := by decide +kernel
theorem dX9_undo_14 : decode cX9_undo 14 = .ok (.getfield 28, 3) := by decide +kernel
theorem dX9_undo_17 : decode cX9_undo 17 = .ok (.bipush 19, 2) := by decide +kernel
theorem dX9_undo_19 : decode cX9_undo 19 = .ok (.dup2, 1) := by decide +kernel
theorem dX9_undo_20 : decode cX9_undo 20 = .ok (.iaload, 1) := by decide +kernel
theorem dX9_undo_21 : decode cX9_undo 21 = .ok (.iconst 1, 1) := by decide +kernel
theorem dX9_undo_22 : decode cX9_undo 22 = .ok (.isub, 1) := by decide +kernel
theorem dX9_undo_23 : decode cX9_undo 23 = .ok (.iastore, 1) := by decide +kernel
theorem dX9_undo_24 : decode cX9_undo 24 = .ok (.iconst 0, 1) := by decide +kernel
theorem dX9_undo_25 : decode cX9_undo 25 = .ok (.istore_n 1, 1) := by decide +kernel
theorem dX9_undo_26 : decode cX9_undo 26 = .ok (.iload_n 1, 1) := by decide +kernel
theorem dX9_undo_27 : decode cX9_undo 27 = .ok (.bipush 19, 2) := by decide +kernel
theorem dX9_undo_29 : decode cX9_undo 29 = .ok (.if_icmp .ge 35, 3) := by decide +kernel
theorem dX9_undo_32 : decode cX9_undo 32 = .ok (.aload_n 0, 1) := by decide +kernel
theorem dX9_undo_33 : decode cX9_undo 33 = .ok (.getfield 28, 3) := by decide +kernel
theorem dX9_undo_36 : decode cX9_undo 36 = .ok (.iload_n 1, 1) := by decide +kernel
theorem dX9_undo_37 : decode cX9_undo 37 = .ok (.aload_n 0, 1) := by decide +kernel
theorem dX9_undo_38 : decode cX9_undo 38 = .ok (.getfield 28, 3) := by decide +kernel
theorem dX9_undo_41 : decode cX9_undo 41 = .ok (.bipush 20, 2) := by decide +kernel
theorem dX9_undo_43 : decode cX9_undo 43 = .ok (.bipush 19, 2) := by decide +kernel
theorem dX9_undo_45 : decode cX9_undo 45 = .ok (.aload_n 0, 1) := by decide +kernel
theorem dX9_undo_46 : decode cX9_undo 46 = .ok (.getfield 28, 3) := by decide +kernel
theorem dX9_undo_49 : decode cX9_undo 49 = .ok (.bipush 19, 2) := by decide +kernel
theorem dX9_undo_51 : decode cX9_undo 51 = .ok (.iaload, 1) := by decide +kernel
theorem dX9_undo_52 : decode cX9_undo 52 = .ok (.imul, 1) := by decide +kernel
theorem dX9_undo_53 : decode cX9_undo 53 = .ok (.iadd, 1) := by decide +kernel
theorem dX9_undo_54 : decode cX9_undo 54 = .ok (.iload_n 1, 1) := by decide +kernel
theorem dX9_undo_55 : decode cX9_undo 55 = .ok (.iadd, 1) := by decide +kernel
theorem dX9_undo_56 : decode cX9_undo 56 = .ok (.iaload, 1) := by decide +kernel
theorem dX9_undo_57 : decode cX9_undo 57 = .ok (.iastore, 1) := by decide +kernel
theorem dX9_undo_58 : decode cX9_undo 58 = .ok (.iinc 1 1, 3) := by decide +kernel
theorem dX9_undo_61 : decode cX9_undo 61 = .ok (.goto (-35), 3) := by decide +kernel
theorem dX9_undo_64 : decode cX9_undo 64 = .ok (.aload_n 0, 1) := by decide +kernel
theorem dX9_undo_65 : decode cX9_undo 65 = .ok (.getfield 28, 3) := by decide +kernel
theorem dX9_undo_68 : decode cX9_undo 68 = .ok (.bipush 19, 2) := by decide +kernel
theorem dX9_undo_70 : decode cX9_undo 70 = .ok (.iaload, 1) := by decide +kernel
theorem dX9_undo_71 : decode cX9_undo 71 = .ok (.ireturn, 1) := by decide +kernel
theorem dX9_now_0 : decode cX9_now 0 = .ok (.iconst 0, 1) := by decide +kernel
theorem dX9_now_1 : decode cX9_now 1 = .ok (.istore_n 2, 1) := by decide +kernel
theorem dX9_now_2 : decode cX9_now 2 = .ok (.iconst 0, 1) := by decide +kernel
theorem dX9_now_3 : decode cX9_now 3 = .ok (.istore_n 3, 1) := by decide +kernel
theorem dX9_now_4 : decode cX9_now 4 = .ok (.iload_n 3, 1) := by decide +kernel
theorem dX9_now_5 : decode cX9_now 5 = .ok (.aload_n 0, 1) := by decide +kernel
theorem dX9_now_6 : decode cX9_now 6 = .ok (.getfield 71, 3) := by decide +kernel
theorem dX9_now_9 : decode cX9_now 9 = .ok (.if_icmp .ge 17, 3) := by decide +kernel
theorem dX9_now_12 : decode cX9_now 12 = .ok (.iload_n 2, 1) := by decide +kernel
theorem dX9_now_13 : decode cX9_now 13 = .ok (.aload_n 0, 1) := by decide +kernel
theorem dX9_now_14 : decode cX9_now 14 = .ok (.iload_n 3, 1) := by decide +kernel
theorem dX9_now_15 : decode cX9_now 15 = .ok (.invokevirtual 143, 3) := by decide +kernel
theorem dX9_now_18 : decode cX9_now 18 = .ok (.iadd, 1) := by decide +kernel
theorem dX9_now_19 : decode cX9_now 19 = .ok (.istore_n 2, 1) := by decide +kernel
theorem dX9_now_20 : decode cX9_now 20 = .ok (.iinc 3 1, 3) := by decide +kernel
theorem dX9_now_23 : decode cX9_now 23 = .ok (.goto (-19), 3) := by decide +kernel
theorem dX9_now_26 : decode cX9_now 26 = .ok (.iload_n 1, 1) := by decide +kernel
theorem dX9_now_27 : decode cX9_now 27 = .ok (.tableswitch 57 0 4 #[33, 40, 45, 50, 55], 33) := by decide +kernel
theorem dX9_now_60 : decode cX9_now 60 = .ok (.aload_n 0, 1) := by decide +kernel
theorem dX9_now_61 : decode cX9_now 61 = .ok (.getfield 28, 3) := by decide +kernel
theorem dX9_now_64 : decode cX9_now 64 = .ok (.iconst 0, 1) := by decide +kernel
theorem dX9_now_65 : decode cX9_now 65 = .ok (.iaload, 1) := by decide +kernel
theorem dX9_now_66 : decode cX9_now 66 = .ok (.ireturn, 1) := by decide +kernel
theorem dX9_now_67 : decode cX9_now 67 = .ok (.aload_n 0, 1) := by decide +kernel
theorem dX9_now_68 : decode cX9_now 68 = .ok (.invokevirtual 179, 3) := by decide +kernel
theorem dX9_now_71 : decode cX9_now 71 = .ok (.ireturn, 1) := by decide +kernel
theorem dX9_now_72 : decode cX9_now 72 = .ok (.aload_n 0, 1) := by decide +kernel
theorem dX9_now_73 : decode cX9_now 73 = .ok (.invokevirtual 169, 3) := by decide +kernel
theorem dX9_now_76 : decode cX9_now 76 = .ok (.ireturn, 1) := by decide +kernel
theorem dX9_now_77 : decode cX9_now 77 = .ok (.aload_n 0, 1) := by decide +kernel
theorem dX9_now_78 : decode cX9_now 78 = .ok (.invokevirtual 182, 3) := by decide +kernel
theorem dX9_now_81 : decode cX9_now 81 = .ok (.ireturn, 1) := by decide +kernel
theorem dX9_now_82 : decode cX9_now 82 = .ok (.iload_n 2, 1) := by decide +kernel
theorem dX9_now_83 : decode cX9_now 83 = .ok (.ireturn, 1) := by decide +kernel
theorem dX9_now_84 : decode cX9_now 84 = .ok (.iconst (-1), 1) := by decide +kernel
theorem dX9_now_85 : decode cX9_now 85 = .ok (.ireturn, 1) := by decide +kernel
theorem dX9_whenBroken_0 : decode cX9_whenBroken 0 = .ok (.aload_n 0, 1) := by decide +kernel
theorem dX9_whenBroken_1 : decode cX9_whenBroken 1 = .ok (.iload_n 1, 1) := by decide +kernel
theorem dX9_whenBroken_2 : decode cX9_whenBroken 2 = .ok (.invokevirtual 143, 3) := by decide +kernel
theorem dX9_whenBroken_5 : decode cX9_whenBroken 5 = .ok (.istore_n 3, 1) := by decide +kernel
theorem dX9_whenBroken_6 : decode cX9_whenBroken 6 = .ok (.iconst 0, 1) := by decide +kernel
theorem dX9_whenBroken_7 : decode cX9_whenBroken 7 = .ok (.istore 4, 2) := by decide +kernel
theorem dX9_whenBroken_9 : decode cX9_whenBroken 9 = .ok (.iload 4, 2) := by decide +kernel
theorem dX9_whenBroken_11 : decode cX9_whenBroken 11 = .ok (.bipush 99, 2) := by decide +kernel
theorem dX9_whenBroken_13 : decode cX9_whenBroken 13 = .ok (.if_icmp .gt 24, 3) := by decide +kernel
theorem dX9_whenBroken_16 : decode cX9_whenBroken 16 = .ok (.iload_n 3, 1) := by decide +kernel
theorem dX9_whenBroken_17 : decode cX9_whenBroken 17 = .ok (.ifCond .ne 6, 3) := by decide +kernel
theorem dX9_whenBroken_20 : decode cX9_whenBroken 20 = .ok (.iload 4, 2) := by decide +kernel
theorem dX9_whenBroken_22 : decode cX9_whenBroken 22 = .ok (.ireturn, 1) := by decide +kernel
theorem dX9_whenBroken_23 : decode cX9_whenBroken 23 = .ok (.aload_n 0, 1) := by decide +kernel
theorem dX9_whenBroken_24 : decode cX9_whenBroken 24 = .ok (.iload_n 1, 1) := by decide +kernel
theorem dX9_whenBroken_25 : decode cX9_whenBroken 25 = .ok (.iload_n 3, 1) := by decide +kernel
theorem dX9_whenBroken_26 : decode cX9_whenBroken 26 = .ok (.iload_n 2, 1) := by decide +kernel
theorem dX9_whenBroken_27 : decode cX9_whenBroken 27 = .ok (.invokevirtual 175, 3) := by decide +kernel
theorem dX9_whenBroken_30 : decode cX9_whenBroken 30 = .ok (.istore_n 3, 1) := by decide +kernel
theorem dX9_whenBroken_31 : decode cX9_whenBroken 31 = .ok (.iinc 4 1, 3) := by decide +kernel
theorem dX9_whenBroken_34 : decode cX9_whenBroken 34 = .ok (.goto (-25), 3) := by decide +kernel
theorem dX9_whenBroken_37 : decode cX9_whenBroken 37 = .ok (.bipush (-9), 2) := by decide +kernel
theorem dX9_whenBroken_39 : decode cX9_whenBroken 39 = .ok (.ireturn, 1) := by decide +kernel
theorem dX9_when_0 : decode cX9_when 0 = .ok (.aload_n 0, 1) := by decide +kernel
theorem dX9_when_1 : decode cX9_when 1 = .ok (.iload_n 1, 1) := by decide +kernel
theorem dX9_when_2 : decode cX9_when 2 = .ok (.invokevirtual 149, 3) := by decide +kernel
theorem dX9_when_5 : decode cX9_when 5 = .ok (.ifCond .eq 20, 3) := by decide +kernel
theorem dX9_when_8 : decode cX9_when 8 = .ok (.aload_n 0, 1) := by decide +kernel
theorem dX9_when_9 : decode cX9_when 9 = .ok (.iload_n 2, 1) := by decide +kernel
theorem dX9_when_10 : decode cX9_when 10 = .ok (.invokevirtual 157, 3) := by decide +kernel
theorem dX9_when_13 : decode cX9_when 13 = .ok (.ifCond .eq 12, 3) := by decide +kernel
theorem dX9_when_16 : decode cX9_when 16 = .ok (.aload_n 0, 1) := by decide +kernel
theorem dX9_when_17 : decode cX9_when 17 = .ok (.iload_n 1, 1) := by decide +kernel
theorem dX9_when_18 : decode cX9_when 18 = .ok (.iload_n 2, 1) := by decide +kernel
theorem dX9_when_19 : decode cX9_when 19 = .ok (.invokevirtual 185, 3) := by decide +kernel
theorem dX9_when_22 : decode cX9_when 22 = .ok (.goto 4, 3) := by decide +kernel
theorem dX9_when_25 : decode cX9_when 25 = .ok (.iconst (-1), 1) := by decide +kernel
theorem dX9_when_26 : decode cX9_when 26 = .ok (.ireturn, 1) := by decide +kernel
theorem dX9_hotIn_0 : decode cX9_hotIn 0 = .ok (.aload_n 0, 1) := by decide +kernel
theorem dX9_hotIn_1 : decode cX9_hotIn 1 = .ok (.iload_n 1, 1) := by decide +kernel
theorem dX9_hotIn_2 : decode cX9_hotIn 2 = .ok (.invokevirtual 143, 3) := by decide +kernel
theorem dX9_hotIn_5 : decode cX9_hotIn 5 = .ok (.istore_n 3, 1) := by decide +kernel
theorem dX9_hotIn_6 : decode cX9_hotIn 6 = .ok (.iconst 0, 1) := by decide +kernel
theorem dX9_hotIn_7 : decode cX9_hotIn 7 = .ok (.istore 4, 2) := by decide +kernel
theorem dX9_hotIn_9 : decode cX9_hotIn 9 = .ok (.iload 4, 2) := by decide +kernel
theorem dX9_hotIn_11 : decode cX9_hotIn 11 = .ok (.iload_n 2, 1) := by decide +kernel
theorem dX9_hotIn_12 : decode cX9_hotIn 12 = .ok (.if_icmp .ge 25, 3) := by decide +kernel
theorem dX9_hotIn_15 : decode cX9_hotIn 15 = .ok (.aload_n 0, 1) := by decide +kernel
theorem dX9_hotIn_16 : decode cX9_hotIn 16 = .ok (.iload_n 1, 1) := by decide +kernel
theorem dX9_hotIn_17 : decode cX9_hotIn 17 = .ok (.iload_n 3, 1) := by decide +kernel
theorem dX9_hotIn_18 : decode cX9_hotIn 18 = .ok (.aload_n 0, 1) := by decide +kernel
theorem dX9_hotIn_19 : decode cX9_hotIn 19 = .ok (.getfield 28, 3) := by decide +kernel
theorem dX9_hotIn_22 : decode cX9_hotIn 22 = .ok (.bipush 7, 2) := by decide +kernel
theorem dX9_hotIn_24 : decode cX9_hotIn 24 = .ok (.iload_n 1, 1) := by decide +kernel
theorem dX9_hotIn_25 : decode cX9_hotIn 25 = .ok (.iadd, 1) := by decide +kernel
theorem dX9_hotIn_26 : decode cX9_hotIn 26 = .ok (.iaload, 1) := by decide +kernel
theorem dX9_hotIn_27 : decode cX9_hotIn 27 = .ok (.invokevirtual 175, 3) := by decide +kernel
theorem dX9_hotIn_30 : decode cX9_hotIn 30 = .ok (.istore_n 3, 1) := by decide +kernel
theorem dX9_hotIn_31 : decode cX9_hotIn 31 = .ok (.iinc 4 1, 3) := by decide +kernel
theorem dX9_hotIn_34 : decode cX9_hotIn 34 = .ok (.goto (-25), 3) := by decide +kernel
theorem dX9_hotIn_37 : decode cX9_hotIn 37 = .ok (.iload_n 3, 1) := by decide +kernel
theorem dX9_hotIn_38 : decode cX9_hotIn 38 = .ok (.ireturn, 1) := by decide +kernel
theorem dX9_hot_0 : decode cX9_hot 0 = .ok (.aload_n 0, 1) := by decide +kernel
theorem dX9_hot_1 : decode cX9_hot 1 = .ok (.iload_n 1, 1) := by decide +kernel
theorem dX9_hot_2 : decode cX9_hot 2 = .ok (.invokevirtual 149, 3) := by decide +kernel
theorem dX9_hot_5 : decode cX9_hot 5 = .ok (.ifCond .eq 24, 3) := by decide +kernel
theorem dX9_hot_8 : decode cX9_hot 8 = .ok (.iload_n 2, 1) := by decide +kernel
theorem dX9_hot_9 : decode cX9_hot 9 = .ok (.i2l, 1) := by decide +kernel
theorem dX9_hot_10 : decode cX9_hot 10 = .ok (.lconst 0, 1) := by decide +kernel
theorem dX9_hot_11 : decode cX9_hot 11 = .ok (.ldc2_w 189, 3) := by decide +kernel
theorem dX9_hot_14 : decode cX9_hot 14 = .ok (.invokestatic 75, 3) := by decide +kernel
theorem dX9_hot_17 : decode cX9_hot 17 = .ok (.ifCond .eq 12, 3) := by decide +kernel
theorem dX9_hot_20 : decode cX9_hot 20 = .ok (.aload_n 0, 1) := by decide +kernel
theorem dX9_hot_21 : decode cX9_hot 21 = .ok (.iload_n 1, 1) := by decide +kernel
theorem dX9_hot_22 : decode cX9_hot 22 = .ok (.iload_n 2, 1) := by decide +kernel
theorem dX9_hot_23 : decode cX9_hot 23 = .ok (.invokevirtual 191, 3) := by decide +kernel
theorem dX9_hot_26 : decode cX9_hot 26 = .ok (.goto 4, 3) := by decide +kernel
theorem dX9_hot_29 : decode cX9_hot 29 = .ok (.iconst (-1), 1) := by decide +kernel
theorem dX9_hot_30 : decode cX9_hot 30 = .ok (.ireturn, 1) := by decide +kernel
theorem dX9_ways_0 : decode cX9_ways 0 = .ok (.iconst 1, 1) := by decide +kernel
theorem dX9_ways_1 : decode cX9_ways 1 = .ok (.istore_n 1, 1) := by decide +kernel
theorem dX9_ways_2 : decode cX9_ways 2 = .ok (.iconst 0, 1) := by decide +kernel
theorem dX9_ways_3 : decode cX9_ways 3 = .ok (.istore_n 2, 1) := by decide +kernel
theorem dX9_ways_4 : decode cX9_ways 4 = .ok (.iload_n 2, 1) := by decide +kernel
theorem dX9_ways_5 : decode cX9_ways 5 = .ok (.aload_n 0, 1) := by decide +kernel
theorem dX9_ways_6 : decode cX9_ways 6 = .ok (.getfield 71, 3) := by decide +kernel
theorem dX9_ways_9 : decode cX9_ways 9 = .ok (.if_icmp .ge 18, 3) := by decide +kernel
theorem dX9_ways_12 : decode cX9_ways 12 = .ok (.iload_n 1, 1) := by decide +kernel
theorem dX9_ways_13 : decode cX9_ways 13 = .ok (.aload_n 0, 1) := by decide +kernel
theorem dX9_ways_14 : decode cX9_ways 14 = .ok (.getfield 79, 3) := by decide +kernel
theorem dX9_ways_17 : decode cX9_ways 17 = .ok (.iconst 1, 1) := by decide +kernel
theorem dX9_ways_18 : decode cX9_ways 18 = .ok (.iadd, 1) := by decide +kernel
theorem dX9_ways_19 : decode cX9_ways 19 = .ok (.imul, 1) := by decide +kernel
theorem dX9_ways_20 : decode cX9_ways 20 = .ok (.istore_n 1, 1) := by decide +kernel
theorem dX9_ways_21 : decode cX9_ways 21 = .ok (.iinc 2 1, 3) := by decide +kernel
theorem dX9_ways_24 : decode cX9_ways 24 = .ok (.goto (-20), 3) := by decide +kernel
theorem dX9_ways_27 : decode cX9_ways 27 = .ok (.iload_n 1, 1) := by decide +kernel
theorem dX9_ways_28 : decode cX9_ways 28 = .ok (.ireturn, 1) := by decide +kernel
theorem dX9_mayBe_0 : decode cX9_mayBe 0 = .ok (.iload_n 1, 1) := by decide +kernel
theorem dX9_mayBe_1 : decode cX9_mayBe 1 = .ok (.istore_n 2, 1) := by decide +kernel
theorem dX9_mayBe_2 : decode cX9_mayBe 2 = .ok (.iconst 1, 1) := by decide +kernel
theorem dX9_mayBe_3 : decode cX9_mayBe 3 = .ok (.istore_n 3, 1) := by decide +kernel
theorem dX9_mayBe_4 : decode cX9_mayBe 4 = .ok (.iconst 0, 1) := by decide +kernel
theorem dX9_mayBe_5 : decode cX9_mayBe 5 = .ok (.istore 4, 2) := by decide +kernel
theorem dX9_mayBe_7 : decode cX9_mayBe 7 = .ok (.iload 4, 2) := by decide +kernel
theorem dX9_mayBe_9 : decode cX9_mayBe 9 = .ok (.aload_n 0, 1) := by decide +kernel
theorem dX9_mayBe_10 : decode cX9_mayBe 10 = .ok (.getfield 79, 3) := by decide +kernel
theorem dX9_mayBe_13 : decode cX9_mayBe 13 = .ok (.if_icmp .gt 17, 3) := by decide +kernel
theorem dX9_mayBe_16 : decode cX9_mayBe 16 = .ok (.aload_n 0, 1) := by decide +kernel
theorem dX9_mayBe_17 : decode cX9_mayBe 17 = .ok (.getfield 59, 3) := by decide +kernel
theorem dX9_mayBe_20 : decode cX9_mayBe 20 = .ok (.iload 4, 2) := by decide +kernel
theorem dX9_mayBe_22 : decode cX9_mayBe 22 = .ok (.iconst 0, 1) := by decide +kernel
theorem dX9_mayBe_23 : decode cX9_mayBe 23 = .ok (.iastore, 1) := by decide +kernel
theorem dX9_mayBe_24 : decode cX9_mayBe 24 = .ok (.iinc 4 1, 3) := by decide +kernel
theorem dX9_mayBe_27 : decode cX9_mayBe 27 = .ok (.goto (-20), 3) := by decide +kernel
theorem dX9_mayBe_30 : decode cX9_mayBe 30 = .ok (.aload_n 0, 1) := by decide +kernel
theorem dX9_mayBe_31 : decode cX9_mayBe 31 = .ok (.getfield 71, 3) := by decide +kernel
theorem dX9_mayBe_34 : decode cX9_mayBe 34 = .ok (.iconst 1, 1) := by decide +kernel
theorem dX9_mayBe_35 : decode cX9_mayBe 35 = .ok (.isub, 1) := by decide +kernel
theorem dX9_mayBe_36 : decode cX9_mayBe 36 = .ok (.istore 4, 2) := by decide +kernel
theorem dX9_mayBe_38 : decode cX9_mayBe 38 = .ok (.iload 4, 2) := by decide +kernel
theorem dX9_mayBe_40 : decode cX9_mayBe 40 = .ok (.ifCond .lt 124, 3) := by decide +kernel
theorem dX9_mayBe_43 : decode cX9_mayBe 43 = .ok (.iload_n 2, 1) := by decide +kernel
theorem dX9_mayBe_44 : decode cX9_mayBe 44 = .ok (.aload_n 0, 1) := by decide +kernel
theorem dX9_mayBe_45 : decode cX9_mayBe 45 = .ok (.getfield 79, 3) := by decide +kernel
theorem dX9_mayBe_48 : decode cX9_mayBe 48 = .ok (.iconst 1, 1) := by decide +kernel
theorem dX9_mayBe_49 : decode cX9_mayBe 49 = .ok (.iadd, 1) := by decide +kernel
theorem dX9_mayBe_50 : decode cX9_mayBe 50 = .ok (.irem, 1) := by decide +kernel
theorem dX9_mayBe_51 : decode cX9_mayBe 51 = .ok (.istore 5, 2) := by decide +kernel
theorem dX9_mayBe_53 : decode cX9_mayBe 53 = .ok (.iload_n 2, 1) := by decide +kernel
theorem dX9_mayBe_54 : decode cX9_mayBe 54 = .ok (.aload_n 0, 1) := by decide +kernel
theorem dX9_mayBe_55 : decode cX9_mayBe 55 = .ok (.getfield 79, 3) := by decide +kernel
theorem dX9_mayBe_58 : decode cX9_mayBe 58 = .ok (.iconst 1, 1) := by decide +kernel
theorem dX9_mayBe_59 : decode cX9_mayBe 59 = .ok (.iadd, 1) := by decide +kernel
theorem dX9_mayBe_60 : decode cX9_mayBe 60 = .ok (.idiv, 1) := by decide +kernel
theorem dX9_mayBe_61 : decode cX9_mayBe 61 = .ok (.istore_n 2, 1) := by decide +kernel
theorem dX9_mayBe_62 : decode cX9_mayBe 62 = .ok (.aload_n 0, 1) := by decide +kernel
theorem dX9_mayBe_63 : decode cX9_mayBe 63 = .ok (.getfield 53, 3) := by decide +kernel
theorem dX9_mayBe_66 : decode cX9_mayBe 66 = .ok (.iload 4, 2) := by decide +kernel
theorem dX9_mayBe_68 : decode cX9_mayBe 68 = .ok (.iload 5, 2) := by decide +kernel
theorem dX9_mayBe_70 : decode cX9_mayBe 70 = .ok (.iastore, 1) := by decide +kernel
theorem dX9_mayBe_71 : decode cX9_mayBe 71 = .ok (.iload_n 3, 1) := by decide +kernel
theorem dX9_mayBe_72 : decode cX9_mayBe 72 = .ok (.ifCond .eq 70, 3) := by decide +kernel
theorem dX9_mayBe_75 : decode cX9_mayBe 75 = .ok (.iload 5, 2) := by decide +kernel
theorem dX9_mayBe_77 : decode cX9_mayBe 77 = .ok (.aload_n 0, 1) := by decide +kernel
theorem dX9_mayBe_78 : decode cX9_mayBe 78 = .ok (.getfield 79, 3) := by decide +kernel
theorem dX9_mayBe_81 : decode cX9_mayBe 81 = .ok (.if_icmp .eq 57, 3) := by decide +kernel
theorem dX9_mayBe_84 : decode cX9_mayBe 84 = .ok (.aload_n 0, 1) := by decide +kernel
theorem dX9_mayBe_85 : decode cX9_mayBe 85 = .ok (.iload 4, 2) := by decide +kernel
theorem dX9_mayBe_87 : decode cX9_mayBe 87 = .ok (.invokevirtual 143, 3) := by decide +kernel
theorem dX9_mayBe_90 : decode cX9_mayBe 90 = .ok (.aload_n 0, 1) := by decide +kernel
theorem dX9_mayBe_91 : decode cX9_mayBe 91 = .ok (.getfield 25, 3) := by decide +kernel
theorem dX9_mayBe_94 : decode cX9_mayBe 94 = .ok (.iload 5, 2) := by decide +kernel
theorem dX9_mayBe_96 : decode cX9_mayBe 96 = .ok (.iaload, 1) := by decide +kernel
theorem dX9_mayBe_97 : decode cX9_mayBe 97 = .ok (.if_icmp .gt 45, 3) := by decide +kernel
theorem dX9_mayBe_100 : decode cX9_mayBe 100 = .ok (.aload_n 0, 1) := by decide +kernel
theorem dX9_mayBe_101 : decode cX9_mayBe 101 = .ok (.getfield 59, 3) := by decide +kernel
theorem dX9_mayBe_104 : decode cX9_mayBe 104 = .ok (.iload 5, 2) := by decide +kernel
theorem dX9_mayBe_106 : decode cX9_mayBe 106 = .ok (.iaload, 1) := by decide +kernel
theorem dX9_mayBe_107 : decode cX9_mayBe 107 = .ok (.invokestatic 146, 3) := by decide +kernel
theorem dX9_mayBe_110 : decode cX9_mayBe 110 = .ok (.aload_n 0, 1) := by decide +kernel
theorem dX9_mayBe_111 : decode cX9_mayBe 111 = .ok (.getfield 22, 3) := by decide +kernel
theorem dX9_mayBe_114 : decode cX9_mayBe 114 = .ok (.iload 5, 2) := by decide +kernel
theorem dX9_mayBe_116 : decode cX9_mayBe 116 = .ok (.iaload, 1) := by decide +kernel
theorem dX9_mayBe_117 : decode cX9_mayBe 117 = .ok (.if_icmp .ge 25, 3) := by decide +kernel
theorem dX9_mayBe_120 : decode cX9_mayBe 120 = .ok (.aload_n 0, 1) := by decide +kernel
theorem dX9_mayBe_121 : decode cX9_mayBe 121 = .ok (.getfield 59, 3) := by decide +kernel
theorem dX9_mayBe_124 : decode cX9_mayBe 124 = .ok (.iload 5, 2) := by decide +kernel
theorem dX9_mayBe_126 : decode cX9_mayBe 126 = .ok (.iaload, 1) := by decide +kernel
theorem dX9_mayBe_127 : decode cX9_mayBe 127 = .ok (.aload_n 0, 1) := by decide +kernel
theorem dX9_mayBe_128 : decode cX9_mayBe 128 = .ok (.getfield 16, 3) := by decide +kernel
theorem dX9_mayBe_131 : decode cX9_mayBe 131 = .ok (.iload 4, 2) := by decide +kernel
theorem dX9_mayBe_133 : decode cX9_mayBe 133 = .ok (.iaload, 1) := by decide +kernel
theorem dX9_mayBe_134 : decode cX9_mayBe 134 = .ok (.iand, 1) := by decide +kernel
theorem dX9_mayBe_135 : decode cX9_mayBe 135 = .ok (.ifCond .ne 7, 3) := by decide +kernel
theorem dX9_mayBe_138 : decode cX9_mayBe 138 = .ok (.iconst 1, 1) := by decide +kernel
theorem dX9_mayBe_139 : decode cX9_mayBe 139 = .ok (.goto 4, 3) := by decide +kernel
theorem dX9_mayBe_142 : decode cX9_mayBe 142 = .ok (.iconst 0, 1) := by decide +kernel
theorem dX9_mayBe_143 : decode cX9_mayBe 143 = .ok (.istore_n 3, 1) := by decide +kernel
theorem dX9_mayBe_144 : decode cX9_mayBe 144 = .ok (.aload_n 0, 1) := by decide +kernel
theorem dX9_mayBe_145 : decode cX9_mayBe 145 = .ok (.getfield 59, 3) := by decide +kernel
theorem dX9_mayBe_148 : decode cX9_mayBe 148 = .ok (.iload 5, 2) := by decide +kernel
theorem dX9_mayBe_150 : decode cX9_mayBe 150 = .ok (.dup2, 1) := by decide +kernel
theorem dX9_mayBe_151 : decode cX9_mayBe 151 = .ok (.iaload, 1) := by decide +kernel
theorem dX9_mayBe_152 : decode cX9_mayBe 152 = .ok (.iconst 1, 1) := by decide +kernel
theorem dX9_mayBe_153 : decode cX9_mayBe 153 = .ok (.iload 4, 2) := by decide +kernel
theorem dX9_mayBe_155 : decode cX9_mayBe 155 = .ok (.ishl, 1) := by decide +kernel
theorem dX9_mayBe_156 : decode cX9_mayBe 156 = .ok (.ior, 1) := by decide +kernel
theorem dX9_mayBe_157 : decode cX9_mayBe 157 = .ok (.iastore, 1) := by decide +kernel
theorem dX9_mayBe_158 : decode cX9_mayBe 158 = .ok (.iinc 4 (-1), 3) := by decide +kernel
theorem dX9_mayBe_161 : decode cX9_mayBe 161 = .ok (.goto (-123), 3) := by decide +kernel
theorem dX9_mayBe_164 : decode cX9_mayBe 164 = .ok (.iload_n 3, 1) := by decide +kernel
theorem dX9_mayBe_165 : decode cX9_mayBe 165 = .ok (.ireturn, 1) := by decide +kernel
theorem dX9_plan_0 : decode cX9_plan 0 = .ok (.iload_n 1, 1) := by decide +kernel
theorem dX9_plan_1 : decode cX9_plan 1 = .ok (.iconst (-1), 1) := by decide +kernel
theorem dX9_plan_2 : decode cX9_plan 2 = .ok (.if_icmp .eq 13, 3) := by decide +kernel
theorem dX9_plan_5 : decode cX9_plan 5 = .ok (.aload_n 0, 1) := by decide +kernel
theorem dX9_plan_6 : decode cX9_plan 6 = .ok (.iload_n 1, 1) := by decide +kernel
theorem dX9_plan_7 : decode cX9_plan 7 = .ok (.invokevirtual 149, 3) := by decide +kernel
theorem dX9_plan_10 : decode cX9_plan 10 = .ok (.ifCond .ne 5, 3) := by decide +kernel
theorem dX9_plan_13 : decode cX9_plan 13 = .ok (.iconst (-1), 1) := by decide +kernel
theorem dX9_plan_14 : decode cX9_plan 14 = .ok (.ireturn, 1) := by decide +kernel
theorem dX9_plan_15 : decode cX9_plan 15 = .ok (.iconst (-1), 1) := by decide +kernel
theorem dX9_plan_16 : decode cX9_plan 16 = .ok (.istore_n 2, 1) := by decide +kernel
theorem dX9_plan_17 : decode cX9_plan 17 = .ok (.iconst 0, 1) := by decide +kernel
theorem dX9_plan_18 : decode cX9_plan 18 = .ok (.istore_n 3, 1) := by decide +kernel
theorem dX9_plan_19 : decode cX9_plan 19 = .ok (.iload_n 3, 1) := by decide +kernel
theorem dX9_plan_20 : decode cX9_plan 20 = .ok (.aload_n 0, 1) := by decide +kernel
theorem dX9_plan_21 : decode cX9_plan 21 = .ok (.invokevirtual 194, 3) := by decide +kernel
theorem dX9_plan_24 : decode cX9_plan 24 = .ok (.if_icmp .ge 77, 3) := by decide +kernel
theorem dX9_plan_27 : decode cX9_plan 27 = .ok (.aload_n 0, 1) := by decide +kernel
theorem dX9_plan_28 : decode cX9_plan 28 = .ok (.iload_n 3, 1) := by decide +kernel
theorem dX9_plan_29 : decode cX9_plan 29 = .ok (.invokevirtual 197, 3) := by decide +kernel
theorem dX9_plan_32 : decode cX9_plan 32 = .ok (.ifCond .eq 63, 3) := by decide +kernel
theorem dX9_plan_35 : decode cX9_plan 35 = .ok (.aload_n 0, 1) := by decide +kernel
theorem dX9_plan_36 : decode cX9_plan 36 = .ok (.getfield 71, 3) := by decide +kernel
theorem dX9_plan_39 : decode cX9_plan 39 = .ok (.aload_n 0, 1) := by decide +kernel
theorem dX9_plan_40 : decode cX9_plan 40 = .ok (.getfield 59, 3) := by decide +kernel
theorem dX9_plan_43 : decode cX9_plan 43 = .ok (.aload_n 0, 1) := by decide +kernel
theorem dX9_plan_44 : decode cX9_plan 44 = .ok (.getfield 79, 3) := by decide +kernel
theorem dX9_plan_47 : decode cX9_plan 47 = .ok (.iaload, 1) := by decide +kernel
theorem dX9_plan_48 : decode cX9_plan 48 = .ok (.invokestatic 146, 3) := by decide +kernel
theorem dX9_plan_51 : decode cX9_plan 51 = .ok (.isub, 1) := by decide +kernel
theorem dX9_plan_52 : decode cX9_plan 52 = .ok (.istore 4, 2) := by decide +kernel
theorem dX9_plan_54 : decode cX9_plan 54 = .ok (.iload 4, 2) := by decide +kernel
theorem dX9_plan_56 : decode cX9_plan 56 = .ok (.iload_n 2, 1) := by decide +kernel
theorem dX9_plan_57 : decode cX9_plan 57 = .ok (.if_icmp .le 38, 3) := by decide +kernel
theorem dX9_plan_60 : decode cX9_plan 60 = .ok (.iload 4, 2) := by decide +kernel
theorem dX9_plan_62 : decode cX9_plan 62 = .ok (.istore_n 2, 1) := by decide +kernel
theorem dX9_plan_63 : decode cX9_plan 63 = .ok (.iconst 0, 1) := by decide +kernel
theorem dX9_plan_64 : decode cX9_plan 64 = .ok (.istore 5, 2) := by decide +kernel
theorem dX9_plan_66 : decode cX9_plan 66 = .ok (.iload 5, 2) := by decide +kernel
theorem dX9_plan_68 : decode cX9_plan 68 = .ok (.aload_n 0, 1) := by decide +kernel
theorem dX9_plan_69 : decode cX9_plan 69 = .ok (.getfield 71, 3) := by decide +kernel
theorem dX9_plan_72 : decode cX9_plan 72 = .ok (.if_icmp .ge 23, 3) := by decide +kernel
theorem dX9_plan_75 : decode cX9_plan 75 = .ok (.aload_n 0, 1) := by decide +kernel
theorem dX9_plan_76 : decode cX9_plan 76 = .ok (.getfield 56, 3) := by decide +kernel
theorem dX9_plan_79 : decode cX9_plan 79 = .ok (.iload 5, 2) := by decide +kernel
theorem dX9_plan_81 : decode cX9_plan 81 = .ok (.aload_n 0, 1) := by decide +kernel
theorem dX9_plan_82 : decode cX9_plan 82 = .ok (.getfield 53, 3) := by decide +kernel
theorem dX9_plan_85 : decode cX9_plan 85 = .ok (.iload 5, 2) := by decide +kernel
theorem dX9_plan_87 : decode cX9_plan 87 = .ok (.iaload, 1) := by decide +kernel
theorem dX9_plan_88 : decode cX9_plan 88 = .ok (.iastore, 1) := by decide +kernel
theorem dX9_plan_89 : decode cX9_plan 89 = .ok (.iinc 5 1, 3) := by decide +kernel
theorem dX9_plan_92 : decode cX9_plan 92 = .ok (.goto (-26), 3) := by decide +kernel
theorem dX9_plan_95 : decode cX9_plan 95 = .ok (.iinc 3 1, 3) := by decide +kernel
theorem dX9_plan_98 : decode cX9_plan 98 = .ok (.goto (-79), 3) := by decide +kernel
theorem dX9_plan_101 : decode cX9_plan 101 = .ok (.iload_n 1, 1) := by decide +kernel
theorem dX9_plan_102 : decode cX9_plan 102 = .ok (.iconst (-1), 1) := by decide +kernel
theorem dX9_plan_103 : decode cX9_plan 103 = .ok (.if_icmp .ne 7, 3) := by decide +kernel
theorem dX9_plan_106 : decode cX9_plan 106 = .ok (.iload_n 2, 1) := by decide +kernel
theorem dX9_plan_107 : decode cX9_plan 107 = .ok (.goto 27, 3) := by decide +kernel
theorem dX9_plan_110 : decode cX9_plan 110 = .ok (.aload_n 0, 1) := by decide +kernel
theorem dX9_plan_111 : decode cX9_plan 111 = .ok (.getfield 56, 3) := by decide +kernel
theorem dX9_plan_114 : decode cX9_plan 114 = .ok (.iload_n 1, 1) := by decide +kernel
theorem dX9_plan_115 : decode cX9_plan 115 = .ok (.iaload, 1) := by decide +kernel
theorem dX9_plan_116 : decode cX9_plan 116 = .ok (.aload_n 0, 1) := by decide +kernel
theorem dX9_plan_117 : decode cX9_plan 117 = .ok (.getfield 79, 3) := by decide +kernel
theorem dX9_plan_120 : decode cX9_plan 120 = .ok (.if_icmp .ne 8, 3) := by decide +kernel
theorem dX9_plan_123 : decode cX9_plan 123 = .ok (.bipush (-9), 2) := by decide +kernel
theorem dX9_plan_125 : decode cX9_plan 125 = .ok (.goto 9, 3) := by decide +kernel
theorem dX9_plan_128 : decode cX9_plan 128 = .ok (.aload_n 0, 1) := by decide +kernel
theorem dX9_plan_129 : decode cX9_plan 129 = .ok (.getfield 56, 3) := by decide +kernel
theorem dX9_plan_132 : decode cX9_plan 132 = .ok (.iload_n 1, 1) := by decide +kernel
theorem dX9_plan_133 : decode cX9_plan 133 = .ok (.iaload, 1) := by decide +kernel
theorem dX9_plan_134 : decode cX9_plan 134 = .ok (.ireturn, 1) := by decide +kernel
theorem dX9_soonest_0 : decode cX9_soonest 0 = .ok (.ldc 200, 2) := by decide +kernel
theorem dX9_soonest_2 : decode cX9_soonest 2 = .ok (.istore_n 1, 1) := by decide +kernel
theorem dX9_soonest_3 : decode cX9_soonest 3 = .ok (.iconst 0, 1) := by decide +kernel
theorem dX9_soonest_4 : decode cX9_soonest 4 = .ok (.istore_n 2, 1) := by decide +kernel
theorem dX9_soonest_5 : decode cX9_soonest 5 = .ok (.iload_n 2, 1) := by decide +kernel
theorem dX9_soonest_6 : decode cX9_soonest 6 = .ok (.aload_n 0, 1) := by decide +kernel
theorem dX9_soonest_7 : decode cX9_soonest 7 = .ok (.getfield 71, 3) := by decide +kernel
theorem dX9_soonest_10 : decode cX9_soonest 10 = .ok (.if_icmp .ge 82, 3) := by decide +kernel
theorem dX9_soonest_13 : decode cX9_soonest 13 = .ok (.iconst 0, 1) := by decide +kernel
theorem dX9_soonest_14 : decode cX9_soonest 14 = .ok (.istore_n 3, 1) := by decide +kernel
theorem dX9_soonest_15 : decode cX9_soonest 15 = .ok (.iload_n 3, 1) := by decide +kernel
theorem dX9_soonest_16 : decode cX9_soonest 16 = .ok (.aload_n 0, 1) := by decide +kernel
theorem dX9_soonest_17 : decode cX9_soonest 17 = .ok (.getfield 79, 3) := by decide +kernel
theorem dX9_soonest_20 : decode cX9_soonest 20 = .ok (.if_icmp .gt 66, 3) := by decide +kernel
theorem dX9_soonest_23 : decode cX9_soonest 23 = .ok (.iload_n 3, 1) := by decide +kernel
theorem dX9_soonest_24 : decode cX9_soonest 24 = .ok (.aload_n 0, 1) := by decide +kernel
theorem dX9_soonest_25 : decode cX9_soonest 25 = .ok (.getfield 79, 3) := by decide +kernel
theorem dX9_soonest_28 : decode cX9_soonest 28 = .ok (.if_icmp .ge 12, 3) := by decide +kernel
theorem dX9_soonest_31 : decode cX9_soonest 31 = .ok (.aload_n 0, 1) := by decide +kernel
theorem dX9_soonest_32 : decode cX9_soonest 32 = .ok (.iload_n 2, 1) := by decide +kernel
theorem dX9_soonest_33 : decode cX9_soonest 33 = .ok (.iload_n 3, 1) := by decide +kernel
theorem dX9_soonest_34 : decode cX9_soonest 34 = .ok (.invokevirtual 185, 3) := by decide +kernel
theorem dX9_soonest_37 : decode cX9_soonest 37 = .ok (.goto 17, 3) := by decide +kernel
theorem dX9_soonest_40 : decode cX9_soonest 40 = .ok (.aload_n 0, 1) := by decide +kernel
theorem dX9_soonest_41 : decode cX9_soonest 41 = .ok (.iload_n 2, 1) := by decide +kernel
theorem dX9_soonest_42 : decode cX9_soonest 42 = .ok (.invokevirtual 143, 3) := by decide +kernel
theorem dX9_soonest_45 : decode cX9_soonest 45 = .ok (.ifCond .ne 7, 3) := by decide +kernel
theorem dX9_soonest_48 : decode cX9_soonest 48 = .ok (.iconst 0, 1) := by decide +kernel
theorem dX9_soonest_49 : decode cX9_soonest 49 = .ok (.goto 5, 3) := by decide +kernel
theorem dX9_soonest_52 : decode cX9_soonest 52 = .ok (.bipush (-9), 2) := by decide +kernel
theorem dX9_soonest_54 : decode cX9_soonest 54 = .ok (.istore 4, 2) := by decide +kernel
theorem dX9_soonest_56 : decode cX9_soonest 56 = .ok (.aload_n 0, 1) := by decide +kernel
theorem dX9_soonest_57 : decode cX9_soonest 57 = .ok (.getfield 62, 3) := by decide +kernel
theorem dX9_soonest_60 : decode cX9_soonest 60 = .ok (.iconst 5, 1) := by decide +kernel
theorem dX9_soonest_61 : decode cX9_soonest 61 = .ok (.iload_n 2, 1) := by decide +kernel
theorem dX9_soonest_62 : decode cX9_soonest 62 = .ok (.imul, 1) := by decide +kernel
theorem dX9_soonest_63 : decode cX9_soonest 63 = .ok (.iload_n 3, 1) := by decide +kernel
theorem dX9_soonest_64 : decode cX9_soonest 64 = .ok (.iadd, 1) := by decide +kernel
theorem dX9_soonest_65 : decode cX9_soonest 65 = .ok (.iload 4, 2) := by decide +kernel
theorem dX9_soonest_67 : decode cX9_soonest 67 = .ok (.bipush (-9), 2) := by decide +kernel
theorem dX9_soonest_69 : decode cX9_soonest 69 = .ok (.if_icmp .ne 8, 3) := by decide +kernel
theorem dX9_soonest_72 : decode cX9_soonest 72 = .ok (.ldc 200, 2) := by decide +kernel
theorem dX9_soonest_74 : decode cX9_soonest 74 = .ok (.goto 5, 3) := by decide +kernel
theorem dX9_soonest_77 : decode cX9_soonest 77 = .ok (.iload 4, 2) := by decide +kernel
theorem dX9_soonest_79 : decode cX9_soonest 79 = .ok (.iastore, 1) := by decide +kernel
theorem dX9_soonest_80 : decode cX9_soonest 80 = .ok (.iinc 3 1, 3) := by decide +kernel
theorem dX9_soonest_83 : decode cX9_soonest 83 = .ok (.goto (-68), 3) := by decide +kernel
theorem dX9_soonest_86 : decode cX9_soonest 86 = .ok (.iinc 2 1, 3) := by decide +kernel
theorem dX9_soonest_89 : decode cX9_soonest 89 = .ok (.goto (-84), 3) := by decide +kernel
theorem dX9_soonest_92 : decode cX9_soonest 92 = .ok (.iconst 0, 1) := by decide +kernel
theorem dX9_soonest_93 : decode cX9_soonest 93 = .ok (.istore_n 2, 1) := by decide +kernel
theorem dX9_soonest_94 : decode cX9_soonest 94 = .ok (.iload_n 2, 1) := by decide +kernel
theorem dX9_soonest_95 : decode cX9_soonest 95 = .ok (.aload_n 0, 1) := by decide +kernel
theorem dX9_soonest_96 : decode cX9_soonest 96 = .ok (.invokevirtual 194, 3) := by decide +kernel
theorem dX9_soonest_99 : decode cX9_soonest 99 = .ok (.if_icmp .ge 80, 3) := by decide +kernel
theorem dX9_soonest_102 : decode cX9_soonest 102 = .ok (.aload_n 0, 1) := by decide +kernel
theorem dX9_soonest_103 : decode cX9_soonest 103 = .ok (.iload_n 2, 1) := by decide +kernel
theorem dX9_soonest_104 : decode cX9_soonest 104 = .ok (.invokevirtual 197, 3) := by decide +kernel
theorem dX9_soonest_107 : decode cX9_soonest 107 = .ok (.ifCond .eq 66, 3) := by decide +kernel
theorem dX9_soonest_110 : decode cX9_soonest 110 = .ok (.iconst 0, 1) := by decide +kernel
theorem dX9_soonest_111 : decode cX9_soonest 111 = .ok (.istore_n 3, 1) := by decide +kernel
theorem dX9_soonest_112 : decode cX9_soonest 112 = .ok (.iconst 0, 1) := by decide +kernel
theorem dX9_soonest_113 : decode cX9_soonest 113 = .ok (.istore 4, 2) := by decide +kernel
theorem dX9_soonest_115 : decode cX9_soonest 115 = .ok (.iload 4, 2) := by decide +kernel
theorem dX9_soonest_117 : decode cX9_soonest 117 = .ok (.aload_n 0, 1) := by decide +kernel
theorem dX9_soonest_118 : decode cX9_soonest 118 = .ok (.getfield 71, 3) := by decide +kernel
theorem dX9_soonest_121 : decode cX9_soonest 121 = .ok (.if_icmp .ge 41, 3) := by decide +kernel
theorem dX9_soonest_124 : decode cX9_soonest 124 = .ok (.aload_n 0, 1) := by decide +kernel
theorem dX9_soonest_125 : decode cX9_soonest 125 = .ok (.getfield 62, 3) := by decide +kernel
theorem dX9_soonest_128 : decode cX9_soonest 128 = .ok (.iconst 5, 1) := by decide +kernel
theorem dX9_soonest_129 : decode cX9_soonest 129 = .ok (.iload 4, 2) := by decide +kernel
theorem dX9_soonest_131 : decode cX9_soonest 131 = .ok (.imul, 1) := by decide +kernel
theorem dX9_soonest_132 : decode cX9_soonest 132 = .ok (.aload_n 0, 1) := by decide +kernel
theorem dX9_soonest_133 : decode cX9_soonest 133 = .ok (.getfield 53, 3) := by decide +kernel
theorem dX9_soonest_136 : decode cX9_soonest 136 = .ok (.iload 4, 2) := by decide +kernel
theorem dX9_soonest_138 : decode cX9_soonest 138 = .ok (.iaload, 1) := by decide +kernel
theorem dX9_soonest_139 : decode cX9_soonest 139 = .ok (.iadd, 1) := by decide +kernel
theorem dX9_soonest_140 : decode cX9_soonest 140 = .ok (.iaload, 1) := by decide +kernel
theorem dX9_soonest_141 : decode cX9_soonest 141 = .ok (.istore 5, 2) := by decide +kernel
theorem dX9_soonest_143 : decode cX9_soonest 143 = .ok (.iload 5, 2) := by decide +kernel
theorem dX9_soonest_145 : decode cX9_soonest 145 = .ok (.iload_n 3, 1) := by decide +kernel
theorem dX9_soonest_146 : decode cX9_soonest 146 = .ok (.if_icmp .le 8, 3) := by decide +kernel
theorem dX9_soonest_149 : decode cX9_soonest 149 = .ok (.iload 5, 2) := by decide +kernel
theorem dX9_soonest_151 : decode cX9_soonest 151 = .ok (.goto 4, 3) := by decide +kernel
theorem dX9_soonest_154 : decode cX9_soonest 154 = .ok (.iload_n 3, 1) := by decide +kernel
theorem dX9_soonest_155 : decode cX9_soonest 155 = .ok (.istore_n 3, 1) := by decide +kernel
theorem dX9_soonest_156 : decode cX9_soonest 156 = .ok (.iinc 4 1, 3) := by decide +kernel
theorem dX9_soonest_159 : decode cX9_soonest 159 = .ok (.goto (-44), 3) := by decide +kernel
theorem dX9_soonest_162 : decode cX9_soonest 162 = .ok (.iload_n 3, 1) := by decide +kernel
theorem dX9_soonest_163 : decode cX9_soonest 163 = .ok (.iload_n 1, 1) := by decide +kernel
theorem dX9_soonest_164 : decode cX9_soonest 164 = .ok (.if_icmp .ge 7, 3) := by decide +kernel
theorem dX9_soonest_167 : decode cX9_soonest 167 = .ok (.iload_n 3, 1) := by decide +kernel
theorem dX9_soonest_168 : decode cX9_soonest 168 = .ok (.goto 4, 3) := by decide +kernel
theorem dX9_soonest_171 : decode cX9_soonest 171 = .ok (.iload_n 1, 1) := by decide +kernel
theorem dX9_soonest_172 : decode cX9_soonest 172 = .ok (.istore_n 1, 1) := by decide +kernel
theorem dX9_soonest_173 : decode cX9_soonest 173 = .ok (.iinc 2 1, 3) := by decide +kernel
theorem dX9_soonest_176 : decode cX9_soonest 176 = .ok (.goto (-82), 3) := by decide +kernel
theorem dX9_soonest_179 : decode cX9_soonest 179 = .ok (.iload_n 1, 1) := by decide +kernel
theorem dX9_soonest_180 : decode cX9_soonest 180 = .ok (.ldc 200, 2) := by decide +kernel
theorem dX9_soonest_182 : decode cX9_soonest 182 = .ok (.if_icmp .ne 8, 3) := by decide +kernel
theorem dX9_soonest_185 : decode cX9_soonest 185 = .ok (.bipush (-9), 2) := by decide +kernel
theorem dX9_soonest_187 : decode cX9_soonest 187 = .ok (.goto 4, 3) := by decide +kernel
theorem dX9_soonest_190 : decode cX9_soonest 190 = .ok (.iload_n 1, 1) := by decide +kernel
theorem dX9_soonest_191 : decode cX9_soonest 191 = .ok (.ireturn, 1) := by decide +kernel
theorem dX9_worthBehind_0 : decode cX9_worthBehind 0 = .ok (.bipush 50, 2) := by decide +kernel
theorem dX9_worthBehind_2 : decode cX9_worthBehind 2 = .ok (.aload_n 0, 1) := by decide +kernel
theorem dX9_worthBehind_3 : decode cX9_worthBehind 3 = .ok (.iload_n 1, 1) := by decide +kernel
theorem dX9_worthBehind_4 : decode cX9_worthBehind 4 = .ok (.iload_n 2, 1) := by decide +kernel
theorem dX9_worthBehind_5 : decode cX9_worthBehind 5 = .ok (.invokevirtual 191, 3) := by decide +kernel
theorem dX9_worthBehind_8 : decode cX9_worthBehind 8 = .ok (.isub, 1) := by decide +kernel
theorem dX9_worthBehind_9 : decode cX9_worthBehind 9 = .ok (.istore_n 3, 1) := by decide +kernel
theorem dX9_worthBehind_10 : decode cX9_worthBehind 10 = .ok (.iload_n 3, 1) := by decide +kernel
theorem dX9_worthBehind_11 : decode cX9_worthBehind 11 = .ok (.ifCond .le 7, 3) := by decide +kernel
theorem dX9_worthBehind_14 : decode cX9_worthBehind 14 = .ok (.iload_n 3, 1) := by decide +kernel
theorem dX9_worthBehind_15 : decode cX9_worthBehind 15 = .ok (.goto 4, 3) := by decide +kernel
theorem dX9_worthBehind_18 : decode cX9_worthBehind 18 = .ok (.iconst 0, 1) := by decide +kernel
theorem dX9_worthBehind_19 : decode cX9_worthBehind 19 = .ok (.iconst 2, 1) := by decide +kernel
theorem dX9_worthBehind_20 : decode cX9_worthBehind 20 = .ok (.iload_n 2, 1) := by decide +kernel
theorem dX9_worthBehind_21 : decode cX9_worthBehind 21 = .ok (.imul, 1) := by decide +kernel
theorem dX9_worthBehind_22 : decode cX9_worthBehind 22 = .ok (.isub, 1) := by decide +kernel
theorem dX9_worthBehind_23 : decode cX9_worthBehind 23 = .ok (.istore 4, 2) := by decide +kernel
theorem dX9_worthBehind_25 : decode cX9_worthBehind 25 = .ok (.aload_n 0, 1) := by decide +kernel
theorem dX9_worthBehind_26 : decode cX9_worthBehind 26 = .ok (.getfield 28, 3) := by decide +kernel
theorem dX9_worthBehind_29 : decode cX9_worthBehind 29 = .ok (.iconst 0, 1) := by decide +kernel
theorem dX9_worthBehind_30 : decode cX9_worthBehind 30 = .ok (.iaload, 1) := by decide +kernel
theorem dX9_worthBehind_31 : decode cX9_worthBehind 31 = .ok (.iload_n 2, 1) := by decide +kernel
theorem dX9_worthBehind_32 : decode cX9_worthBehind 32 = .ok (.iadd, 1) := by decide +kernel
theorem dX9_worthBehind_33 : decode cX9_worthBehind 33 = .ok (.aload_n 0, 1) := by decide +kernel
theorem dX9_worthBehind_34 : decode cX9_worthBehind 34 = .ok (.getfield 13, 3) := by decide +kernel
theorem dX9_worthBehind_37 : decode cX9_worthBehind 37 = .ok (.iload_n 1, 1) := by decide +kernel
theorem dX9_worthBehind_38 : decode cX9_worthBehind 38 = .ok (.iaload, 1) := by decide +kernel
theorem dX9_worthBehind_39 : decode cX9_worthBehind 39 = .ok (.if_icmp .le 11, 3) := by decide +kernel
theorem dX9_worthBehind_42 : decode cX9_worthBehind 42 = .ok (.iload 4, 2) := by decide +kernel
theorem dX9_worthBehind_44 : decode cX9_worthBehind 44 = .ok (.bipush 30, 2) := by decide +kernel
theorem dX9_worthBehind_46 : decode cX9_worthBehind 46 = .ok (.isub, 1) := by decide +kernel
theorem dX9_worthBehind_47 : decode cX9_worthBehind 47 = .ok (.goto 5, 3) := by decide +kernel
theorem dX9_worthBehind_50 : decode cX9_worthBehind 50 = .ok (.iload 4, 2) := by decide +kernel
theorem dX9_worthBehind_52 : decode cX9_worthBehind 52 = .ok (.ireturn, 1) := by decide +kernel
theorem dX9_best_0 : decode cX9_best 0 = .ok (.aload_n 0, 1) := by decide +kernel
theorem dX9_best_1 : decode cX9_best 1 = .ok (.iload_n 1, 1) := by decide +kernel
theorem dX9_best_2 : decode cX9_best 2 = .ok (.invokevirtual 149, 3) := by decide +kernel
theorem dX9_best_5 : decode cX9_best 5 = .ok (.ifCond .eq 13, 3) := by decide +kernel
theorem dX9_best_8 : decode cX9_best 8 = .ok (.iload_n 2, 1) := by decide +kernel
theorem dX9_best_9 : decode cX9_best 9 = .ok (.i2l, 1) := by decide +kernel
theorem dX9_best_10 : decode cX9_best 10 = .ok (.lconst 0, 1) := by decide +kernel
theorem dX9_best_11 : decode cX9_best 11 = .ok (.lconst 1, 1) := by decide +kernel
theorem dX9_best_12 : decode cX9_best 12 = .ok (.invokestatic 75, 3) := by decide +kernel
theorem dX9_best_15 : decode cX9_best 15 = .ok (.ifCond .ne 6, 3) := by decide +kernel
theorem dX9_best_18 : decode cX9_best 18 = .ok (.ldc 201, 2) := by decide +kernel
theorem dX9_best_20 : decode cX9_best 20 = .ok (.ireturn, 1) := by decide +kernel
theorem dX9_best_21 : decode cX9_best 21 = .ok (.iconst 0, 1) := by decide +kernel
theorem dX9_best_22 : decode cX9_best 22 = .ok (.istore_n 3, 1) := by decide +kernel
theorem dX9_best_23 : decode cX9_best 23 = .ok (.iconst 1, 1) := by decide +kernel
theorem dX9_best_24 : decode cX9_best 24 = .ok (.istore 4, 2) := by decide +kernel
theorem dX9_best_26 : decode cX9_best 26 = .ok (.iload 4, 2) := by decide +kernel
theorem dX9_best_28 : decode cX9_best 28 = .ok (.bipush 20, 2) := by decide +kernel
theorem dX9_best_30 : decode cX9_best 30 = .ok (.if_icmp .gt 32, 3) := by decide +kernel
theorem dX9_best_33 : decode cX9_best 33 = .ok (.aload_n 0, 1) := by decide +kernel
theorem dX9_best_34 : decode cX9_best 34 = .ok (.iload_n 1, 1) := by decide +kernel
theorem dX9_best_35 : decode cX9_best 35 = .ok (.iload 4, 2) := by decide +kernel
theorem dX9_best_37 : decode cX9_best 37 = .ok (.invokevirtual 202, 3) := by decide +kernel
theorem dX9_best_40 : decode cX9_best 40 = .ok (.aload_n 0, 1) := by decide +kernel
theorem dX9_best_41 : decode cX9_best 41 = .ok (.iload_n 1, 1) := by decide +kernel
theorem dX9_best_42 : decode cX9_best 42 = .ok (.iload_n 3, 1) := by decide +kernel
theorem dX9_best_43 : decode cX9_best 43 = .ok (.invokevirtual 202, 3) := by decide +kernel
theorem dX9_best_46 : decode cX9_best 46 = .ok (.if_icmp .le 8, 3) := by decide +kernel
theorem dX9_best_49 : decode cX9_best 49 = .ok (.iload 4, 2) := by decide +kernel
theorem dX9_best_51 : decode cX9_best 51 = .ok (.goto 4, 3) := by decide +kernel
theorem dX9_best_54 : decode cX9_best 54 = .ok (.iload_n 3, 1) := by decide +kernel
theorem dX9_best_55 : decode cX9_best 55 = .ok (.istore_n 3, 1) := by decide +kernel
theorem dX9_best_56 : decode cX9_best 56 = .ok (.iinc 4 1, 3) := by decide +kernel
theorem dX9_best_59 : decode cX9_best 59 = .ok (.goto (-33), 3) := by decide +kernel
theorem dX9_best_62 : decode cX9_best 62 = .ok (.iload_n 2, 1) := by decide +kernel
theorem dX9_best_63 : decode cX9_best 63 = .ok (.ifCond .ne 7, 3) := by decide +kernel
theorem dX9_best_66 : decode cX9_best 66 = .ok (.iload_n 3, 1) := by decide +kernel
theorem dX9_best_67 : decode cX9_best 67 = .ok (.goto 9, 3) := by decide +kernel
theorem dX9_best_70 : decode cX9_best 70 = .ok (.aload_n 0, 1) := by decide +kernel
theorem dX9_best_71 : decode cX9_best 71 = .ok (.iload_n 1, 1) := by decide +kernel
theorem dX9_best_72 : decode cX9_best 72 = .ok (.iload_n 3, 1) := by decide +kernel
theorem dX9_best_73 : decode cX9_best 73 = .ok (.invokevirtual 202, 3) := by decide +kernel
theorem dX9_best_76 : decode cX9_best 76 = .ok (.ireturn, 1) := by decide +kernel
theorem dX9_isBed_0 : decode cX9_isBed 0 = .ok (.iload_n 1, 1) := by decide +kernel
theorem dX9_isBed_1 : decode cX9_isBed 1 = .ok (.iload_n 2, 1) := by decide +kernel
theorem dX9_isBed_2 : decode cX9_isBed 2 = .ok (.if_icmp .eq 35, 3) := by decide +kernel
theorem dX9_isBed_5 : decode cX9_isBed 5 = .ok (.aload_n 0, 1) := by decide +kernel
theorem dX9_isBed_6 : decode cX9_isBed 6 = .ok (.getfield 16, 3) := by decide +kernel
theorem dX9_isBed_9 : decode cX9_isBed 9 = .ok (.iload_n 1, 1) := by decide +kernel
theorem dX9_isBed_10 : decode cX9_isBed 10 = .ok (.iaload, 1) := by decide +kernel
theorem dX9_isBed_11 : decode cX9_isBed 11 = .ok (.iload_n 2, 1) := by decide +kernel
theorem dX9_isBed_12 : decode cX9_isBed 12 = .ok (.invokestatic 205, 3) := by decide +kernel
theorem dX9_isBed_15 : decode cX9_isBed 15 = .ok (.ifCond .ne 22, 3) := by decide +kernel
theorem dX9_isBed_18 : decode cX9_isBed 18 = .ok (.aload_n 0, 1) := by decide +kernel
theorem dX9_isBed_19 : decode cX9_isBed 19 = .ok (.iload_n 1, 1) := by decide +kernel
theorem dX9_isBed_20 : decode cX9_isBed 20 = .ok (.invokevirtual 143, 3) := by decide +kernel
theorem dX9_isBed_23 : decode cX9_isBed 23 = .ok (.aload_n 0, 1) := by decide +kernel
theorem dX9_isBed_24 : decode cX9_isBed 24 = .ok (.iload_n 2, 1) := by decide +kernel
theorem dX9_isBed_25 : decode cX9_isBed 25 = .ok (.invokevirtual 143, 3) := by decide +kernel
theorem dX9_isBed_28 : decode cX9_isBed 28 = .ok (.iadd, 1) := by decide +kernel
theorem dX9_isBed_29 : decode cX9_isBed 29 = .ok (.iload_n 3, 1) := by decide +kernel
theorem dX9_isBed_30 : decode cX9_isBed 30 = .ok (.if_icmp .gt 7, 3) := by decide +kernel
theorem dX9_isBed_33 : decode cX9_isBed 33 = .ok (.iconst 1, 1) := by decide +kernel
theorem dX9_isBed_34 : decode cX9_isBed 34 = .ok (.goto 4, 3) := by decide +kernel
theorem dX9_isBed_37 : decode cX9_isBed 37 = .ok (.iconst 0, 1) := by decide +kernel
theorem dX9_isBed_38 : decode cX9_isBed 38 = .ok (.ireturn, 1) := by decide +kernel
theorem dX9_bedsBy_0 : decode cX9_bedsBy 0 = .ok (.iload_n 1, 1) := by decide +kernel
theorem dX9_bedsBy_1 : decode cX9_bedsBy 1 = .ok (.istore_n 3, 1) := by decide +kernel
theorem dX9_bedsBy_2 : decode cX9_bedsBy 2 = .ok (.iconst 0, 1) := by decide +kernel
theorem dX9_bedsBy_3 : decode cX9_bedsBy 3 = .ok (.istore 4, 2) := by decide +kernel
theorem dX9_bedsBy_5 : decode cX9_bedsBy 5 = .ok (.aload_n 0, 1) := by decide +kernel
theorem dX9_bedsBy_6 : decode cX9_bedsBy 6 = .ok (.getfield 71, 3) := by decide +kernel
theorem dX9_bedsBy_9 : decode cX9_bedsBy 9 = .ok (.iconst 1, 1) := by decide +kernel
theorem dX9_bedsBy_10 : decode cX9_bedsBy 10 = .ok (.isub, 1) := by decide +kernel
theorem dX9_bedsBy_11 : decode cX9_bedsBy 11 = .ok (.istore 5, 2) := by decide +kernel
theorem dX9_bedsBy_13 : decode cX9_bedsBy 13 = .ok (.iload 5, 2) := by decide +kernel
theorem dX9_bedsBy_15 : decode cX9_bedsBy 15 = .ok (.ifCond .lt 33, 3) := by decide +kernel
theorem dX9_bedsBy_18 : decode cX9_bedsBy 18 = .ok (.aload_n 0, 1) := by decide +kernel
theorem dX9_bedsBy_19 : decode cX9_bedsBy 19 = .ok (.getfield 65, 3) := by decide +kernel
theorem dX9_bedsBy_22 : decode cX9_bedsBy 22 = .ok (.iload 5, 2) := by decide +kernel
theorem dX9_bedsBy_24 : decode cX9_bedsBy 24 = .ok (.iload_n 3, 1) := by decide +kernel
theorem dX9_bedsBy_25 : decode cX9_bedsBy 25 = .ok (.aload_n 0, 1) := by decide +kernel
theorem dX9_bedsBy_26 : decode cX9_bedsBy 26 = .ok (.getfield 71, 3) := by decide +kernel
theorem dX9_bedsBy_29 : decode cX9_bedsBy 29 = .ok (.iconst 1, 1) := by decide +kernel
theorem dX9_bedsBy_30 : decode cX9_bedsBy 30 = .ok (.iadd, 1) := by decide +kernel
theorem dX9_bedsBy_31 : decode cX9_bedsBy 31 = .ok (.irem, 1) := by decide +kernel
theorem dX9_bedsBy_32 : decode cX9_bedsBy 32 = .ok (.iastore, 1) := by decide +kernel
theorem dX9_bedsBy_33 : decode cX9_bedsBy 33 = .ok (.iload_n 3, 1) := by decide +kernel
theorem dX9_bedsBy_34 : decode cX9_bedsBy 34 = .ok (.aload_n 0, 1) := by decide +kernel
theorem dX9_bedsBy_35 : decode cX9_bedsBy 35 = .ok (.getfield 71, 3) := by decide +kernel
theorem dX9_bedsBy_38 : decode cX9_bedsBy 38 = .ok (.iconst 1, 1) := by decide +kernel
theorem dX9_bedsBy_39 : decode cX9_bedsBy 39 = .ok (.iadd, 1) := by decide +kernel
theorem dX9_bedsBy_40 : decode cX9_bedsBy 40 = .ok (.idiv, 1) := by decide +kernel
theorem dX9_bedsBy_41 : decode cX9_bedsBy 41 = .ok (.istore_n 3, 1) := by decide +kernel
theorem dX9_bedsBy_42 : decode cX9_bedsBy 42 = .ok (.iinc 5 (-1), 3) := by decide +kernel
theorem dX9_bedsBy_45 : decode cX9_bedsBy 45 = .ok (.goto (-32), 3) := by decide +kernel
theorem dX9_bedsBy_48 : decode cX9_bedsBy 48 = .ok (.iconst 0, 1) := by decide +kernel
theorem dX9_bedsBy_49 : decode cX9_bedsBy 49 = .ok (.istore 5, 2) := by decide +kernel
theorem dX9_bedsBy_51 : decode cX9_bedsBy 51 = .ok (.iload 5, 2) := by decide +kernel
theorem dX9_bedsBy_53 : decode cX9_bedsBy 53 = .ok (.aload_n 0, 1) := by decide +kernel
theorem dX9_bedsBy_54 : decode cX9_bedsBy 54 = .ok (.getfield 71, 3) := by decide +kernel
theorem dX9_bedsBy_57 : decode cX9_bedsBy 57 = .ok (.if_icmp .ge 71, 3) := by decide +kernel
theorem dX9_bedsBy_60 : decode cX9_bedsBy 60 = .ok (.aload_n 0, 1) := by decide +kernel
theorem dX9_bedsBy_61 : decode cX9_bedsBy 61 = .ok (.getfield 65, 3) := by decide +kernel
theorem dX9_bedsBy_64 : decode cX9_bedsBy 64 = .ok (.iload 5, 2) := by decide +kernel
theorem dX9_bedsBy_66 : decode cX9_bedsBy 66 = .ok (.iaload, 1) := by decide +kernel
theorem dX9_bedsBy_67 : decode cX9_bedsBy 67 = .ok (.istore 6, 2) := by decide +kernel
theorem dX9_bedsBy_69 : decode cX9_bedsBy 69 = .ok (.iload 6, 2) := by decide +kernel
theorem dX9_bedsBy_71 : decode cX9_bedsBy 71 = .ok (.aload_n 0, 1) := by decide +kernel
theorem dX9_bedsBy_72 : decode cX9_bedsBy 72 = .ok (.getfield 71, 3) := by decide +kernel
theorem dX9_bedsBy_75 : decode cX9_bedsBy 75 = .ok (.if_icmp .ge 47, 3) := by decide +kernel
theorem dX9_bedsBy_78 : decode cX9_bedsBy 78 = .ok (.aload_n 0, 1) := by decide +kernel
theorem dX9_bedsBy_79 : decode cX9_bedsBy 79 = .ok (.getfield 65, 3) := by decide +kernel
theorem dX9_bedsBy_82 : decode cX9_bedsBy 82 = .ok (.iload 6, 2) := by decide +kernel
theorem dX9_bedsBy_84 : decode cX9_bedsBy 84 = .ok (.iaload, 1) := by decide +kernel
theorem dX9_bedsBy_85 : decode cX9_bedsBy 85 = .ok (.iload 5, 2) := by decide +kernel
theorem dX9_bedsBy_87 : decode cX9_bedsBy 87 = .ok (.if_icmp .ne 15, 3) := by decide +kernel
theorem dX9_bedsBy_90 : decode cX9_bedsBy 90 = .ok (.aload_n 0, 1) := by decide +kernel
theorem dX9_bedsBy_91 : decode cX9_bedsBy 91 = .ok (.iload 5, 2) := by decide +kernel
theorem dX9_bedsBy_93 : decode cX9_bedsBy 93 = .ok (.iload 6, 2) := by decide +kernel
theorem dX9_bedsBy_95 : decode cX9_bedsBy 95 = .ok (.iload_n 2, 1) := by decide +kernel
theorem dX9_bedsBy_96 : decode cX9_bedsBy 96 = .ok (.invokevirtual 208, 3) := by decide +kernel
theorem dX9_bedsBy_99 : decode cX9_bedsBy 99 = .ok (.ifCond .ne 6, 3) := by decide +kernel
theorem dX9_bedsBy_102 : decode cX9_bedsBy 102 = .ok (.bipush (-9), 2) := by decide +kernel
theorem dX9_bedsBy_104 : decode cX9_bedsBy 104 = .ok (.ireturn, 1) := by decide +kernel
theorem dX9_bedsBy_105 : decode cX9_bedsBy 105 = .ok (.iload 4, 2) := by decide +kernel
theorem dX9_bedsBy_107 : decode cX9_bedsBy 107 = .ok (.iload 6, 2) := by decide +kernel
theorem dX9_bedsBy_109 : decode cX9_bedsBy 109 = .ok (.iload 5, 2) := by decide +kernel
theorem dX9_bedsBy_111 : decode cX9_bedsBy 111 = .ok (.if_icmp .le 7, 3) := by decide +kernel
theorem dX9_bedsBy_114 : decode cX9_bedsBy 114 = .ok (.iconst 1, 1) := by decide +kernel
theorem dX9_bedsBy_115 : decode cX9_bedsBy 115 = .ok (.goto 4, 3) := by decide +kernel
theorem dX9_bedsBy_118 : decode cX9_bedsBy 118 = .ok (.iconst 0, 1) := by decide +kernel
theorem dX9_bedsBy_119 : decode cX9_bedsBy 119 = .ok (.iadd, 1) := by decide +kernel
theorem dX9_bedsBy_120 : decode cX9_bedsBy 120 = .ok (.istore 4, 2) := by decide +kernel
theorem dX9_bedsBy_122 : decode cX9_bedsBy 122 = .ok (.iinc 5 1, 3) := by decide +kernel
theorem dX9_bedsBy_125 : decode cX9_bedsBy 125 = .ok (.goto (-74), 3) := by decide +kernel
theorem dX9_bedsBy_128 : decode cX9_bedsBy 128 = .ok (.iload 4, 2) := by decide +kernel
theorem dX9_bedsBy_130 : decode cX9_bedsBy 130 = .ok (.ireturn, 1) := by decide +kernel
theorem dX9_beds_0 : decode cX9_beds 0 = .ok (.iload_n 1, 1) := by decide +kernel
theorem dX9_beds_1 : decode cX9_beds 1 = .ok (.i2l, 1) := by decide +kernel
theorem dX9_beds_2 : decode cX9_beds 2 = .ok (.lconst 0, 1) := by decide +kernel
theorem dX9_beds_3 : decode cX9_beds 3 = .ok (.ldc2_w 211, 3) := by decide +kernel
theorem dX9_beds_6 : decode cX9_beds 6 = .ok (.invokestatic 75, 3) := by decide +kernel
theorem dX9_beds_9 : decode cX9_beds 9 = .ok (.ifCond .eq 16, 3) := by decide +kernel
theorem dX9_beds_12 : decode cX9_beds 12 = .ok (.iload_n 2, 1) := by decide +kernel
theorem dX9_beds_13 : decode cX9_beds 13 = .ok (.iconst (-1), 1) := by decide +kernel
theorem dX9_beds_14 : decode cX9_beds 14 = .ok (.if_icmp .eq 13, 3) := by decide +kernel
theorem dX9_beds_17 : decode cX9_beds 17 = .ok (.aload_n 0, 1) := by decide +kernel
theorem dX9_beds_18 : decode cX9_beds 18 = .ok (.iload_n 2, 1) := by decide +kernel
theorem dX9_beds_19 : decode cX9_beds 19 = .ok (.invokevirtual 149, 3) := by decide +kernel
theorem dX9_beds_22 : decode cX9_beds 22 = .ok (.ifCond .ne 5, 3) := by decide +kernel
theorem dX9_beds_25 : decode cX9_beds 25 = .ok (.iconst (-1), 1) := by decide +kernel
theorem dX9_beds_26 : decode cX9_beds 26 = .ok (.ireturn, 1) := by decide +kernel
theorem dX9_beds_27 : decode cX9_beds 27 = .ok (.iconst 1, 1) := by decide +kernel
theorem dX9_beds_28 : decode cX9_beds 28 = .ok (.istore_n 3, 1) := by decide +kernel
theorem dX9_beds_29 : decode cX9_beds 29 = .ok (.iconst (-1), 1) := by decide +kernel
theorem dX9_beds_30 : decode cX9_beds 30 = .ok (.istore 4, 2) := by decide +kernel
theorem dX9_beds_32 : decode cX9_beds 32 = .ok (.iconst 0, 1) := by decide +kernel
theorem dX9_beds_33 : decode cX9_beds 33 = .ok (.istore 5, 2) := by decide +kernel
theorem dX9_beds_35 : decode cX9_beds 35 = .ok (.iload 5, 2) := by decide +kernel
theorem dX9_beds_37 : decode cX9_beds 37 = .ok (.aload_n 0, 1) := by decide +kernel
theorem dX9_beds_38 : decode cX9_beds 38 = .ok (.getfield 71, 3) := by decide +kernel
theorem dX9_beds_41 : decode cX9_beds 41 = .ok (.if_icmp .ge 18, 3) := by decide +kernel
theorem dX9_beds_44 : decode cX9_beds 44 = .ok (.iload_n 3, 1) := by decide +kernel
theorem dX9_beds_45 : decode cX9_beds 45 = .ok (.aload_n 0, 1) := by decide +kernel
theorem dX9_beds_46 : decode cX9_beds 46 = .ok (.getfield 71, 3) := by decide +kernel
theorem dX9_beds_49 : decode cX9_beds 49 = .ok (.iconst 1, 1) := by decide +kernel
theorem dX9_beds_50 : decode cX9_beds 50 = .ok (.iadd, 1) := by decide +kernel
theorem dX9_beds_51 : decode cX9_beds 51 = .ok (.imul, 1) := by decide +kernel
theorem dX9_beds_52 : decode cX9_beds 52 = .ok (.istore_n 3, 1) := by decide +kernel
theorem dX9_beds_53 : decode cX9_beds 53 = .ok (.iinc 5 1, 3) := by decide +kernel
theorem dX9_beds_56 : decode cX9_beds 56 = .ok (.goto (-21), 3) := by decide +kernel
theorem dX9_beds_59 : decode cX9_beds 59 = .ok (.iconst 0, 1) := by decide +kernel
theorem dX9_beds_60 : decode cX9_beds 60 = .ok (.istore 5, 2) := by decide +kernel
theorem dX9_beds_62 : decode cX9_beds 62 = .ok (.iload 5, 2) := by decide +kernel
theorem dX9_beds_64 : decode cX9_beds 64 = .ok (.iload_n 3, 1) := by decide +kernel
theorem dX9_beds_65 : decode cX9_beds 65 = .ok (.if_icmp .ge 61, 3) := by decide +kernel
theorem dX9_beds_68 : decode cX9_beds 68 = .ok (.aload_n 0, 1) := by decide +kernel
theorem dX9_beds_69 : decode cX9_beds 69 = .ok (.iload 5, 2) := by decide +kernel
theorem dX9_beds_71 : decode cX9_beds 71 = .ok (.iload_n 1, 1) := by decide +kernel
theorem dX9_beds_72 : decode cX9_beds 72 = .ok (.invokevirtual 213, 3) := by decide +kernel
theorem dX9_beds_75 : decode cX9_beds 75 = .ok (.istore 6, 2) := by decide +kernel
theorem dX9_beds_77 : decode cX9_beds 77 = .ok (.iload 6, 2) := by decide +kernel
theorem dX9_beds_79 : decode cX9_beds 79 = .ok (.iload 4, 2) := by decide +kernel
theorem dX9_beds_81 : decode cX9_beds 81 = .ok (.if_icmp .le 39, 3) := by decide +kernel
theorem dX9_beds_84 : decode cX9_beds 84 = .ok (.iload 6, 2) := by decide +kernel
theorem dX9_beds_86 : decode cX9_beds 86 = .ok (.istore 4, 2) := by decide +kernel
theorem dX9_beds_88 : decode cX9_beds 88 = .ok (.iconst 0, 1) := by decide +kernel
theorem dX9_beds_89 : decode cX9_beds 89 = .ok (.istore 7, 2) := by decide +kernel
theorem dX9_beds_91 : decode cX9_beds 91 = .ok (.iload 7, 2) := by decide +kernel
theorem dX9_beds_93 : decode cX9_beds 93 = .ok (.aload_n 0, 1) := by decide +kernel
theorem dX9_beds_94 : decode cX9_beds 94 = .ok (.getfield 71, 3) := by decide +kernel
theorem dX9_beds_97 : decode cX9_beds 97 = .ok (.if_icmp .ge 23, 3) := by decide +kernel
theorem dX9_beds_100 : decode cX9_beds 100 = .ok (.aload_n 0, 1) := by decide +kernel
theorem dX9_beds_101 : decode cX9_beds 101 = .ok (.getfield 68, 3) := by decide +kernel
theorem dX9_beds_104 : decode cX9_beds 104 = .ok (.iload 7, 2) := by decide +kernel
theorem dX9_beds_106 : decode cX9_beds 106 = .ok (.aload_n 0, 1) := by decide +kernel
theorem dX9_beds_107 : decode cX9_beds 107 = .ok (.getfield 65, 3) := by decide +kernel
theorem dX9_beds_110 : decode cX9_beds 110 = .ok (.iload 7, 2) := by decide +kernel
theorem dX9_beds_112 : decode cX9_beds 112 = .ok (.iaload, 1) := by decide +kernel
theorem dX9_beds_113 : decode cX9_beds 113 = .ok (.iastore, 1) := by decide +kernel
theorem dX9_beds_114 : decode cX9_beds 114 = .ok (.iinc 7 1, 3) := by decide +kernel
theorem dX9_beds_117 : decode cX9_beds 117 = .ok (.goto (-26), 3) := by decide +kernel
theorem dX9_beds_120 : decode cX9_beds 120 = .ok (.iinc 5 1, 3) := by decide +kernel
theorem dX9_beds_123 : decode cX9_beds 123 = .ok (.goto (-61), 3) := by decide +kernel
theorem dX9_beds_126 : decode cX9_beds 126 = .ok (.iload_n 2, 1) := by decide +kernel
theorem dX9_beds_127 : decode cX9_beds 127 = .ok (.iconst (-1), 1) := by decide +kernel
theorem dX9_beds_128 : decode cX9_beds 128 = .ok (.if_icmp .ne 8, 3) := by decide +kernel
theorem dX9_beds_131 : decode cX9_beds 131 = .ok (.iload 4, 2) := by decide +kernel
theorem dX9_beds_133 : decode cX9_beds 133 = .ok (.goto 27, 3) := by decide +kernel
theorem dX9_beds_136 : decode cX9_beds 136 = .ok (.aload_n 0, 1) := by decide +kernel
theorem dX9_beds_137 : decode cX9_beds 137 = .ok (.getfield 68, 3) := by decide +kernel
theorem dX9_beds_140 : decode cX9_beds 140 = .ok (.iload_n 2, 1) := by decide +kernel
theorem dX9_beds_141 : decode cX9_beds 141 = .ok (.iaload, 1) := by decide +kernel
theorem dX9_beds_142 : decode cX9_beds 142 = .ok (.aload_n 0, 1) := by decide +kernel
theorem dX9_beds_143 : decode cX9_beds 143 = .ok (.getfield 71, 3) := by decide +kernel
theorem dX9_beds_146 : decode cX9_beds 146 = .ok (.if_icmp .ne 8, 3) := by decide +kernel
theorem dX9_beds_149 : decode cX9_beds 149 = .ok (.bipush (-9), 2) := by decide +kernel
theorem dX9_beds_151 : decode cX9_beds 151 = .ok (.goto 9, 3) := by decide +kernel
theorem dX9_beds_154 : decode cX9_beds 154 = .ok (.aload_n 0, 1) := by decide +kernel
theorem dX9_beds_155 : decode cX9_beds 155 = .ok (.getfield 68, 3) := by decide +kernel
theorem dX9_beds_158 : decode cX9_beds 158 = .ok (.iload_n 2, 1) := by decide +kernel
theorem dX9_beds_159 : decode cX9_beds 159 = .ok (.iaload, 1) := by decide +kernel
theorem dX9_beds_160 : decode cX9_beds 160 = .ok (.ireturn, 1) := by decide +kernel
theorem dX9_odds_0 : decode cX9_odds 0 = .ok (.iload_n 1, 1) := by decide +kernel
theorem dX9_odds_1 : decode cX9_odds 1 = .ok (.i2l, 1) := by decide +kernel
theorem dX9_odds_2 : decode cX9_odds 2 = .ok (.lconst 0, 1) := by decide +kernel
theorem dX9_odds_3 : decode cX9_odds 3 = .ok (.ldc2_w 216, 3) := by decide +kernel
theorem dX9_odds_6 : decode cX9_odds 6 = .ok (.invokestatic 75, 3) := by decide +kernel
theorem dX9_odds_9 : decode cX9_odds 9 = .ok (.ifCond .eq 25, 3) := by decide +kernel
theorem dX9_odds_12 : decode cX9_odds 12 = .ok (.iload_n 2, 1) := by decide +kernel
theorem dX9_odds_13 : decode cX9_odds 13 = .ok (.i2l, 1) := by decide +kernel
theorem dX9_odds_14 : decode cX9_odds 14 = .ok (.lconst 0, 1) := by decide +kernel
theorem dX9_odds_15 : decode cX9_odds 15 = .ok (.ldc2_w 152, 3) := by decide +kernel
theorem dX9_odds_18 : decode cX9_odds 18 = .ok (.invokestatic 75, 3) := by decide +kernel
theorem dX9_odds_21 : decode cX9_odds 21 = .ok (.ifCond .eq 13, 3) := by decide +kernel
theorem dX9_odds_24 : decode cX9_odds 24 = .ok (.iload_n 3, 1) := by decide +kernel
theorem dX9_odds_25 : decode cX9_odds 25 = .ok (.i2l, 1) := by decide +kernel
theorem dX9_odds_26 : decode cX9_odds 26 = .ok (.lconst 0, 1) := by decide +kernel
theorem dX9_odds_27 : decode cX9_odds 27 = .ok (.lconst 1, 1) := by decide +kernel
theorem dX9_odds_28 : decode cX9_odds 28 = .ok (.invokestatic 75, 3) := by decide +kernel
theorem dX9_odds_31 : decode cX9_odds 31 = .ok (.ifCond .ne 5, 3) := by decide +kernel
theorem dX9_odds_34 : decode cX9_odds 34 = .ok (.iconst (-1), 1) := by decide +kernel
theorem dX9_odds_35 : decode cX9_odds 35 = .ok (.ireturn, 1) := by decide +kernel
theorem dX9_odds_36 : decode cX9_odds 36 = .ok (.aload_n 0, 1) := by decide +kernel
theorem dX9_odds_37 : decode cX9_odds 37 = .ok (.getfield 71, 3) := by decide +kernel
theorem dX9_odds_40 : decode cX9_odds 40 = .ok (.aload_n 0, 1) := by decide +kernel
theorem dX9_odds_41 : decode cX9_odds 41 = .ok (.invokevirtual 179, 3) := by decide +kernel
theorem dX9_odds_44 : decode cX9_odds 44 = .ok (.invokestatic 146, 3) := by decide +kernel
theorem dX9_odds_47 : decode cX9_odds 47 = .ok (.isub, 1) := by decide +kernel
theorem dX9_odds_48 : decode cX9_odds 48 = .ok (.istore 4, 2) := by decide +kernel
theorem dX9_odds_50 : decode cX9_odds 50 = .ok (.iconst 0, 1) := by decide +kernel
theorem dX9_odds_51 : decode cX9_odds 51 = .ok (.istore 5, 2) := by decide +kernel
theorem dX9_odds_53 : decode cX9_odds 53 = .ok (.iconst 1, 1) := by decide +kernel
theorem dX9_odds_54 : decode cX9_odds 54 = .ok (.istore 6, 2) := by decide +kernel
theorem dX9_odds_56 : decode cX9_odds 56 = .ok (.iconst 0, 1) := by decide +kernel
theorem dX9_odds_57 : decode cX9_odds 57 = .ok (.istore 7, 2) := by decide +kernel
theorem dX9_odds_59 : decode cX9_odds 59 = .ok (.iload 7, 2) := by decide +kernel
theorem dX9_odds_61 : decode cX9_odds 61 = .ok (.iload 4, 2) := by decide +kernel
theorem dX9_odds_63 : decode cX9_odds 63 = .ok (.if_icmp .ge 16, 3) := by decide +kernel
theorem dX9_odds_66 : decode cX9_odds 66 = .ok (.iload 6, 2) := by decide +kernel
theorem dX9_odds_68 : decode cX9_odds 68 = .ok (.bipush 10, 2) := by decide +kernel
theorem dX9_odds_70 : decode cX9_odds 70 = .ok (.imul, 1) := by decide +kernel
theorem dX9_odds_71 : decode cX9_odds 71 = .ok (.istore 6, 2) := by decide +kernel
theorem dX9_odds_73 : decode cX9_odds 73 = .ok (.iinc 7 1, 3) := by decide +kernel
theorem dX9_odds_76 : decode cX9_odds 76 = .ok (.goto (-17), 3) := by decide +kernel
theorem dX9_odds_79 : decode cX9_odds 79 = .ok (.iconst 0, 1) := by decide +kernel
theorem dX9_odds_80 : decode cX9_odds 80 = .ok (.istore 7, 2) := by decide +kernel
theorem dX9_odds_82 : decode cX9_odds 82 = .ok (.iload 7, 2) := by decide +kernel
theorem dX9_odds_84 : decode cX9_odds 84 = .ok (.iconst 1, 1) := by decide +kernel
theorem dX9_odds_85 : decode cX9_odds 85 = .ok (.iload 4, 2) := by decide +kernel
theorem dX9_odds_87 : decode cX9_odds 87 = .ok (.ishl, 1) := by decide +kernel
theorem dX9_odds_88 : decode cX9_odds 88 = .ok (.if_icmp .ge 71, 3) := by decide +kernel
theorem dX9_odds_91 : decode cX9_odds 91 = .ok (.iload 7, 2) := by decide +kernel
theorem dX9_odds_93 : decode cX9_odds 93 = .ok (.invokestatic 146, 3) := by decide +kernel
theorem dX9_odds_96 : decode cX9_odds 96 = .ok (.iload_n 2, 1) := by decide +kernel
theorem dX9_odds_97 : decode cX9_odds 97 = .ok (.if_icmp .gt 7, 3) := by decide +kernel
theorem dX9_odds_100 : decode cX9_odds 100 = .ok (.iconst 1, 1) := by decide +kernel
theorem dX9_odds_101 : decode cX9_odds 101 = .ok (.goto 4, 3) := by decide +kernel
theorem dX9_odds_104 : decode cX9_odds 104 = .ok (.iconst 0, 1) := by decide +kernel
theorem dX9_odds_105 : decode cX9_odds 105 = .ok (.istore 8, 2) := by decide +kernel
theorem dX9_odds_107 : decode cX9_odds 107 = .ok (.iconst 0, 1) := by decide +kernel
theorem dX9_odds_108 : decode cX9_odds 108 = .ok (.istore 9, 2) := by decide +kernel
theorem dX9_odds_110 : decode cX9_odds 110 = .ok (.iload 9, 2) := by decide +kernel
theorem dX9_odds_112 : decode cX9_odds 112 = .ok (.iload 4, 2) := by decide +kernel
theorem dX9_odds_114 : decode cX9_odds 114 = .ok (.if_icmp .ge 32, 3) := by decide +kernel
theorem dX9_odds_117 : decode cX9_odds 117 = .ok (.iload 8, 2) := by decide +kernel
theorem dX9_odds_119 : decode cX9_odds 119 = .ok (.iload 7, 2) := by decide +kernel
theorem dX9_odds_121 : decode cX9_odds 121 = .ok (.iload 9, 2) := by decide +kernel
theorem dX9_odds_123 : decode cX9_odds 123 = .ok (.invokestatic 205, 3) := by decide +kernel
theorem dX9_odds_126 : decode cX9_odds 126 = .ok (.ifCond .eq 7, 3) := by decide +kernel
theorem dX9_odds_129 : decode cX9_odds 129 = .ok (.iload_n 1, 1) := by decide +kernel
theorem dX9_odds_130 : decode cX9_odds 130 = .ok (.goto 7, 3) := by decide +kernel
theorem dX9_odds_133 : decode cX9_odds 133 = .ok (.bipush 10, 2) := by decide +kernel
theorem dX9_odds_135 : decode cX9_odds 135 = .ok (.iload_n 1, 1) := by decide +kernel
theorem dX9_odds_136 : decode cX9_odds 136 = .ok (.isub, 1) := by decide +kernel
theorem dX9_odds_137 : decode cX9_odds 137 = .ok (.imul, 1) := by decide +kernel
theorem dX9_odds_138 : decode cX9_odds 138 = .ok (.istore 8, 2) := by decide +kernel
theorem dX9_odds_140 : decode cX9_odds 140 = .ok (.iinc 9 1, 3) := by decide +kernel
theorem dX9_odds_143 : decode cX9_odds 143 = .ok (.goto (-33), 3) := by decide +kernel
theorem dX9_odds_146 : decode cX9_odds 146 = .ok (.iload 5, 2) := by decide +kernel
theorem dX9_odds_148 : decode cX9_odds 148 = .ok (.iload 8, 2) := by decide +kernel
theorem dX9_odds_150 : decode cX9_odds 150 = .ok (.iadd, 1) := by decide +kernel
theorem dX9_odds_151 : decode cX9_odds 151 = .ok (.istore 5, 2) := by decide +kernel
theorem dX9_odds_153 : decode cX9_odds 153 = .ok (.iinc 7 1, 3) := by decide +kernel
theorem dX9_odds_156 : decode cX9_odds 156 = .ok (.goto (-74), 3) := by decide +kernel
theorem dX9_odds_159 : decode cX9_odds 159 = .ok (.iload 5, 2) := by decide +kernel
theorem dX9_odds_161 : decode cX9_odds 161 = .ok (.istore 7, 2) := by decide +kernel
theorem dX9_odds_163 : decode cX9_odds 163 = .ok (.iload 6, 2) := by decide +kernel
theorem dX9_odds_165 : decode cX9_odds 165 = .ok (.istore 8, 2) := by decide +kernel
theorem dX9_odds_167 : decode cX9_odds 167 = .ok (.iload 8, 2) := by decide +kernel
theorem dX9_odds_169 : decode cX9_odds 169 = .ok (.ifCond .eq 21, 3) := by decide +kernel
theorem dX9_odds_172 : decode cX9_odds 172 = .ok (.iload 7, 2) := by decide +kernel
theorem dX9_odds_174 : decode cX9_odds 174 = .ok (.iload 8, 2) := by decide +kernel
theorem dX9_odds_176 : decode cX9_odds 176 = .ok (.irem, 1) := by decide +kernel
theorem dX9_odds_177 : decode cX9_odds 177 = .ok (.istore 9, 2) := by decide +kernel
theorem dX9_odds_179 : decode cX9_odds 179 = .ok (.iload 8, 2) := by decide +kernel
theorem dX9_odds_181 : decode cX9_odds 181 = .ok (.istore 7, 2) := by decide +kernel
theorem dX9_odds_183 : decode cX9_odds 183 = .ok (.iload 9, 2) := by decide +kernel
theorem dX9_odds_185 : decode cX9_odds 185 = .ok (.istore 8, 2) := by decide +kernel
theorem dX9_odds_187 : decode cX9_odds 187 = .ok (.goto (-20), 3) := by decide +kernel
theorem dX9_odds_190 : decode cX9_odds 190 = .ok (.iload_n 3, 1) := by decide +kernel
theorem dX9_odds_191 : decode cX9_odds 191 = .ok (.ifCond .ne 11, 3) := by decide +kernel
theorem dX9_odds_194 : decode cX9_odds 194 = .ok (.iload 5, 2) := by decide +kernel
theorem dX9_odds_196 : decode cX9_odds 196 = .ok (.iload 7, 2) := by decide +kernel
theorem dX9_odds_198 : decode cX9_odds 198 = .ok (.idiv, 1) := by decide +kernel
theorem dX9_odds_199 : decode cX9_odds 199 = .ok (.goto 8, 3) := by decide +kernel
theorem dX9_odds_202 : decode cX9_odds 202 = .ok (.iload 6, 2) := by decide +kernel
theorem dX9_odds_204 : decode cX9_odds 204 = .ok (.iload 7, 2) := by decide +kernel
theorem dX9_odds_206 : decode cX9_odds 206 = .ok (.idiv, 1) := by decide +kernel
theorem dX9_odds_207 : decode cX9_odds 207 = .ok (.ireturn, 1) := by decide +kernel
theorem dX9_hears_0 : decode cX9_hears 0 = .ok (.iload_n 1, 1) := by decide +kernel
theorem dX9_hears_1 : decode cX9_hears 1 = .ok (.i2l, 1) := by decide +kernel
theorem dX9_hears_2 : decode cX9_hears 2 = .ok (.lconst 0, 1) := by decide +kernel
theorem dX9_hears_3 : decode cX9_hears 3 = .ok (.ldc2_w 189, 3) := by decide +kernel
theorem dX9_hears_6 : decode cX9_hears 6 = .ok (.invokestatic 75, 3) := by decide +kernel
theorem dX9_hears_9 : decode cX9_hears 9 = .ok (.ifCond .eq 13, 3) := by decide +kernel
theorem dX9_hears_12 : decode cX9_hears 12 = .ok (.iload_n 2, 1) := by decide +kernel
theorem dX9_hears_13 : decode cX9_hears 13 = .ok (.i2l, 1) := by decide +kernel
theorem dX9_hears_14 : decode cX9_hears 14 = .ok (.lconst 0, 1) := by decide +kernel
theorem dX9_hears_15 : decode cX9_hears 15 = .ok (.lconst 1, 1) := by decide +kernel
theorem dX9_hears_16 : decode cX9_hears 16 = .ok (.invokestatic 75, 3) := by decide +kernel
theorem dX9_hears_19 : decode cX9_hears 19 = .ok (.ifCond .ne 5, 3) := by decide +kernel
theorem dX9_hears_22 : decode cX9_hears 22 = .ok (.iconst (-1), 1) := by decide +kernel
theorem dX9_hears_23 : decode cX9_hears 23 = .ok (.ireturn, 1) := by decide +kernel
theorem dX9_hears_24 : decode cX9_hears 24 = .ok (.aload_n 0, 1) := by decide +kernel
theorem dX9_hears_25 : decode cX9_hears 25 = .ok (.getfield 130, 3) := by decide +kernel
theorem dX9_hears_28 : decode cX9_hears 28 = .ok (.iconst 4, 1) := by decide +kernel
theorem dX9_hears_29 : decode cX9_hears 29 = .ok (.if_icmp .ne 6, 3) := by decide +kernel
theorem dX9_hears_32 : decode cX9_hears 32 = .ok (.bipush (-3), 2) := by decide +kernel
theorem dX9_hears_34 : decode cX9_hears 34 = .ok (.ireturn, 1) := by decide +kernel
theorem dX9_hears_35 : decode cX9_hears 35 = .ok (.aload_n 0, 1) := by decide +kernel
theorem dX9_hears_36 : decode cX9_hears 36 = .ok (.getfield 38, 3) := by decide +kernel
theorem dX9_hears_39 : decode cX9_hears 39 = .ok (.aload_n 0, 1) := by decide +kernel
theorem dX9_hears_40 : decode cX9_hears 40 = .ok (.getfield 130, 3) := by decide +kernel
theorem dX9_hears_43 : decode cX9_hears 43 = .ok (.iload_n 1, 1) := by decide +kernel
theorem dX9_hears_44 : decode cX9_hears 44 = .ok (.iastore, 1) := by decide +kernel
theorem dX9_hears_45 : decode cX9_hears 45 = .ok (.aload_n 0, 1) := by decide +kernel
theorem dX9_hears_46 : decode cX9_hears 46 = .ok (.getfield 41, 3) := by decide +kernel
theorem dX9_hears_49 : decode cX9_hears 49 = .ok (.aload_n 0, 1) := by decide +kernel
theorem dX9_hears_50 : decode cX9_hears 50 = .ok (.getfield 130, 3) := by decide +kernel
theorem dX9_hears_53 : decode cX9_hears 53 = .ok (.iload_n 2, 1) := by decide +kernel
theorem dX9_hears_54 : decode cX9_hears 54 = .ok (.iastore, 1) := by decide +kernel
theorem dX9_hears_55 : decode cX9_hears 55 = .ok (.aload_n 0, 1) := by decide +kernel
theorem dX9_hears_56 : decode cX9_hears 56 = .ok (.dup, 1) := by decide +kernel
theorem dX9_hears_57 : decode cX9_hears 57 = .ok (.getfield 130, 3) := by decide +kernel
theorem dX9_hears_60 : decode cX9_hears 60 = .ok (.iconst 1, 1) := by decide +kernel
theorem dX9_hears_61 : decode cX9_hears 61 = .ok (.iadd, 1) := by decide +kernel
theorem dX9_hears_62 : decode cX9_hears 62 = .ok (.putfield 130, 3) := by decide +kernel
theorem dX9_hears_65 : decode cX9_hears 65 = .ok (.aload_n 0, 1) := by decide +kernel
theorem dX9_hears_66 : decode cX9_hears 66 = .ok (.getfield 130, 3) := by decide +kernel
theorem dX9_hears_69 : decode cX9_hears 69 = .ok (.ireturn, 1) := by decide +kernel
theorem dX9_forget_0 : decode cX9_forget 0 = .ok (.aload_n 0, 1) := by decide +kernel
theorem dX9_forget_1 : decode cX9_forget 1 = .ok (.getfield 130, 3) := by decide +kernel
theorem dX9_forget_4 : decode cX9_forget 4 = .ok (.istore_n 1, 1) := by decide +kernel
theorem dX9_forget_5 : decode cX9_forget 5 = .ok (.aload_n 0, 1) := by decide +kernel
theorem dX9_forget_6 : decode cX9_forget 6 = .ok (.iconst 0, 1) := by decide +kernel
theorem dX9_forget_7 : decode cX9_forget 7 = .ok (.putfield 130, 3) := by decide +kernel
theorem dX9_forget_10 : decode cX9_forget 10 = .ok (.iload_n 1, 1) := by decide +kernel
theorem dX9_forget_11 : decode cX9_forget 11 = .ok (.ireturn, 1) := by decide +kernel
theorem dX9_whose_0 : decode cX9_whose 0 = .ok (.iconst 0, 1) := by decide +kernel
theorem dX9_whose_1 : decode cX9_whose 1 = .ok (.istore_n 1, 1) := by decide +kernel
theorem dX9_whose_2 : decode cX9_whose 2 = .ok (.iconst 0, 1) := by decide +kernel
theorem dX9_whose_3 : decode cX9_whose 3 = .ok (.istore_n 2, 1) := by decide +kernel
theorem dX9_whose_4 : decode cX9_whose 4 = .ok (.iload_n 2, 1) := by decide +kernel
theorem dX9_whose_5 : decode cX9_whose 5 = .ok (.aload_n 0, 1) := by decide +kernel
theorem dX9_whose_6 : decode cX9_whose 6 = .ok (.getfield 71, 3) := by decide +kernel
theorem dX9_whose_9 : decode cX9_whose 9 = .ok (.if_icmp .ge 92, 3) := by decide +kernel
theorem dX9_whose_12 : decode cX9_whose 12 = .ok (.iconst 1, 1) := by decide +kernel
theorem dX9_whose_13 : decode cX9_whose 13 = .ok (.istore_n 3, 1) := by decide +kernel
theorem dX9_whose_14 : decode cX9_whose 14 = .ok (.iconst 0, 1) := by decide +kernel
theorem dX9_whose_15 : decode cX9_whose 15 = .ok (.istore 4, 2) := by decide +kernel
theorem dX9_whose_17 : decode cX9_whose 17 = .ok (.iload 4, 2) := by decide +kernel
theorem dX9_whose_19 : decode cX9_whose 19 = .ok (.aload_n 0, 1) := by decide +kernel
theorem dX9_whose_20 : decode cX9_whose 20 = .ok (.getfield 130, 3) := by decide +kernel
theorem dX9_whose_23 : decode cX9_whose 23 = .ok (.if_icmp .ge 58, 3) := by decide +kernel
theorem dX9_whose_26 : decode cX9_whose 26 = .ok (.iload_n 3, 1) := by decide +kernel
theorem dX9_whose_27 : decode cX9_whose 27 = .ok (.ifCond .eq 46, 3) := by decide +kernel
theorem dX9_whose_30 : decode cX9_whose 30 = .ok (.aload_n 0, 1) := by decide +kernel
theorem dX9_whose_31 : decode cX9_whose 31 = .ok (.iload_n 2, 1) := by decide +kernel
theorem dX9_whose_32 : decode cX9_whose 32 = .ok (.invokevirtual 143, 3) := by decide +kernel
theorem dX9_whose_35 : decode cX9_whose 35 = .ok (.aload_n 0, 1) := by decide +kernel
theorem dX9_whose_36 : decode cX9_whose 36 = .ok (.getfield 38, 3) := by decide +kernel
theorem dX9_whose_39 : decode cX9_whose 39 = .ok (.iload 4, 2) := by decide +kernel
theorem dX9_whose_41 : decode cX9_whose 41 = .ok (.iaload, 1) := by decide +kernel
theorem dX9_whose_42 : decode cX9_whose 42 = .ok (.if_icmp .lt 7, 3) := by decide +kernel
theorem dX9_whose_45 : decode cX9_whose 45 = .ok (.iconst 1, 1) := by decide +kernel
theorem dX9_whose_46 : decode cX9_whose 46 = .ok (.goto 4, 3) := by decide +kernel
theorem dX9_whose_49 : decode cX9_whose 49 = .ok (.iconst 0, 1) := by decide +kernel
theorem dX9_whose_50 : decode cX9_whose 50 = .ok (.aload_n 0, 1) := by decide +kernel
theorem dX9_whose_51 : decode cX9_whose 51 = .ok (.getfield 41, 3) := by decide +kernel
theorem dX9_whose_54 : decode cX9_whose 54 = .ok (.iload 4, 2) := by decide +kernel
theorem dX9_whose_56 : decode cX9_whose 56 = .ok (.iaload, 1) := by decide +kernel
theorem dX9_whose_57 : decode cX9_whose 57 = .ok (.iconst 1, 1) := by decide +kernel
theorem dX9_whose_58 : decode cX9_whose 58 = .ok (.if_icmp .ne 7, 3) := by decide +kernel
theorem dX9_whose_61 : decode cX9_whose 61 = .ok (.iconst 1, 1) := by decide +kernel
theorem dX9_whose_62 : decode cX9_whose 62 = .ok (.goto 4, 3) := by decide +kernel
theorem dX9_whose_65 : decode cX9_whose 65 = .ok (.iconst 0, 1) := by decide +kernel
theorem dX9_whose_66 : decode cX9_whose 66 = .ok (.if_icmp .ne 7, 3) := by decide +kernel
theorem dX9_whose_69 : decode cX9_whose 69 = .ok (.iconst 1, 1) := by decide +kernel
theorem dX9_whose_70 : decode cX9_whose 70 = .ok (.goto 4, 3) := by decide +kernel
theorem dX9_whose_73 : decode cX9_whose 73 = .ok (.iconst 0, 1) := by decide +kernel
theorem dX9_whose_74 : decode cX9_whose 74 = .ok (.istore_n 3, 1) := by decide +kernel
theorem dX9_whose_75 : decode cX9_whose 75 = .ok (.iinc 4 1, 3) := by decide +kernel
theorem dX9_whose_78 : decode cX9_whose 78 = .ok (.goto (-61), 3) := by decide +kernel
theorem dX9_whose_81 : decode cX9_whose 81 = .ok (.iload_n 1, 1) := by decide +kernel
theorem dX9_whose_82 : decode cX9_whose 82 = .ok (.iload_n 3, 1) := by decide +kernel
theorem dX9_whose_83 : decode cX9_whose 83 = .ok (.ifCond .eq 9, 3) := by decide +kernel
theorem dX9_whose_86 : decode cX9_whose 86 = .ok (.iconst 1, 1) := by decide +kernel
theorem dX9_whose_87 : decode cX9_whose 87 = .ok (.iload_n 2, 1) := by decide +kernel
theorem dX9_whose_88 : decode cX9_whose 88 = .ok (.ishl, 1) := by decide +kernel
theorem dX9_whose_89 : decode cX9_whose 89 = .ok (.goto 4, 3) := by decide +kernel
theorem dX9_whose_92 : decode cX9_whose 92 = .ok (.iconst 0, 1) := by decide +kernel
theorem dX9_whose_93 : decode cX9_whose 93 = .ok (.ior, 1) := by decide +kernel
theorem dX9_whose_94 : decode cX9_whose 94 = .ok (.istore_n 1, 1) := by decide +kernel
theorem dX9_whose_95 : decode cX9_whose 95 = .ok (.iinc 2 1, 3) := by decide +kernel
theorem dX9_whose_98 : decode cX9_whose 98 = .ok (.goto (-94), 3) := by decide +kernel
theorem dX9_whose_101 : decode cX9_whose 101 = .ok (.iload_n 1, 1) := by decide +kernel
theorem dX9_whose_102 : decode cX9_whose 102 = .ok (.ireturn, 1) := by decide +kernel
theorem dX9_ask_0 : decode cX9_ask 0 = .ok (.aload_n 0, 1) := by decide +kernel
theorem dX9_ask_1 : decode cX9_ask 1 = .ok (.invokevirtual 218, 3) := by decide +kernel
theorem dX9_ask_4 : decode cX9_ask 4 = .ok (.istore_n 1, 1) := by decide +kernel
theorem dX9_ask_5 : decode cX9_ask 5 = .ok (.iload_n 1, 1) := by decide +kernel
theorem dX9_ask_6 : decode cX9_ask 6 = .ok (.invokestatic 146, 3) := by decide +kernel
theorem dX9_ask_9 : decode cX9_ask 9 = .ok (.istore_n 2, 1) := by decide +kernel
theorem dX9_ask_10 : decode cX9_ask 10 = .ok (.iload_n 2, 1) := by decide +kernel
theorem dX9_ask_11 : decode cX9_ask 11 = .ok (.istore_n 3, 1) := by decide +kernel
theorem dX9_ask_12 : decode cX9_ask 12 = .ok (.bipush (-9), 2) := by decide +kernel
theorem dX9_ask_14 : decode cX9_ask 14 = .ok (.istore 4, 2) := by decide +kernel
theorem dX9_ask_16 : decode cX9_ask 16 = .ok (.iconst 0, 1) := by decide +kernel
theorem dX9_ask_17 : decode cX9_ask 17 = .ok (.istore 5, 2) := by decide +kernel
theorem dX9_ask_19 : decode cX9_ask 19 = .ok (.iload 5, 2) := by decide +kernel
theorem dX9_ask_21 : decode cX9_ask 21 = .ok (.bipush 99, 2) := by decide +kernel
theorem dX9_ask_23 : decode cX9_ask 23 = .ok (.if_icmp .gt 108, 3) := by decide +kernel
theorem dX9_ask_26 : decode cX9_ask 26 = .ok (.iconst 0, 1) := by decide +kernel
theorem dX9_ask_27 : decode cX9_ask 27 = .ok (.istore 6, 2) := by decide +kernel
theorem dX9_ask_29 : decode cX9_ask 29 = .ok (.iconst 0, 1) := by decide +kernel
theorem dX9_ask_30 : decode cX9_ask 30 = .ok (.istore 7, 2) := by decide +kernel
theorem dX9_ask_32 : decode cX9_ask 32 = .ok (.iload 7, 2) := by decide +kernel
theorem dX9_ask_34 : decode cX9_ask 34 = .ok (.aload_n 0, 1) := by decide +kernel
theorem dX9_ask_35 : decode cX9_ask 35 = .ok (.getfield 71, 3) := by decide +kernel
theorem dX9_ask_38 : decode cX9_ask 38 = .ok (.if_icmp .ge 39, 3) := by decide +kernel
theorem dX9_ask_41 : decode cX9_ask 41 = .ok (.iload 6, 2) := by decide +kernel
theorem dX9_ask_43 : decode cX9_ask 43 = .ok (.iload_n 1, 1) := by decide +kernel
theorem dX9_ask_44 : decode cX9_ask 44 = .ok (.iload 7, 2) := by decide +kernel
theorem dX9_ask_46 : decode cX9_ask 46 = .ok (.invokestatic 205, 3) := by decide +kernel
theorem dX9_ask_49 : decode cX9_ask 49 = .ok (.ifCond .eq 18, 3) := by decide +kernel
theorem dX9_ask_52 : decode cX9_ask 52 = .ok (.aload_n 0, 1) := by decide +kernel
theorem dX9_ask_53 : decode cX9_ask 53 = .ok (.iload 7, 2) := by decide +kernel
theorem dX9_ask_55 : decode cX9_ask 55 = .ok (.invokevirtual 143, 3) := by decide +kernel
theorem dX9_ask_58 : decode cX9_ask 58 = .ok (.iload 5, 2) := by decide +kernel
theorem dX9_ask_60 : decode cX9_ask 60 = .ok (.if_icmp .lt 7, 3) := by decide +kernel
theorem dX9_ask_63 : decode cX9_ask 63 = .ok (.iconst 1, 1) := by decide +kernel
theorem dX9_ask_64 : decode cX9_ask 64 = .ok (.goto 4, 3) := by decide +kernel
theorem dX9_ask_67 : decode cX9_ask 67 = .ok (.iconst 0, 1) := by decide +kernel
theorem dX9_ask_68 : decode cX9_ask 68 = .ok (.iadd, 1) := by decide +kernel
theorem dX9_ask_69 : decode cX9_ask 69 = .ok (.istore 6, 2) := by decide +kernel
theorem dX9_ask_71 : decode cX9_ask 71 = .ok (.iinc 7 1, 3) := by decide +kernel
theorem dX9_ask_74 : decode cX9_ask 74 = .ok (.goto (-42), 3) := by decide +kernel
theorem dX9_ask_77 : decode cX9_ask 77 = .ok (.iload 6, 2) := by decide +kernel
theorem dX9_ask_79 : decode cX9_ask 79 = .ok (.iload_n 2, 1) := by decide +kernel
theorem dX9_ask_80 : decode cX9_ask 80 = .ok (.iload 6, 2) := by decide +kernel
theorem dX9_ask_82 : decode cX9_ask 82 = .ok (.isub, 1) := by decide +kernel
theorem dX9_ask_83 : decode cX9_ask 83 = .ok (.if_icmp .le 8, 3) := by decide +kernel
theorem dX9_ask_86 : decode cX9_ask 86 = .ok (.iload 6, 2) := by decide +kernel
theorem dX9_ask_88 : decode cX9_ask 88 = .ok (.goto 7, 3) := by decide +kernel
theorem dX9_ask_91 : decode cX9_ask 91 = .ok (.iload_n 2, 1) := by decide +kernel
theorem dX9_ask_92 : decode cX9_ask 92 = .ok (.iload 6, 2) := by decide +kernel
theorem dX9_ask_94 : decode cX9_ask 94 = .ok (.isub, 1) := by decide +kernel
theorem dX9_ask_95 : decode cX9_ask 95 = .ok (.istore 7, 2) := by decide +kernel
theorem dX9_ask_97 : decode cX9_ask 97 = .ok (.iload 7, 2) := by decide +kernel
theorem dX9_ask_99 : decode cX9_ask 99 = .ok (.iload_n 3, 1) := by decide +kernel
theorem dX9_ask_100 : decode cX9_ask 100 = .ok (.if_icmp .ge 8, 3) := by decide +kernel
theorem dX9_ask_103 : decode cX9_ask 103 = .ok (.iload 5, 2) := by decide +kernel
theorem dX9_ask_105 : decode cX9_ask 105 = .ok (.goto 5, 3) := by decide +kernel
theorem dX9_ask_108 : decode cX9_ask 108 = .ok (.iload 4, 2) := by decide +kernel
theorem dX9_ask_110 : decode cX9_ask 110 = .ok (.istore 4, 2) := by decide +kernel
theorem dX9_ask_112 : decode cX9_ask 112 = .ok (.iload 7, 2) := by decide +kernel
theorem dX9_ask_114 : decode cX9_ask 114 = .ok (.iload_n 3, 1) := by decide +kernel
theorem dX9_ask_115 : decode cX9_ask 115 = .ok (.if_icmp .ge 8, 3) := by decide +kernel
theorem dX9_ask_118 : decode cX9_ask 118 = .ok (.iload 7, 2) := by decide +kernel
theorem dX9_ask_120 : decode cX9_ask 120 = .ok (.goto 4, 3) := by decide +kernel
theorem dX9_ask_123 : decode cX9_ask 123 = .ok (.iload_n 3, 1) := by decide +kernel
theorem dX9_ask_124 : decode cX9_ask 124 = .ok (.istore_n 3, 1) := by decide +kernel
theorem dX9_ask_125 : decode cX9_ask 125 = .ok (.iinc 5 1, 3) := by decide +kernel
theorem dX9_ask_128 : decode cX9_ask 128 = .ok (.goto (-109), 3) := by decide +kernel
theorem dX9_ask_131 : decode cX9_ask 131 = .ok (.iload 4, 2) := by decide +kernel
theorem dX9_ask_133 : decode cX9_ask 133 = .ok (.ireturn, 1) := by decide +kernel
theorem dX9_markAs_0 : decode cX9_markAs 0 = .ok (.iload_n 1, 1) := by decide +kernel
theorem dX9_markAs_1 : decode cX9_markAs 1 = .ok (.tableswitch 166 1 5 #[35, 60, 86, 113, 141], 35) := by decide +kernel
theorem dX9_markAs_36 : decode cX9_markAs 36 = .ok (.aload_n 0, 1) := by decide +kernel
theorem dX9_markAs_37 : decode cX9_markAs 37 = .ok (.dup, 1) := by decide +kernel
theorem dX9_markAs_38 : decode cX9_markAs 38 = .ok (.getfield 221, 3) := by decide +kernel
theorem dX9_markAs_41 : decode cX9_markAs 41 = .ok (.ldc2_w 216, 3) := by decide +kernel
theorem dX9_markAs_44 : decode cX9_markAs 44 = .ok (.ladd, 1) := by decide +kernel
theorem dX9_markAs_45 : decode cX9_markAs 45 = .ok (.putfield 221, 3) := by decide +kernel
theorem dX9_markAs_48 : decode cX9_markAs 48 = .ok (.aload_n 0, 1) := by decide +kernel
theorem dX9_markAs_49 : decode cX9_markAs 49 = .ok (.iload_n 2, 1) := by decide +kernel
theorem dX9_markAs_50 : decode cX9_markAs 50 = .ok (.invokevirtual 225, 3) := by decide +kernel
theorem dX9_markAs_53 : decode cX9_markAs 53 = .ok (.aload_n 0, 1) := by decide +kernel
theorem dX9_markAs_54 : decode cX9_markAs 54 = .ok (.getfield 7, 3) := by decide +kernel
theorem dX9_markAs_57 : decode cX9_markAs 57 = .ok (.iload_n 2, 1) := by decide +kernel
theorem dX9_markAs_58 : decode cX9_markAs 58 = .ok (.iaload, 1) := by decide +kernel
theorem dX9_markAs_59 : decode cX9_markAs 59 = .ok (.iadd, 1) := by decide +kernel
theorem dX9_markAs_60 : decode cX9_markAs 60 = .ok (.ireturn, 1) := by decide +kernel
theorem dX9_markAs_61 : decode cX9_markAs 61 = .ok (.aload_n 0, 1) := by decide +kernel
theorem dX9_markAs_62 : decode cX9_markAs 62 = .ok (.dup, 1) := by decide +kernel
theorem dX9_markAs_63 : decode cX9_markAs 63 = .ok (.getfield 221, 3) := by decide +kernel
theorem dX9_markAs_66 : decode cX9_markAs 66 = .ok (.ldc2_w 228, 3) := by decide +kernel
theorem dX9_markAs_69 : decode cX9_markAs 69 = .ok (.ladd, 1) := by decide +kernel
theorem dX9_markAs_70 : decode cX9_markAs 70 = .ok (.putfield 221, 3) := by decide +kernel
theorem dX9_markAs_73 : decode cX9_markAs 73 = .ok (.aload_n 0, 1) := by decide +kernel
theorem dX9_markAs_74 : decode cX9_markAs 74 = .ok (.iload_n 2, 1) := by decide +kernel
theorem dX9_markAs_75 : decode cX9_markAs 75 = .ok (.invokevirtual 225, 3) := by decide +kernel
theorem dX9_markAs_78 : decode cX9_markAs 78 = .ok (.aload_n 0, 1) := by decide +kernel
theorem dX9_markAs_79 : decode cX9_markAs 79 = .ok (.invokevirtual 179, 3) := by decide +kernel
theorem dX9_markAs_82 : decode cX9_markAs 82 = .ok (.invokestatic 146, 3) := by decide +kernel
theorem dX9_markAs_85 : decode cX9_markAs 85 = .ok (.isub, 1) := by decide +kernel
theorem dX9_markAs_86 : decode cX9_markAs 86 = .ok (.ireturn, 1) := by decide +kernel
theorem dX9_markAs_87 : decode cX9_markAs 87 = .ok (.aload_n 0, 1) := by decide +kernel
theorem dX9_markAs_88 : decode cX9_markAs 88 = .ok (.dup, 1) := by decide +kernel
theorem dX9_markAs_89 : decode cX9_markAs 89 = .ok (.getfield 221, 3) := by decide +kernel
theorem dX9_markAs_92 : decode cX9_markAs 92 = .ok (.ldc2_w 230, 3) := by decide +kernel
theorem dX9_markAs_95 : decode cX9_markAs 95 = .ok (.ladd, 1) := by decide +kernel
theorem dX9_markAs_96 : decode cX9_markAs 96 = .ok (.putfield 221, 3) := by decide +kernel
theorem dX9_markAs_99 : decode cX9_markAs 99 = .ok (.iconst 2, 1) := by decide +kernel
theorem dX9_markAs_100 : decode cX9_markAs 100 = .ok (.aload_n 0, 1) := by decide +kernel
theorem dX9_markAs_101 : decode cX9_markAs 101 = .ok (.iload_n 2, 1) := by decide +kernel
theorem dX9_markAs_102 : decode cX9_markAs 102 = .ok (.invokevirtual 225, 3) := by decide +kernel
theorem dX9_markAs_105 : decode cX9_markAs 105 = .ok (.aload_n 0, 1) := by decide +kernel
theorem dX9_markAs_106 : decode cX9_markAs 106 = .ok (.getfield 7, 3) := by decide +kernel
theorem dX9_markAs_109 : decode cX9_markAs 109 = .ok (.iload_n 2, 1) := by decide +kernel
theorem dX9_markAs_110 : decode cX9_markAs 110 = .ok (.iaload, 1) := by decide +kernel
theorem dX9_markAs_111 : decode cX9_markAs 111 = .ok (.iadd, 1) := by decide +kernel
theorem dX9_markAs_112 : decode cX9_markAs 112 = .ok (.imul, 1) := by decide +kernel
theorem dX9_markAs_113 : decode cX9_markAs 113 = .ok (.ireturn, 1) := by decide +kernel
theorem dX9_markAs_114 : decode cX9_markAs 114 = .ok (.aload_n 0, 1) := by decide +kernel
theorem dX9_markAs_115 : decode cX9_markAs 115 = .ok (.dup, 1) := by decide +kernel
theorem dX9_markAs_116 : decode cX9_markAs 116 = .ok (.getfield 221, 3) := by decide +kernel
theorem dX9_markAs_119 : decode cX9_markAs 119 = .ok (.ldc2_w 232, 3) := by decide +kernel
theorem dX9_markAs_122 : decode cX9_markAs 122 = .ok (.ladd, 1) := by decide +kernel
theorem dX9_markAs_123 : decode cX9_markAs 123 = .ok (.putfield 221, 3) := by decide +kernel
theorem dX9_markAs_126 : decode cX9_markAs 126 = .ok (.aload_n 0, 1) := by decide +kernel
theorem dX9_markAs_127 : decode cX9_markAs 127 = .ok (.iload_n 2, 1) := by decide +kernel
theorem dX9_markAs_128 : decode cX9_markAs 128 = .ok (.invokevirtual 225, 3) := by decide +kernel
theorem dX9_markAs_131 : decode cX9_markAs 131 = .ok (.aload_n 0, 1) := by decide +kernel
theorem dX9_markAs_132 : decode cX9_markAs 132 = .ok (.invokevirtual 179, 3) := by decide +kernel
theorem dX9_markAs_135 : decode cX9_markAs 135 = .ok (.invokestatic 146, 3) := by decide +kernel
theorem dX9_markAs_138 : decode cX9_markAs 138 = .ok (.isub, 1) := by decide +kernel
theorem dX9_markAs_139 : decode cX9_markAs 139 = .ok (.iload_n 2, 1) := by decide +kernel
theorem dX9_markAs_140 : decode cX9_markAs 140 = .ok (.iadd, 1) := by decide +kernel
theorem dX9_markAs_141 : decode cX9_markAs 141 = .ok (.ireturn, 1) := by decide +kernel
theorem dX9_markAs_142 : decode cX9_markAs 142 = .ok (.aload_n 0, 1) := by decide +kernel
theorem dX9_markAs_143 : decode cX9_markAs 143 = .ok (.dup, 1) := by decide +kernel
theorem dX9_markAs_144 : decode cX9_markAs 144 = .ok (.getfield 221, 3) := by decide +kernel
theorem dX9_markAs_147 : decode cX9_markAs 147 = .ok (.ldc2_w 234, 3) := by decide +kernel
theorem dX9_markAs_150 : decode cX9_markAs 150 = .ok (.ladd, 1) := by decide +kernel
theorem dX9_markAs_151 : decode cX9_markAs 151 = .ok (.putfield 221, 3) := by decide +kernel
theorem dX9_markAs_154 : decode cX9_markAs 154 = .ok (.aload_n 0, 1) := by decide +kernel
theorem dX9_markAs_155 : decode cX9_markAs 155 = .ok (.iload_n 2, 1) := by decide +kernel
theorem dX9_markAs_156 : decode cX9_markAs 156 = .ok (.invokevirtual 225, 3) := by decide +kernel
theorem dX9_markAs_159 : decode cX9_markAs 159 = .ok (.aload_n 0, 1) := by decide +kernel
theorem dX9_markAs_160 : decode cX9_markAs 160 = .ok (.getfield 28, 3) := by decide +kernel
theorem dX9_markAs_163 : decode cX9_markAs 163 = .ok (.iconst 0, 1) := by decide +kernel
theorem dX9_markAs_164 : decode cX9_markAs 164 = .ok (.iaload, 1) := by decide +kernel
theorem dX9_markAs_165 : decode cX9_markAs 165 = .ok (.iadd, 1) := by decide +kernel
theorem dX9_markAs_166 : decode cX9_markAs 166 = .ok (.ireturn, 1) := by decide +kernel
theorem dX9_markAs_167 : decode cX9_markAs 167 = .ok (.aload_n 0, 1) := by decide +kernel
theorem dX9_markAs_168 : decode cX9_markAs 168 = .ok (.iload_n 2, 1) := by decide +kernel
theorem dX9_markAs_169 : decode cX9_markAs 169 = .ok (.invokevirtual 225, 3) := by decide +kernel
theorem dX9_markAs_172 : decode cX9_markAs 172 = .ok (.ireturn, 1) := by decide +kernel
theorem dX9_markAs0_0 : decode cX9_markAs0 0 = .ok (.aload_n 0, 1) := by decide +kernel
theorem dX9_markAs0_1 : decode cX9_markAs0 1 = .ok (.dup, 1) := by decide +kernel
theorem dX9_markAs0_2 : decode cX9_markAs0 2 = .ok (.getfield 221, 3) := by decide +kernel
theorem dX9_markAs0_5 : decode cX9_markAs0 5 = .ok (.lconst 1, 1) := by decide +kernel
theorem dX9_markAs0_6 : decode cX9_markAs0 6 = .ok (.ladd, 1) := by decide +kernel
theorem dX9_markAs0_7 : decode cX9_markAs0 7 = .ok (.putfield 221, 3) := by decide +kernel
theorem dX9_markAs0_10 : decode cX9_markAs0 10 = .ok (.aload_n 0, 1) := by decide +kernel
theorem dX9_markAs0_11 : decode cX9_markAs0 11 = .ok (.iload_n 1, 1) := by decide +kernel
theorem dX9_markAs0_12 : decode cX9_markAs0 12 = .ok (.invokevirtual 143, 3) := by decide +kernel
theorem dX9_markAs0_15 : decode cX9_markAs0 15 = .ok (.ireturn, 1) := by decide +kernel
theorem dX9_mark_0 : decode cX9_mark 0 = .ok (.iload_n 1, 1) := by decide +kernel
theorem dX9_mark_1 : decode cX9_mark 1 = .ok (.i2l, 1) := by decide +kernel
theorem dX9_mark_2 : decode cX9_mark 2 = .ok (.lconst 0, 1) := by decide +kernel
theorem dX9_mark_3 : decode cX9_mark 3 = .ok (.ldc2_w 236, 3) := by decide +kernel
theorem dX9_mark_6 : decode cX9_mark 6 = .ok (.invokestatic 75, 3) := by decide +kernel
theorem dX9_mark_9 : decode cX9_mark 9 = .ok (.ifCond .eq 20, 3) := by decide +kernel
theorem dX9_mark_12 : decode cX9_mark 12 = .ok (.aload_n 0, 1) := by decide +kernel
theorem dX9_mark_13 : decode cX9_mark 13 = .ok (.iload_n 2, 1) := by decide +kernel
theorem dX9_mark_14 : decode cX9_mark 14 = .ok (.invokevirtual 149, 3) := by decide +kernel
theorem dX9_mark_17 : decode cX9_mark 17 = .ok (.ifCond .eq 12, 3) := by decide +kernel
theorem dX9_mark_20 : decode cX9_mark 20 = .ok (.aload_n 0, 1) := by decide +kernel
theorem dX9_mark_21 : decode cX9_mark 21 = .ok (.iload_n 1, 1) := by decide +kernel
theorem dX9_mark_22 : decode cX9_mark 22 = .ok (.iload_n 2, 1) := by decide +kernel
theorem dX9_mark_23 : decode cX9_mark 23 = .ok (.invokevirtual 238, 3) := by decide +kernel
theorem dX9_mark_26 : decode cX9_mark 26 = .ok (.goto 5, 3) := by decide +kernel
theorem dX9_mark_29 : decode cX9_mark 29 = .ok (.ldc 201, 2) := by decide +kernel
theorem dX9_mark_31 : decode cX9_mark 31 = .ok (.ireturn, 1) := by decide +kernel
theorem dX9_keep_0 : decode cX9_keep 0 = .ok (.iload_n 1, 1) := by decide +kernel
theorem dX9_keep_1 : decode cX9_keep 1 = .ok (.i2l, 1) := by decide +kernel
theorem dX9_keep_2 : decode cX9_keep 2 = .ok (.lconst 0, 1) := by decide +kernel
theorem dX9_keep_3 : decode cX9_keep 3 = .ok (.lconst 1, 1) := by decide +kernel
theorem dX9_keep_4 : decode cX9_keep 4 = .ok (.invokestatic 75, 3) := by decide +kernel
theorem dX9_keep_7 : decode cX9_keep 7 = .ok (.ifCond .ne 5, 3) := by decide +kernel
theorem dX9_keep_10 : decode cX9_keep 10 = .ok (.iconst (-1), 1) := by decide +kernel
theorem dX9_keep_11 : decode cX9_keep 11 = .ok (.ireturn, 1) := by decide +kernel
theorem dX9_keep_12 : decode cX9_keep 12 = .ok (.iconst 0, 1) := by decide +kernel
theorem dX9_keep_13 : decode cX9_keep 13 = .ok (.istore_n 2, 1) := by decide +kernel
theorem dX9_keep_14 : decode cX9_keep 14 = .ok (.iload_n 2, 1) := by decide +kernel
theorem dX9_keep_15 : decode cX9_keep 15 = .ok (.sipush 210, 3) := by decide +kernel
theorem dX9_keep_18 : decode cX9_keep 18 = .ok (.if_icmp .ge 27, 3) := by decide +kernel
theorem dX9_keep_21 : decode cX9_keep 21 = .ok (.aload_n 0, 1) := by decide +kernel
theorem dX9_keep_22 : decode cX9_keep 22 = .ok (.getfield 31, 3) := by decide +kernel
theorem dX9_keep_25 : decode cX9_keep 25 = .ok (.sipush 210, 3) := by decide +kernel
theorem dX9_keep_28 : decode cX9_keep 28 = .ok (.iload_n 1, 1) := by decide +kernel
theorem dX9_keep_29 : decode cX9_keep 29 = .ok (.imul, 1) := by decide +kernel
theorem dX9_keep_30 : decode cX9_keep 30 = .ok (.iload_n 2, 1) := by decide +kernel
theorem dX9_keep_31 : decode cX9_keep 31 = .ok (.iadd, 1) := by decide +kernel
theorem dX9_keep_32 : decode cX9_keep 32 = .ok (.aload_n 0, 1) := by decide +kernel
theorem dX9_keep_33 : decode cX9_keep 33 = .ok (.getfield 28, 3) := by decide +kernel
theorem dX9_keep_36 : decode cX9_keep 36 = .ok (.iload_n 2, 1) := by decide +kernel
theorem dX9_keep_37 : decode cX9_keep 37 = .ok (.iaload, 1) := by decide +kernel
theorem dX9_keep_38 : decode cX9_keep 38 = .ok (.iastore, 1) := by decide +kernel
theorem dX9_keep_39 : decode cX9_keep 39 = .ok (.iinc 2 1, 3) := by decide +kernel
theorem dX9_keep_42 : decode cX9_keep 42 = .ok (.goto (-28), 3) := by decide +kernel
theorem dX9_keep_45 : decode cX9_keep 45 = .ok (.aload_n 0, 1) := by decide +kernel
theorem dX9_keep_46 : decode cX9_keep 46 = .ok (.getfield 34, 3) := by decide +kernel
theorem dX9_keep_49 : decode cX9_keep 49 = .ok (.iload_n 1, 1) := by decide +kernel
theorem dX9_keep_50 : decode cX9_keep 50 = .ok (.iconst 1, 1) := by decide +kernel
theorem dX9_keep_51 : decode cX9_keep 51 = .ok (.bastore, 1) := by decide +kernel
theorem dX9_keep_52 : decode cX9_keep 52 = .ok (.aload_n 0, 1) := by decide +kernel
theorem dX9_keep_53 : decode cX9_keep 53 = .ok (.getfield 28, 3) := by decide +kernel
theorem dX9_keep_56 : decode cX9_keep 56 = .ok (.iconst 0, 1) := by decide +kernel
theorem dX9_keep_57 : decode cX9_keep 57 = .ok (.iaload, 1) := by decide +kernel
theorem dX9_keep_58 : decode cX9_keep 58 = .ok (.ireturn, 1) := by decide +kernel
theorem dX9_back_0 : decode cX9_back 0 = .ok (.iload_n 1, 1) := by decide +kernel
theorem dX9_back_1 : decode cX9_back 1 = .ok (.i2l, 1) := by decide +kernel
theorem dX9_back_2 : decode cX9_back 2 = .ok (.lconst 0, 1) := by decide +kernel
theorem dX9_back_3 : decode cX9_back 3 = .ok (.lconst 1, 1) := by decide +kernel
theorem dX9_back_4 : decode cX9_back 4 = .ok (.invokestatic 75, 3) := by decide +kernel
theorem dX9_back_7 : decode cX9_back 7 = .ok (.ifCond .ne 5, 3) := by decide +kernel
theorem dX9_back_10 : decode cX9_back 10 = .ok (.iconst (-1), 1) := by decide +kernel
theorem dX9_back_11 : decode cX9_back 11 = .ok (.ireturn, 1) := by decide +kernel
theorem dX9_back_12 : decode cX9_back 12 = .ok (.aload_n 0, 1) := by decide +kernel
theorem dX9_back_13 : decode cX9_back 13 = .ok (.getfield 34, 3) := by decide +kernel
theorem dX9_back_16 : decode cX9_back 16 = .ok (.iload_n 1, 1) := by decide +kernel
theorem dX9_back_17 : decode cX9_back 17 = .ok (.baload, 1) := by decide +kernel
theorem dX9_back_18 : decode cX9_back 18 = .ok (.ifCond .ne 6, 3) := by decide +kernel
theorem dX9_back_21 : decode cX9_back 21 = .ok (.bipush (-2), 2) := by decide +kernel
theorem dX9_back_23 : decode cX9_back 23 = .ok (.ireturn, 1) := by decide +kernel
theorem dX9_back_24 : decode cX9_back 24 = .ok (.iconst 0, 1) := by decide +kernel
theorem dX9_back_25 : decode cX9_back 25 = .ok (.istore_n 2, 1) := by decide +kernel
theorem dX9_back_26 : decode cX9_back 26 = .ok (.iload_n 2, 1) := by decide +kernel
theorem dX9_back_27 : decode cX9_back 27 = .ok (.sipush 210, 3) := by decide +kernel
theorem dX9_back_30 : decode cX9_back 30 = .ok (.if_icmp .ge 27, 3) := by decide +kernel
theorem dX9_back_33 : decode cX9_back 33 = .ok (.aload_n 0, 1) := by decide +kernel
theorem dX9_back_34 : decode cX9_back 34 = .ok (.getfield 28, 3) := by decide +kernel
theorem dX9_back_37 : decode cX9_back 37 = .ok (.iload_n 2, 1) := by decide +kernel
theorem dX9_back_38 : decode cX9_back 38 = .ok (.aload_n 0, 1) := by decide +kernel
theorem dX9_back_39 : decode cX9_back 39 = .ok (.getfield 31, 3) := by decide +kernel
theorem dX9_back_42 : decode cX9_back 42 = .ok (.sipush 210, 3) := by decide +kernel
theorem dX9_back_45 : decode cX9_back 45 = .ok (.iload_n 1, 1) := by decide +kernel
theorem dX9_back_46 : decode cX9_back 46 = .ok (.imul, 1) := by decide +kernel
theorem dX9_back_47 : decode cX9_back 47 = .ok (.iload_n 2, 1) := by decide +kernel
theorem dX9_back_48 : decode cX9_back 48 = .ok (.iadd, 1) := by decide +kernel
theorem dX9_back_49 : decode cX9_back 49 = .ok (.iaload, 1) := by decide +kernel
theorem dX9_back_50 : decode cX9_back 50 = .ok (.iastore, 1) := by decide +kernel
theorem dX9_back_51 : decode cX9_back 51 = .ok (.iinc 2 1, 3) := by decide +kernel
theorem dX9_back_54 : decode cX9_back 54 = .ok (.goto (-28), 3) := by decide +kernel
theorem dX9_back_57 : decode cX9_back 57 = .ok (.aload_n 0, 1) := by decide +kernel
theorem dX9_back_58 : decode cX9_back 58 = .ok (.getfield 28, 3) := by decide +kernel
theorem dX9_back_61 : decode cX9_back 61 = .ok (.iconst 0, 1) := by decide +kernel
theorem dX9_back_62 : decode cX9_back 62 = .ok (.iaload, 1) := by decide +kernel
theorem dX9_back_63 : decode cX9_back 63 = .ok (.ireturn, 1) := by decide +kernel
theorem dX9_count_0 : decode cX9_count 0 = .ok (.iload_n 1, 1) := by decide +kernel
theorem dX9_count_1 : decode cX9_count 1 = .ok (.tableswitch 63 0 4 #[35, 40, 45, 50, 58], 35) := by decide +kernel
theorem dX9_count_36 : decode cX9_count 36 = .ok (.aload_n 0, 1) := by decide +kernel
theorem dX9_count_37 : decode cX9_count 37 = .ok (.getfield 71, 3) := by decide +kernel
theorem dX9_count_40 : decode cX9_count 40 = .ok (.ireturn, 1) := by decide +kernel
theorem dX9_count_41 : decode cX9_count 41 = .ok (.aload_n 0, 1) := by decide +kernel
theorem dX9_count_42 : decode cX9_count 42 = .ok (.getfield 79, 3) := by decide +kernel
theorem dX9_count_45 : decode cX9_count 45 = .ok (.ireturn, 1) := by decide +kernel
theorem dX9_count_46 : decode cX9_count 46 = .ok (.aload_n 0, 1) := by decide +kernel
theorem dX9_count_47 : decode cX9_count 47 = .ok (.getfield 130, 3) := by decide +kernel
theorem dX9_count_50 : decode cX9_count 50 = .ok (.ireturn, 1) := by decide +kernel
theorem dX9_count_51 : decode cX9_count 51 = .ok (.aload_n 0, 1) := by decide +kernel
theorem dX9_count_52 : decode cX9_count 52 = .ok (.getfield 28, 3) := by decide +kernel
theorem dX9_count_55 : decode cX9_count 55 = .ok (.bipush 19, 2) := by decide +kernel
theorem dX9_count_57 : decode cX9_count 57 = .ok (.iaload, 1) := by decide +kernel
theorem dX9_count_58 : decode cX9_count 58 = .ok (.ireturn, 1) := by decide +kernel
theorem dX9_count_59 : decode cX9_count 59 = .ok (.aload_n 0, 1) := by decide +kernel
theorem dX9_count_60 : decode cX9_count 60 = .ok (.getfield 84, 3) := by decide +kernel
theorem dX9_count_63 : decode cX9_count 63 = .ok (.ireturn, 1) := by decide +kernel
theorem dX9_count_64 : decode cX9_count 64 = .ok (.iconst (-1), 1) := by decide +kernel
theorem dX9_count_65 : decode cX9_count 65 = .ok (.ireturn, 1) := by decide +kernel
theorem dX9_trace_0 : decode cX9_trace 0 = .ok (.aload_n 0, 1) := by decide +kernel
theorem dX9_trace_1 : decode cX9_trace 1 = .ok (.getfield 221, 3) := by decide +kernel
theorem dX9_trace_4 : decode cX9_trace 4 = .ok (.lreturn, 1) := by decide +kernel
