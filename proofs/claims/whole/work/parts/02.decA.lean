theorem dX0_init_0 : decode cX0_init 0 = .ok (.aload_n 0, 1) := by decide +kernel
theorem dX0_init_1 : decode cX0_init 1 = .ok (.invokespecial 3, 3) := by decide +kernel
theorem dX0_init_4 : decode cX0_init 4 = .ok (.aload_n 0, 1) := by decide +kernel
theorem dX0_init_5 : decode cX0_init 5 = .ok (.bipush 6, 2) := by decide +kernel
theorem dX0_init_7 : decode cX0_init 7 = .ok (.newarray .int, 2) := by decide +kernel
theorem dX0_init_9 : decode cX0_init 9 = .ok (.putfield 9, 3) := by decide +kernel
theorem dX0_init_12 : decode cX0_init 12 = .ok (.aload_n 0, 1) := by decide +kernel
theorem dX0_init_13 : decode cX0_init 13 = .ok (.bipush 6, 2) := by decide +kernel
theorem dX0_init_15 : decode cX0_init 15 = .ok (.newarray .int, 2) := by decide +kernel
theorem dX0_init_17 : decode cX0_init 17 = .ok (.putfield 15, 3) := by decide +kernel
theorem dX0_init_20 : decode cX0_init 20 = .ok (.aload_n 0, 1) := by decide +kernel
theorem dX0_init_21 : decode cX0_init 21 = .ok (.aload_n 1, 1) := by decide +kernel
theorem dX0_init_22 : decode cX0_init 22 = .ok (.putfield 18, 3) := by decide +kernel
theorem dX0_init_25 : decode cX0_init 25 = .ok (.return_, 1) := by decide +kernel
theorem dX0_makeBeds_0 : decode cX0_makeBeds 0 = .ok (.aload_n 0, 1) := by decide +kernel
theorem dX0_makeBeds_1 : decode cX0_makeBeds 1 = .ok (.iload_n 1, 1) := by decide +kernel
theorem dX0_makeBeds_2 : decode cX0_makeBeds 2 = .ok (.putfield 22, 3) := by decide +kernel
theorem dX0_makeBeds_5 : decode cX0_makeBeds 5 = .ok (.aload_n 0, 1) := by decide +kernel
theorem dX0_makeBeds_6 : decode cX0_makeBeds 6 = .ok (.iconst (-1), 1) := by decide +kernel
theorem dX0_makeBeds_7 : decode cX0_makeBeds 7 = .ok (.putfield 26, 3) := by decide +kernel
theorem dX0_makeBeds_10 : decode cX0_makeBeds 10 = .ok (.aload_n 0, 1) := by decide +kernel
theorem dX0_makeBeds_11 : decode cX0_makeBeds 11 = .ok (.getfield 9, 3) := by decide +kernel
theorem dX0_makeBeds_14 : decode cX0_makeBeds 14 = .ok (.bipush (-9), 2) := by decide +kernel
theorem dX0_makeBeds_16 : decode cX0_makeBeds 16 = .ok (.invokestatic 29, 3) := by decide +kernel
theorem dX0_makeBeds_19 : decode cX0_makeBeds 19 = .ok (.aload_n 0, 1) := by decide +kernel
theorem dX0_makeBeds_20 : decode cX0_makeBeds 20 = .ok (.iconst 0, 1) := by decide +kernel
theorem dX0_makeBeds_21 : decode cX0_makeBeds 21 = .ok (.iconst 0, 1) := by decide +kernel
theorem dX0_makeBeds_22 : decode cX0_makeBeds 22 = .ok (.invokevirtual 35, 3) := by decide +kernel
theorem dX0_makeBeds_25 : decode cX0_makeBeds 25 = .ok (.return_, 1) := by decide +kernel
theorem dX0_tryOthers_0 : decode cX0_tryOthers 0 = .ok (.iload_n 1, 1) := by decide +kernel
theorem dX0_tryOthers_1 : decode cX0_tryOthers 1 = .ok (.aload_n 0, 1) := by decide +kernel
theorem dX0_tryOthers_2 : decode cX0_tryOthers 2 = .ok (.getfield 18, 3) := by decide +kernel
theorem dX0_tryOthers_5 : decode cX0_tryOthers 5 = .ok (.getfield 39, 3) := by decide +kernel
theorem dX0_tryOthers_8 : decode cX0_tryOthers 8 = .ok (.getfield 45, 3) := by decide +kernel
theorem dX0_tryOthers_11 : decode cX0_tryOthers 11 = .ok (.if_icmp .ge 9, 3) := by decide +kernel
theorem dX0_tryOthers_14 : decode cX0_tryOthers 14 = .ok (.iload_n 1, 1) := by decide +kernel
theorem dX0_tryOthers_15 : decode cX0_tryOthers 15 = .ok (.bipush 6, 2) := by decide +kernel
theorem dX0_tryOthers_17 : decode cX0_tryOthers 17 = .ok (.if_icmp .lt 32, 3) := by decide +kernel
theorem dX0_tryOthers_20 : decode cX0_tryOthers 20 = .ok (.iload_n 2, 1) := by decide +kernel
theorem dX0_tryOthers_21 : decode cX0_tryOthers 21 = .ok (.aload_n 0, 1) := by decide +kernel
theorem dX0_tryOthers_22 : decode cX0_tryOthers 22 = .ok (.getfield 26, 3) := by decide +kernel
theorem dX0_tryOthers_25 : decode cX0_tryOthers 25 = .ok (.if_icmp .le 23, 3) := by decide +kernel
theorem dX0_tryOthers_28 : decode cX0_tryOthers 28 = .ok (.aload_n 0, 1) := by decide +kernel
theorem dX0_tryOthers_29 : decode cX0_tryOthers 29 = .ok (.iload_n 2, 1) := by decide +kernel
theorem dX0_tryOthers_30 : decode cX0_tryOthers 30 = .ok (.putfield 26, 3) := by decide +kernel
theorem dX0_tryOthers_33 : decode cX0_tryOthers 33 = .ok (.aload_n 0, 1) := by decide +kernel
theorem dX0_tryOthers_34 : decode cX0_tryOthers 34 = .ok (.getfield 9, 3) := by decide +kernel
theorem dX0_tryOthers_37 : decode cX0_tryOthers 37 = .ok (.iconst 0, 1) := by decide +kernel
theorem dX0_tryOthers_38 : decode cX0_tryOthers 38 = .ok (.aload_n 0, 1) := by decide +kernel
theorem dX0_tryOthers_39 : decode cX0_tryOthers 39 = .ok (.getfield 15, 3) := by decide +kernel
theorem dX0_tryOthers_42 : decode cX0_tryOthers 42 = .ok (.iconst 0, 1) := by decide +kernel
theorem dX0_tryOthers_43 : decode cX0_tryOthers 43 = .ok (.bipush 6, 2) := by decide +kernel
theorem dX0_tryOthers_45 : decode cX0_tryOthers 45 = .ok (.invokestatic 50, 3) := by decide +kernel
theorem dX0_tryOthers_48 : decode cX0_tryOthers 48 = .ok (.return_, 1) := by decide +kernel
theorem dX0_tryOthers_49 : decode cX0_tryOthers 49 = .ok (.aload_n 0, 1) := by decide +kernel
theorem dX0_tryOthers_50 : decode cX0_tryOthers 50 = .ok (.getfield 9, 3) := by decide +kernel
theorem dX0_tryOthers_53 : decode cX0_tryOthers 53 = .ok (.iload_n 1, 1) := by decide +kernel
theorem dX0_tryOthers_54 : decode cX0_tryOthers 54 = .ok (.iaload, 1) := by decide +kernel
theorem dX0_tryOthers_55 : decode cX0_tryOthers 55 = .ok (.bipush (-9), 2) := by decide +kernel
theorem dX0_tryOthers_57 : decode cX0_tryOthers 57 = .ok (.if_icmp .eq 12, 3) := by decide +kernel
theorem dX0_tryOthers_60 : decode cX0_tryOthers 60 = .ok (.aload_n 0, 1) := by decide +kernel
theorem dX0_tryOthers_61 : decode cX0_tryOthers 61 = .ok (.iload_n 1, 1) := by decide +kernel
theorem dX0_tryOthers_62 : decode cX0_tryOthers 62 = .ok (.iconst 1, 1) := by decide +kernel
theorem dX0_tryOthers_63 : decode cX0_tryOthers 63 = .ok (.iadd, 1) := by decide +kernel
theorem dX0_tryOthers_64 : decode cX0_tryOthers 64 = .ok (.iload_n 2, 1) := by decide +kernel
theorem dX0_tryOthers_65 : decode cX0_tryOthers 65 = .ok (.invokevirtual 35, 3) := by decide +kernel
theorem dX0_tryOthers_68 : decode cX0_tryOthers 68 = .ok (.return_, 1) := by decide +kernel
theorem dX0_tryOthers_69 : decode cX0_tryOthers 69 = .ok (.iload_n 1, 1) := by decide +kernel
theorem dX0_tryOthers_70 : decode cX0_tryOthers 70 = .ok (.iconst 1, 1) := by decide +kernel
theorem dX0_tryOthers_71 : decode cX0_tryOthers 71 = .ok (.iadd, 1) := by decide +kernel
theorem dX0_tryOthers_72 : decode cX0_tryOthers 72 = .ok (.istore_n 3, 1) := by decide +kernel
theorem dX0_tryOthers_73 : decode cX0_tryOthers 73 = .ok (.iload_n 3, 1) := by decide +kernel
theorem dX0_tryOthers_74 : decode cX0_tryOthers 74 = .ok (.aload_n 0, 1) := by decide +kernel
theorem dX0_tryOthers_75 : decode cX0_tryOthers 75 = .ok (.getfield 18, 3) := by decide +kernel
theorem dX0_tryOthers_78 : decode cX0_tryOthers 78 = .ok (.getfield 39, 3) := by decide +kernel
theorem dX0_tryOthers_81 : decode cX0_tryOthers 81 = .ok (.getfield 45, 3) := by decide +kernel
theorem dX0_tryOthers_84 : decode cX0_tryOthers 84 = .ok (.if_icmp .ge 72, 3) := by decide +kernel
theorem dX0_tryOthers_87 : decode cX0_tryOthers 87 = .ok (.aload_n 0, 1) := by decide +kernel
theorem dX0_tryOthers_88 : decode cX0_tryOthers 88 = .ok (.getfield 9, 3) := by decide +kernel
theorem dX0_tryOthers_91 : decode cX0_tryOthers 91 = .ok (.iload_n 3, 1) := by decide +kernel
theorem dX0_tryOthers_92 : decode cX0_tryOthers 92 = .ok (.iaload, 1) := by decide +kernel
theorem dX0_tryOthers_93 : decode cX0_tryOthers 93 = .ok (.bipush (-9), 2) := by decide +kernel
theorem dX0_tryOthers_95 : decode cX0_tryOthers 95 = .ok (.if_icmp .ne 55, 3) := by decide +kernel
theorem dX0_tryOthers_98 : decode cX0_tryOthers 98 = .ok (.aload_n 0, 1) := by decide +kernel
theorem dX0_tryOthers_99 : decode cX0_tryOthers 99 = .ok (.iload_n 1, 1) := by decide +kernel
theorem dX0_tryOthers_100 : decode cX0_tryOthers 100 = .ok (.iload_n 3, 1) := by decide +kernel
theorem dX0_tryOthers_101 : decode cX0_tryOthers 101 = .ok (.invokevirtual 56, 3) := by decide +kernel
theorem dX0_tryOthers_104 : decode cX0_tryOthers 104 = .ok (.ifCond .ne 6, 3) := by decide +kernel
theorem dX0_tryOthers_107 : decode cX0_tryOthers 107 = .ok (.goto 43, 3) := by decide +kernel
theorem dX0_tryOthers_110 : decode cX0_tryOthers 110 = .ok (.aload_n 0, 1) := by decide +kernel
theorem dX0_tryOthers_111 : decode cX0_tryOthers 111 = .ok (.getfield 9, 3) := by decide +kernel
theorem dX0_tryOthers_114 : decode cX0_tryOthers 114 = .ok (.iload_n 1, 1) := by decide +kernel
theorem dX0_tryOthers_115 : decode cX0_tryOthers 115 = .ok (.iload_n 3, 1) := by decide +kernel
theorem dX0_tryOthers_116 : decode cX0_tryOthers 116 = .ok (.iastore, 1) := by decide +kernel
theorem dX0_tryOthers_117 : decode cX0_tryOthers 117 = .ok (.aload_n 0, 1) := by decide +kernel
theorem dX0_tryOthers_118 : decode cX0_tryOthers 118 = .ok (.getfield 9, 3) := by decide +kernel
theorem dX0_tryOthers_121 : decode cX0_tryOthers 121 = .ok (.iload_n 3, 1) := by decide +kernel
theorem dX0_tryOthers_122 : decode cX0_tryOthers 122 = .ok (.iload_n 1, 1) := by decide +kernel
theorem dX0_tryOthers_123 : decode cX0_tryOthers 123 = .ok (.iastore, 1) := by decide +kernel
theorem dX0_tryOthers_124 : decode cX0_tryOthers 124 = .ok (.aload_n 0, 1) := by decide +kernel
theorem dX0_tryOthers_125 : decode cX0_tryOthers 125 = .ok (.iload_n 1, 1) := by decide +kernel
theorem dX0_tryOthers_126 : decode cX0_tryOthers 126 = .ok (.iconst 1, 1) := by decide +kernel
theorem dX0_tryOthers_127 : decode cX0_tryOthers 127 = .ok (.iadd, 1) := by decide +kernel
theorem dX0_tryOthers_128 : decode cX0_tryOthers 128 = .ok (.iload_n 2, 1) := by decide +kernel
theorem dX0_tryOthers_129 : decode cX0_tryOthers 129 = .ok (.iconst 1, 1) := by decide +kernel
theorem dX0_tryOthers_130 : decode cX0_tryOthers 130 = .ok (.iadd, 1) := by decide +kernel
theorem dX0_tryOthers_131 : decode cX0_tryOthers 131 = .ok (.invokevirtual 35, 3) := by decide +kernel
theorem dX0_tryOthers_134 : decode cX0_tryOthers 134 = .ok (.aload_n 0, 1) := by decide +kernel
theorem dX0_tryOthers_135 : decode cX0_tryOthers 135 = .ok (.getfield 9, 3) := by decide +kernel
theorem dX0_tryOthers_138 : decode cX0_tryOthers 138 = .ok (.iload_n 1, 1) := by decide +kernel
theorem dX0_tryOthers_139 : decode cX0_tryOthers 139 = .ok (.bipush (-9), 2) := by decide +kernel
theorem dX0_tryOthers_141 : decode cX0_tryOthers 141 = .ok (.iastore, 1) := by decide +kernel
theorem dX0_tryOthers_142 : decode cX0_tryOthers 142 = .ok (.aload_n 0, 1) := by decide +kernel
theorem dX0_tryOthers_143 : decode cX0_tryOthers 143 = .ok (.getfield 9, 3) := by decide +kernel
theorem dX0_tryOthers_146 : decode cX0_tryOthers 146 = .ok (.iload_n 3, 1) := by decide +kernel
theorem dX0_tryOthers_147 : decode cX0_tryOthers 147 = .ok (.bipush (-9), 2) := by decide +kernel
theorem dX0_tryOthers_149 : decode cX0_tryOthers 149 = .ok (.iastore, 1) := by decide +kernel
theorem dX0_tryOthers_150 : decode cX0_tryOthers 150 = .ok (.iinc 3 1, 3) := by decide +kernel
theorem dX0_tryOthers_153 : decode cX0_tryOthers 153 = .ok (.goto (-80), 3) := by decide +kernel
theorem dX0_tryOthers_156 : decode cX0_tryOthers 156 = .ok (.aload_n 0, 1) := by decide +kernel
theorem dX0_tryOthers_157 : decode cX0_tryOthers 157 = .ok (.iload_n 1, 1) := by decide +kernel
theorem dX0_tryOthers_158 : decode cX0_tryOthers 158 = .ok (.iconst 1, 1) := by decide +kernel
theorem dX0_tryOthers_159 : decode cX0_tryOthers 159 = .ok (.iadd, 1) := by decide +kernel
theorem dX0_tryOthers_160 : decode cX0_tryOthers 160 = .ok (.iload_n 2, 1) := by decide +kernel
theorem dX0_tryOthers_161 : decode cX0_tryOthers 161 = .ok (.invokevirtual 35, 3) := by decide +kernel
theorem dX0_tryOthers_164 : decode cX0_tryOthers 164 = .ok (.return_, 1) := by decide +kernel
theorem dX0_mayShare_0 : decode cX0_mayShare 0 = .ok (.aload_n 0, 1) := by decide +kernel
theorem dX0_mayShare_1 : decode cX0_mayShare 1 = .ok (.getfield 18, 3) := by decide +kernel
theorem dX0_mayShare_4 : decode cX0_mayShare 4 = .ok (.getfield 39, 3) := by decide +kernel
theorem dX0_mayShare_7 : decode cX0_mayShare 7 = .ok (.getfield 60, 3) := by decide +kernel
theorem dX0_mayShare_10 : decode cX0_mayShare 10 = .ok (.iload_n 1, 1) := by decide +kernel
theorem dX0_mayShare_11 : decode cX0_mayShare 11 = .ok (.iaload, 1) := by decide +kernel
theorem dX0_mayShare_12 : decode cX0_mayShare 12 = .ok (.iload_n 2, 1) := by decide +kernel
theorem dX0_mayShare_13 : decode cX0_mayShare 13 = .ok (.invokestatic 63, 3) := by decide +kernel
theorem dX0_mayShare_16 : decode cX0_mayShare 16 = .ok (.iand, 1) := by decide +kernel
theorem dX0_mayShare_17 : decode cX0_mayShare 17 = .ok (.ifCond .ne 37, 3) := by decide +kernel
theorem dX0_mayShare_20 : decode cX0_mayShare 20 = .ok (.aload_n 0, 1) := by decide +kernel
theorem dX0_mayShare_21 : decode cX0_mayShare 21 = .ok (.getfield 18, 3) := by decide +kernel
theorem dX0_mayShare_24 : decode cX0_mayShare 24 = .ok (.getfield 67, 3) := by decide +kernel
theorem dX0_mayShare_27 : decode cX0_mayShare 27 = .ok (.iload_n 1, 1) := by decide +kernel
theorem dX0_mayShare_28 : decode cX0_mayShare 28 = .ok (.invokevirtual 71, 3) := by decide +kernel
theorem dX0_mayShare_31 : decode cX0_mayShare 31 = .ok (.aload_n 0, 1) := by decide +kernel
theorem dX0_mayShare_32 : decode cX0_mayShare 32 = .ok (.getfield 18, 3) := by decide +kernel
theorem dX0_mayShare_35 : decode cX0_mayShare 35 = .ok (.getfield 67, 3) := by decide +kernel
theorem dX0_mayShare_38 : decode cX0_mayShare 38 = .ok (.iload_n 2, 1) := by decide +kernel
theorem dX0_mayShare_39 : decode cX0_mayShare 39 = .ok (.invokevirtual 71, 3) := by decide +kernel
theorem dX0_mayShare_42 : decode cX0_mayShare 42 = .ok (.iadd, 1) := by decide +kernel
theorem dX0_mayShare_43 : decode cX0_mayShare 43 = .ok (.aload_n 0, 1) := by decide +kernel
theorem dX0_mayShare_44 : decode cX0_mayShare 44 = .ok (.getfield 22, 3) := by decide +kernel
theorem dX0_mayShare_47 : decode cX0_mayShare 47 = .ok (.if_icmp .gt 7, 3) := by decide +kernel
theorem dX0_mayShare_50 : decode cX0_mayShare 50 = .ok (.iconst 1, 1) := by decide +kernel
theorem dX0_mayShare_51 : decode cX0_mayShare 51 = .ok (.goto 4, 3) := by decide +kernel
theorem dX0_mayShare_54 : decode cX0_mayShare 54 = .ok (.iconst 0, 1) := by decide +kernel
theorem dX0_mayShare_55 : decode cX0_mayShare 55 = .ok (.ireturn, 1) := by decide +kernel
theorem dX1_init_0 : decode cX1_init 0 = .ok (.aload_n 0, 1) := by decide +kernel
theorem dX1_init_1 : decode cX1_init 1 = .ok (.invokespecial 5, 3) := by decide +kernel
theorem dX1_init_4 : decode cX1_init 4 = .ok (.aload_n 0, 1) := by decide +kernel
theorem dX1_init_5 : decode cX1_init 5 = .ok (.sipush 209, 3) := by decide +kernel
theorem dX1_init_8 : decode cX1_init 8 = .ok (.newarray .int, 2) := by decide +kernel
theorem dX1_init_10 : decode cX1_init 10 = .ok (.putfield 11, 3) := by decide +kernel
theorem dX1_init_13 : decode cX1_init 13 = .ok (.return_, 1) := by decide +kernel
theorem dX1_begin_0 : decode cX1_begin 0 = .ok (.aload_n 0, 1) := by decide +kernel
theorem dX1_begin_1 : decode cX1_begin 1 = .ok (.iconst 0, 1) := by decide +kernel
theorem dX1_begin_2 : decode cX1_begin 2 = .ok (.putfield 15, 3) := by decide +kernel
theorem dX1_begin_5 : decode cX1_begin 5 = .ok (.aload_n 0, 1) := by decide +kernel
theorem dX1_begin_6 : decode cX1_begin 6 = .ok (.iconst 0, 1) := by decide +kernel
theorem dX1_begin_7 : decode cX1_begin 7 = .ok (.invokevirtual 19, 3) := by decide +kernel
theorem dX1_begin_10 : decode cX1_begin 10 = .ok (.iconst 0, 1) := by decide +kernel
theorem dX1_begin_11 : decode cX1_begin 11 = .ok (.istore_n 2, 1) := by decide +kernel
theorem dX1_begin_12 : decode cX1_begin 12 = .ok (.iload_n 2, 1) := by decide +kernel
theorem dX1_begin_13 : decode cX1_begin 13 = .ok (.bipush 6, 2) := by decide +kernel
theorem dX1_begin_15 : decode cX1_begin 15 = .ok (.if_icmp .ge 33, 3) := by decide +kernel
theorem dX1_begin_18 : decode cX1_begin 18 = .ok (.aload_n 0, 1) := by decide +kernel
theorem dX1_begin_19 : decode cX1_begin 19 = .ok (.iload_n 2, 1) := by decide +kernel
theorem dX1_begin_20 : decode cX1_begin 20 = .ok (.aload_n 1, 1) := by decide +kernel
theorem dX1_begin_21 : decode cX1_begin 21 = .ok (.getfield 23, 3) := by decide +kernel
theorem dX1_begin_24 : decode cX1_begin 24 = .ok (.iload_n 2, 1) := by decide +kernel
theorem dX1_begin_25 : decode cX1_begin 25 = .ok (.iaload, 1) := by decide +kernel
theorem dX1_begin_26 : decode cX1_begin 26 = .ok (.invokevirtual 28, 3) := by decide +kernel
theorem dX1_begin_29 : decode cX1_begin 29 = .ok (.aload_n 0, 1) := by decide +kernel
theorem dX1_begin_30 : decode cX1_begin 30 = .ok (.iload_n 2, 1) := by decide +kernel
theorem dX1_begin_31 : decode cX1_begin 31 = .ok (.bipush (-9), 2) := by decide +kernel
theorem dX1_begin_33 : decode cX1_begin 33 = .ok (.invokevirtual 32, 3) := by decide +kernel
theorem dX1_begin_36 : decode cX1_begin 36 = .ok (.aload_n 0, 1) := by decide +kernel
theorem dX1_begin_37 : decode cX1_begin 37 = .ok (.iload_n 2, 1) := by decide +kernel
theorem dX1_begin_38 : decode cX1_begin 38 = .ok (.iload_n 2, 1) := by decide +kernel
theorem dX1_begin_39 : decode cX1_begin 39 = .ok (.invokevirtual 35, 3) := by decide +kernel
theorem dX1_begin_42 : decode cX1_begin 42 = .ok (.iinc 2 1, 3) := by decide +kernel
theorem dX1_begin_45 : decode cX1_begin 45 = .ok (.goto (-33), 3) := by decide +kernel
theorem dX1_begin_48 : decode cX1_begin 48 = .ok (.return_, 1) := by decide +kernel
theorem dX1_take_0 : decode cX1_take 0 = .ok (.aload_n 0, 1) := by decide +kernel
theorem dX1_take_1 : decode cX1_take 1 = .ok (.aload_n 1, 1) := by decide +kernel
theorem dX1_take_2 : decode cX1_take 2 = .ok (.getfield 15, 3) := by decide +kernel
theorem dX1_take_5 : decode cX1_take 5 = .ok (.putfield 15, 3) := by decide +kernel
theorem dX1_take_8 : decode cX1_take 8 = .ok (.aload_n 1, 1) := by decide +kernel
theorem dX1_take_9 : decode cX1_take 9 = .ok (.getfield 11, 3) := by decide +kernel
theorem dX1_take_12 : decode cX1_take 12 = .ok (.iconst 0, 1) := by decide +kernel
theorem dX1_take_13 : decode cX1_take 13 = .ok (.aload_n 0, 1) := by decide +kernel
theorem dX1_take_14 : decode cX1_take 14 = .ok (.getfield 11, 3) := by decide +kernel
theorem dX1_take_17 : decode cX1_take 17 = .ok (.iconst 0, 1) := by decide +kernel
theorem dX1_take_18 : decode cX1_take 18 = .ok (.aload_n 0, 1) := by decide +kernel
theorem dX1_take_19 : decode cX1_take 19 = .ok (.getfield 11, 3) := by decide +kernel
theorem dX1_take_22 : decode cX1_take 22 = .ok (.arraylength, 1) := by decide +kernel
theorem dX1_take_23 : decode cX1_take 23 = .ok (.invokestatic 38, 3) := by decide +kernel
theorem dX1_take_26 : decode cX1_take 26 = .ok (.return_, 1) := by decide +kernel
theorem dX1_remember_0 : decode cX1_remember 0 = .ok (.aload_n 0, 1) := by decide +kernel
theorem dX1_remember_1 : decode cX1_remember 1 = .ok (.getfield 15, 3) := by decide +kernel
theorem dX1_remember_4 : decode cX1_remember 4 = .ok (.bipush 10, 2) := by decide +kernel
theorem dX1_remember_6 : decode cX1_remember 6 = .ok (.if_icmp .lt 26, 3) := by decide +kernel
theorem dX1_remember_9 : decode cX1_remember 9 = .ok (.aload_n 0, 1) := by decide +kernel
theorem dX1_remember_10 : decode cX1_remember 10 = .ok (.getfield 11, 3) := by decide +kernel
theorem dX1_remember_13 : decode cX1_remember 13 = .ok (.bipush 19, 2) := by decide +kernel
theorem dX1_remember_15 : decode cX1_remember 15 = .ok (.aload_n 0, 1) := by decide +kernel
theorem dX1_remember_16 : decode cX1_remember 16 = .ok (.getfield 11, 3) := by decide +kernel
theorem dX1_remember_19 : decode cX1_remember 19 = .ok (.iconst 0, 1) := by decide +kernel
theorem dX1_remember_20 : decode cX1_remember 20 = .ok (.sipush 190, 3) := by decide +kernel
theorem dX1_remember_23 : decode cX1_remember 23 = .ok (.invokestatic 38, 3) := by decide +kernel
theorem dX1_remember_26 : decode cX1_remember 26 = .ok (.aload_n 0, 1) := by decide +kernel
theorem dX1_remember_27 : decode cX1_remember 27 = .ok (.bipush 9, 2) := by decide +kernel
theorem dX1_remember_29 : decode cX1_remember 29 = .ok (.putfield 15, 3) := by decide +kernel
theorem dX1_remember_32 : decode cX1_remember 32 = .ok (.aload_n 0, 1) := by decide +kernel
theorem dX1_remember_33 : decode cX1_remember 33 = .ok (.getfield 11, 3) := by decide +kernel
theorem dX1_remember_36 : decode cX1_remember 36 = .ok (.aload_n 0, 1) := by decide +kernel
theorem dX1_remember_37 : decode cX1_remember 37 = .ok (.getfield 15, 3) := by decide +kernel
theorem dX1_remember_40 : decode cX1_remember 40 = .ok (.bipush 19, 2) := by decide +kernel
theorem dX1_remember_42 : decode cX1_remember 42 = .ok (.imul, 1) := by decide +kernel
theorem dX1_remember_43 : decode cX1_remember 43 = .ok (.aload_n 0, 1) := by decide +kernel
theorem dX1_remember_44 : decode cX1_remember 44 = .ok (.getfield 11, 3) := by decide +kernel
theorem dX1_remember_47 : decode cX1_remember 47 = .ok (.aload_n 0, 1) := by decide +kernel
theorem dX1_remember_48 : decode cX1_remember 48 = .ok (.getfield 15, 3) := by decide +kernel
theorem dX1_remember_51 : decode cX1_remember 51 = .ok (.iconst 1, 1) := by decide +kernel
theorem dX1_remember_52 : decode cX1_remember 52 = .ok (.iadd, 1) := by decide +kernel
theorem dX1_remember_53 : decode cX1_remember 53 = .ok (.bipush 19, 2) := by decide +kernel
theorem dX1_remember_55 : decode cX1_remember 55 = .ok (.imul, 1) := by decide +kernel
theorem dX1_remember_56 : decode cX1_remember 56 = .ok (.bipush 19, 2) := by decide +kernel
theorem dX1_remember_58 : decode cX1_remember 58 = .ok (.invokestatic 38, 3) := by decide +kernel
theorem dX1_remember_61 : decode cX1_remember 61 = .ok (.aload_n 0, 1) := by decide +kernel
theorem dX1_remember_62 : decode cX1_remember 62 = .ok (.dup, 1) := by decide +kernel
theorem dX1_remember_63 : decode cX1_remember 63 = .ok (.getfield 15, 3) := by decide +kernel
theorem dX1_remember_66 : decode cX1_remember 66 = .ok (.iconst 1, 1) := by decide +kernel
theorem dX1_remember_67 : decode cX1_remember 67 = .ok (.iadd, 1) := by decide +kernel
theorem dX1_remember_68 : decode cX1_remember 68 = .ok (.putfield 15, 3) := by decide +kernel
theorem dX1_remember_71 : decode cX1_remember 71 = .ok (.return_, 1) := by decide +kernel
theorem dX1_stepBack_0 : decode cX1_stepBack 0 = .ok (.aload_n 0, 1) := by decide +kernel
theorem dX1_stepBack_1 : decode cX1_stepBack 1 = .ok (.getfield 15, 3) := by decide +kernel
theorem dX1_stepBack_4 : decode cX1_stepBack 4 = .ok (.ifCond .gt 5, 3) := by decide +kernel
theorem dX1_stepBack_7 : decode cX1_stepBack 7 = .ok (.iconst 0, 1) := by decide +kernel
theorem dX1_stepBack_8 : decode cX1_stepBack 8 = .ok (.ireturn, 1) := by decide +kernel
theorem dX1_stepBack_9 : decode cX1_stepBack 9 = .ok (.aload_n 0, 1) := by decide +kernel
theorem dX1_stepBack_10 : decode cX1_stepBack 10 = .ok (.dup, 1) := by decide +kernel
theorem dX1_stepBack_11 : decode cX1_stepBack 11 = .ok (.getfield 15, 3) := by decide +kernel
theorem dX1_stepBack_14 : decode cX1_stepBack 14 = .ok (.iconst 1, 1) := by decide +kernel
theorem dX1_stepBack_15 : decode cX1_stepBack 15 = .ok (.isub, 1) := by decide +kernel
theorem dX1_stepBack_16 : decode cX1_stepBack 16 = .ok (.putfield 15, 3) := by decide +kernel
theorem dX1_stepBack_19 : decode cX1_stepBack 19 = .ok (.iconst 1, 1) := by decide +kernel
theorem dX1_stepBack_20 : decode cX1_stepBack 20 = .ok (.ireturn, 1) := by decide +kernel
theorem dX1_year_0 : decode cX1_year 0 = .ok (.aload_n 0, 1) := by decide +kernel
theorem dX1_year_1 : decode cX1_year 1 = .ok (.iconst 0, 1) := by decide +kernel
theorem dX1_year_2 : decode cX1_year 2 = .ok (.invokevirtual 44, 3) := by decide +kernel
theorem dX1_year_5 : decode cX1_year 5 = .ok (.ireturn, 1) := by decide +kernel
theorem dX1_heat_0 : decode cX1_heat 0 = .ok (.aload_n 0, 1) := by decide +kernel
theorem dX1_heat_1 : decode cX1_heat 1 = .ok (.iconst 1, 1) := by decide +kernel
theorem dX1_heat_2 : decode cX1_heat 2 = .ok (.iload_n 1, 1) := by decide +kernel
theorem dX1_heat_3 : decode cX1_heat 3 = .ok (.iadd, 1) := by decide +kernel
theorem dX1_heat_4 : decode cX1_heat 4 = .ok (.invokevirtual 44, 3) := by decide +kernel
theorem dX1_heat_7 : decode cX1_heat 7 = .ok (.ireturn, 1) := by decide +kernel
theorem dX1_place_0 : decode cX1_place 0 = .ok (.aload_n 0, 1) := by decide +kernel
theorem dX1_place_1 : decode cX1_place 1 = .ok (.bipush 7, 2) := by decide +kernel
theorem dX1_place_3 : decode cX1_place 3 = .ok (.iload_n 1, 1) := by decide +kernel
theorem dX1_place_4 : decode cX1_place 4 = .ok (.iadd, 1) := by decide +kernel
theorem dX1_place_5 : decode cX1_place 5 = .ok (.invokevirtual 44, 3) := by decide +kernel
theorem dX1_place_8 : decode cX1_place 8 = .ok (.ireturn, 1) := by decide +kernel
theorem dX1_owner_0 : decode cX1_owner 0 = .ok (.aload_n 0, 1) := by decide +kernel
theorem dX1_owner_1 : decode cX1_owner 1 = .ok (.bipush 13, 2) := by decide +kernel
theorem dX1_owner_3 : decode cX1_owner 3 = .ok (.iload_n 1, 1) := by decide +kernel
theorem dX1_owner_4 : decode cX1_owner 4 = .ok (.iadd, 1) := by decide +kernel
theorem dX1_owner_5 : decode cX1_owner 5 = .ok (.invokevirtual 44, 3) := by decide +kernel
theorem dX1_owner_8 : decode cX1_owner 8 = .ok (.ireturn, 1) := by decide +kernel
theorem dX1_setYear_0 : decode cX1_setYear 0 = .ok (.aload_n 0, 1) := by decide +kernel
theorem dX1_setYear_1 : decode cX1_setYear 1 = .ok (.iconst 0, 1) := by decide +kernel
theorem dX1_setYear_2 : decode cX1_setYear 2 = .ok (.iload_n 1, 1) := by decide +kernel
theorem dX1_setYear_3 : decode cX1_setYear 3 = .ok (.invokevirtual 48, 3) := by decide +kernel
theorem dX1_setYear_6 : decode cX1_setYear 6 = .ok (.return_, 1) := by decide +kernel
theorem dX1_setHeat_0 : decode cX1_setHeat 0 = .ok (.aload_n 0, 1) := by decide +kernel
theorem dX1_setHeat_1 : decode cX1_setHeat 1 = .ok (.iconst 1, 1) := by decide +kernel
theorem dX1_setHeat_2 : decode cX1_setHeat 2 = .ok (.iload_n 1, 1) := by decide +kernel
theorem dX1_setHeat_3 : decode cX1_setHeat 3 = .ok (.iadd, 1) := by decide +kernel
theorem dX1_setHeat_4 : decode cX1_setHeat 4 = .ok (.iload_n 2, 1) := by decide +kernel
theorem dX1_setHeat_5 : decode cX1_setHeat 5 = .ok (.invokevirtual 48, 3) := by decide +kernel
theorem dX1_setHeat_8 : decode cX1_setHeat 8 = .ok (.return_, 1) := by decide +kernel
theorem dX1_setPlace_0 : decode cX1_setPlace 0 = .ok (.aload_n 0, 1) := by decide +kernel
theorem dX1_setPlace_1 : decode cX1_setPlace 1 = .ok (.bipush 7, 2) := by decide +kernel
theorem dX1_setPlace_3 : decode cX1_setPlace 3 = .ok (.iload_n 1, 1) := by decide +kernel
theorem dX1_setPlace_4 : decode cX1_setPlace 4 = .ok (.iadd, 1) := by decide +kernel
theorem dX1_setPlace_5 : decode cX1_setPlace 5 = .ok (.iload_n 2, 1) := by decide +kernel
theorem dX1_setPlace_6 : decode cX1_setPlace 6 = .ok (.invokevirtual 48, 3) := by decide +kernel
theorem dX1_setPlace_9 : decode cX1_setPlace 9 = .ok (.return_, 1) := by decide +kernel
theorem dX1_setOwner_0 : decode cX1_setOwner 0 = .ok (.aload_n 0, 1) := by decide +kernel
theorem dX1_setOwner_1 : decode cX1_setOwner 1 = .ok (.bipush 13, 2) := by decide +kernel
theorem dX1_setOwner_3 : decode cX1_setOwner 3 = .ok (.iload_n 1, 1) := by decide +kernel
theorem dX1_setOwner_4 : decode cX1_setOwner 4 = .ok (.iadd, 1) := by decide +kernel
theorem dX1_setOwner_5 : decode cX1_setOwner 5 = .ok (.iload_n 2, 1) := by decide +kernel
theorem dX1_setOwner_6 : decode cX1_setOwner 6 = .ok (.invokevirtual 48, 3) := by decide +kernel
theorem dX1_setOwner_9 : decode cX1_setOwner 9 = .ok (.return_, 1) := by decide +kernel
theorem dX1_ring_0 : decode cX1_ring 0 = .ok (.aload_n 0, 1) := by decide +kernel
theorem dX1_ring_1 : decode cX1_ring 1 = .ok (.iload_n 1, 1) := by decide +kernel
theorem dX1_ring_2 : decode cX1_ring 2 = .ok (.invokevirtual 51, 3) := by decide +kernel
theorem dX1_ring_5 : decode cX1_ring 5 = .ok (.istore_n 2, 1) := by decide +kernel
theorem dX1_ring_6 : decode cX1_ring 6 = .ok (.iconst 1, 1) := by decide +kernel
theorem dX1_ring_7 : decode cX1_ring 7 = .ok (.istore_n 3, 1) := by decide +kernel
theorem dX1_ring_8 : decode cX1_ring 8 = .ok (.iload_n 2, 1) := by decide +kernel
theorem dX1_ring_9 : decode cX1_ring 9 = .ok (.iload_n 1, 1) := by decide +kernel
theorem dX1_ring_10 : decode cX1_ring 10 = .ok (.if_icmp .eq 21, 3) := by decide +kernel
theorem dX1_ring_13 : decode cX1_ring 13 = .ok (.iload_n 3, 1) := by decide +kernel
theorem dX1_ring_14 : decode cX1_ring 14 = .ok (.bipush 6, 2) := by decide +kernel
theorem dX1_ring_16 : decode cX1_ring 16 = .ok (.if_icmp .ge 15, 3) := by decide +kernel
theorem dX1_ring_19 : decode cX1_ring 19 = .ok (.aload_n 0, 1) := by decide +kernel
theorem dX1_ring_20 : decode cX1_ring 20 = .ok (.iload_n 2, 1) := by decide +kernel
theorem dX1_ring_21 : decode cX1_ring 21 = .ok (.invokevirtual 51, 3) := by decide +kernel
theorem dX1_ring_24 : decode cX1_ring 24 = .ok (.istore_n 2, 1) := by decide +kernel
theorem dX1_ring_25 : decode cX1_ring 25 = .ok (.iinc 3 1, 3) := by decide +kernel
theorem dX1_ring_28 : decode cX1_ring 28 = .ok (.goto (-20), 3) := by decide +kernel
theorem dX1_ring_31 : decode cX1_ring 31 = .ok (.iload_n 3, 1) := by decide +kernel
theorem dX1_ring_32 : decode cX1_ring 32 = .ok (.ireturn, 1) := by decide +kernel
theorem dX1_mixesToRight_0 : decode cX1_mixesToRight 0 = .ok (.iconst 0, 1) := by decide +kernel
theorem dX1_mixesToRight_1 : decode cX1_mixesToRight 1 = .ok (.istore_n 2, 1) := by decide +kernel
theorem dX1_mixesToRight_2 : decode cX1_mixesToRight 2 = .ok (.iconst 0, 1) := by decide +kernel
theorem dX1_mixesToRight_3 : decode cX1_mixesToRight 3 = .ok (.istore_n 3, 1) := by decide +kernel
theorem dX1_mixesToRight_4 : decode cX1_mixesToRight 4 = .ok (.iload_n 3, 1) := by decide +kernel
theorem dX1_mixesToRight_5 : decode cX1_mixesToRight 5 = .ok (.iload_n 1, 1) := by decide +kernel
theorem dX1_mixesToRight_6 : decode cX1_mixesToRight 6 = .ok (.if_icmp .ge 20, 3) := by decide +kernel
theorem dX1_mixesToRight_9 : decode cX1_mixesToRight 9 = .ok (.aload_n 0, 1) := by decide +kernel
theorem dX1_mixesToRight_10 : decode cX1_mixesToRight 10 = .ok (.iload_n 3, 1) := by decide +kernel
theorem dX1_mixesToRight_11 : decode cX1_mixesToRight 11 = .ok (.invokevirtual 54, 3) := by decide +kernel
theorem dX1_mixesToRight_14 : decode cX1_mixesToRight 14 = .ok (.ifCond .ne 6, 3) := by decide +kernel
theorem dX1_mixesToRight_17 : decode cX1_mixesToRight 17 = .ok (.iinc 2 1, 3) := by decide +kernel
theorem dX1_mixesToRight_20 : decode cX1_mixesToRight 20 = .ok (.iinc 3 1, 3) := by decide +kernel
theorem dX1_mixesToRight_23 : decode cX1_mixesToRight 23 = .ok (.goto (-19), 3) := by decide +kernel
theorem dX1_mixesToRight_26 : decode cX1_mixesToRight 26 = .ok (.iload_n 2, 1) := by decide +kernel
theorem dX1_mixesToRight_27 : decode cX1_mixesToRight 27 = .ok (.ireturn, 1) := by decide +kernel
theorem dX1_isLowestOfRing_0 : decode cX1_isLowestOfRing 0 = .ok (.aload_n 0, 1) := by decide +kernel
theorem dX1_isLowestOfRing_1 : decode cX1_isLowestOfRing 1 = .ok (.iload_n 1, 1) := by decide +kernel
theorem dX1_isLowestOfRing_2 : decode cX1_isLowestOfRing 2 = .ok (.invokevirtual 51, 3) := by decide +kernel
theorem dX1_isLowestOfRing_5 : decode cX1_isLowestOfRing 5 = .ok (.istore_n 2, 1) := by decide +kernel
theorem dX1_isLowestOfRing_6 : decode cX1_isLowestOfRing 6 = .ok (.iconst 0, 1) := by decide +kernel
theorem dX1_isLowestOfRing_7 : decode cX1_isLowestOfRing 7 = .ok (.istore_n 3, 1) := by decide +kernel
theorem dX1_isLowestOfRing_8 : decode cX1_isLowestOfRing 8 = .ok (.iload_n 3, 1) := by decide +kernel
theorem dX1_isLowestOfRing_9 : decode cX1_isLowestOfRing 9 = .ok (.bipush 6, 2) := by decide +kernel
theorem dX1_isLowestOfRing_11 : decode cX1_isLowestOfRing 11 = .ok (.if_icmp .ge 22, 3) := by decide +kernel
theorem dX1_isLowestOfRing_14 : decode cX1_isLowestOfRing 14 = .ok (.iload_n 2, 1) := by decide +kernel
theorem dX1_isLowestOfRing_15 : decode cX1_isLowestOfRing 15 = .ok (.iload_n 1, 1) := by decide +kernel
theorem dX1_isLowestOfRing_16 : decode cX1_isLowestOfRing 16 = .ok (.if_icmp .ge 5, 3) := by decide +kernel
theorem dX1_isLowestOfRing_19 : decode cX1_isLowestOfRing 19 = .ok (.iconst 0, 1) := by decide +kernel
theorem dX1_isLowestOfRing_20 : decode cX1_isLowestOfRing 20 = .ok (.ireturn, 1) := by decide +kernel
theorem dX1_isLowestOfRing_21 : decode cX1_isLowestOfRing 21 = .ok (.aload_n 0, 1) := by decide +kernel
theorem dX1_isLowestOfRing_22 : decode cX1_isLowestOfRing 22 = .ok (.iload_n 2, 1) := by decide +kernel
theorem dX1_isLowestOfRing_23 : decode cX1_isLowestOfRing 23 = .ok (.invokevirtual 51, 3) := by decide +kernel
theorem dX1_isLowestOfRing_26 : decode cX1_isLowestOfRing 26 = .ok (.istore_n 2, 1) := by decide +kernel
theorem dX1_isLowestOfRing_27 : decode cX1_isLowestOfRing 27 = .ok (.iinc 3 1, 3) := by decide +kernel
theorem dX1_isLowestOfRing_30 : decode cX1_isLowestOfRing 30 = .ok (.goto (-22), 3) := by decide +kernel
theorem dX1_isLowestOfRing_33 : decode cX1_isLowestOfRing 33 = .ok (.iconst 1, 1) := by decide +kernel
theorem dX1_isLowestOfRing_34 : decode cX1_isLowestOfRing 34 = .ok (.ireturn, 1) := by decide +kernel
theorem dX1_cell_0 : decode cX1_cell 0 = .ok (.aload_n 0, 1) := by decide +kernel
theorem dX1_cell_1 : decode cX1_cell 1 = .ok (.getfield 15, 3) := by decide +kernel
theorem dX1_cell_4 : decode cX1_cell 4 = .ok (.bipush 19, 2) := by decide +kernel
theorem dX1_cell_6 : decode cX1_cell 6 = .ok (.imul, 1) := by decide +kernel
theorem dX1_cell_7 : decode cX1_cell 7 = .ok (.iload_n 1, 1) := by decide +kernel
theorem dX1_cell_8 : decode cX1_cell 8 = .ok (.iadd, 1) := by decide +kernel
theorem dX1_cell_9 : decode cX1_cell 9 = .ok (.istore_n 2, 1) := by decide +kernel
theorem dX1_cell_10 : decode cX1_cell 10 = .ok (.iload_n 2, 1) := by decide +kernel
theorem dX1_cell_11 : decode cX1_cell 11 = .ok (.ifCond .lt 21, 3) := by decide +kernel
theorem dX1_cell_14 : decode cX1_cell 14 = .ok (.iload_n 2, 1) := by decide +kernel
theorem dX1_cell_15 : decode cX1_cell 15 = .ok (.aload_n 0, 1) := by decide +kernel
theorem dX1_cell_16 : decode cX1_cell 16 = .ok (.getfield 11, 3) := by decide +kernel
theorem dX1_cell_19 : decode cX1_cell 19 = .ok (.arraylength, 1) := by decide +kernel
theorem dX1_cell_20 : decode cX1_cell 20 = .ok (.if_icmp .ge 12, 3) := by decide +kernel
theorem dX1_cell_23 : decode cX1_cell 23 = .ok (.aload_n 0, 1) := by decide +kernel
theorem dX1_cell_24 : decode cX1_cell 24 = .ok (.getfield 11, 3) := by decide +kernel
theorem dX1_cell_27 : decode cX1_cell 27 = .ok (.iload_n 2, 1) := by decide +kernel
theorem dX1_cell_28 : decode cX1_cell 28 = .ok (.iaload, 1) := by decide +kernel
theorem dX1_cell_29 : decode cX1_cell 29 = .ok (.goto 4, 3) := by decide +kernel
theorem dX1_cell_32 : decode cX1_cell 32 = .ok (.iconst 0, 1) := by decide +kernel
theorem dX1_cell_33 : decode cX1_cell 33 = .ok (.ireturn, 1) := by decide +kernel
theorem dX1_setCell_0 : decode cX1_setCell 0 = .ok (.aload_n 0, 1) := by decide +kernel
theorem dX1_setCell_1 : decode cX1_setCell 1 = .ok (.getfield 15, 3) := by decide +kernel
theorem dX1_setCell_4 : decode cX1_setCell 4 = .ok (.bipush 19, 2) := by decide +kernel
theorem dX1_setCell_6 : decode cX1_setCell 6 = .ok (.imul, 1) := by decide +kernel
theorem dX1_setCell_7 : decode cX1_setCell 7 = .ok (.iload_n 1, 1) := by decide +kernel
theorem dX1_setCell_8 : decode cX1_setCell 8 = .ok (.iadd, 1) := by decide +kernel
theorem dX1_setCell_9 : decode cX1_setCell 9 = .ok (.istore_n 3, 1) := by decide +kernel
theorem dX1_setCell_10 : decode cX1_setCell 10 = .ok (.iload_n 3, 1) := by decide +kernel
theorem dX1_setCell_11 : decode cX1_setCell 11 = .ok (.ifCond .lt 19, 3) := by decide +kernel
theorem dX1_setCell_14 : decode cX1_setCell 14 = .ok (.iload_n 3, 1) := by decide +kernel
theorem dX1_setCell_15 : decode cX1_setCell 15 = .ok (.aload_n 0, 1) := by decide +kernel
theorem dX1_setCell_16 : decode cX1_setCell 16 = .ok (.getfield 11, 3) := by decide +kernel
theorem dX1_setCell_19 : decode cX1_setCell 19 = .ok (.arraylength, 1) := by decide +kernel
theorem dX1_setCell_20 : decode cX1_setCell 20 = .ok (.if_icmp .ge 10, 3) := by decide +kernel
theorem dX1_setCell_23 : decode cX1_setCell 23 = .ok (.aload_n 0, 1) := by decide +kernel
theorem dX1_setCell_24 : decode cX1_setCell 24 = .ok (.getfield 11, 3) := by decide +kernel
theorem dX1_setCell_27 : decode cX1_setCell 27 = .ok (.iload_n 3, 1) := by decide +kernel
theorem dX1_setCell_28 : decode cX1_setCell 28 = .ok (.iload_n 2, 1) := by decide +kernel
theorem dX1_setCell_29 : decode cX1_setCell 29 = .ok (.iastore, 1) := by decide +kernel
theorem dX1_setCell_30 : decode cX1_setCell 30 = .ok (.return_, 1) := by decide +kernel
theorem dX2_init_0 : decode cX2_init 0 = .ok (.aload_n 0, 1) := by decide +kernel
theorem dX2_init_1 : decode cX2_init 1 = .ok (.invokespecial 3, 3) := by decide +kernel
theorem dX2_init_4 : decode cX2_init 4 = .ok (.aload_n 0, 1) := by decide +kernel
theorem dX2_init_5 : decode cX2_init 5 = .ok (.bipush 6, 2) := by decide +kernel
theorem dX2_init_7 : decode cX2_init 7 = .ok (.newarray .int, 2) := by decide +kernel
theorem dX2_init_9 : decode cX2_init 9 = .ok (.putfield 9, 3) := by decide +kernel
theorem dX2_init_12 : decode cX2_init 12 = .ok (.aload_n 0, 1) := by decide +kernel
theorem dX2_init_13 : decode cX2_init 13 = .ok (.bipush 6, 2) := by decide +kernel
theorem dX2_init_15 : decode cX2_init 15 = .ok (.newarray .int, 2) := by decide +kernel
theorem dX2_init_17 : decode cX2_init 17 = .ok (.putfield 15, 3) := by decide +kernel
theorem dX2_init_20 : decode cX2_init 20 = .ok (.aload_n 0, 1) := by decide +kernel
theorem dX2_init_21 : decode cX2_init 21 = .ok (.bipush 6, 2) := by decide +kernel
theorem dX2_init_23 : decode cX2_init 23 = .ok (.newarray .int, 2) := by decide +kernel
theorem dX2_init_25 : decode cX2_init 25 = .ok (.putfield 18, 3) := by decide +kernel
theorem dX2_init_28 : decode cX2_init 28 = .ok (.aload_n 0, 1) := by decide +kernel
theorem dX2_init_29 : decode cX2_init 29 = .ok (.bipush 6, 2) := by decide +kernel
theorem dX2_init_31 : decode cX2_init 31 = .ok (.newarray .int, 2) := by decide +kernel
theorem dX2_init_33 : decode cX2_init 33 = .ok (.putfield 21, 3) := by decide +kernel
theorem dX2_init_36 : decode cX2_init 36 = .ok (.aload_n 0, 1) := by decide +kernel
theorem dX2_init_37 : decode cX2_init 37 = .ok (.iconst 4, 1) := by decide +kernel
theorem dX2_init_38 : decode cX2_init 38 = .ok (.newarray .int, 2) := by decide +kernel
theorem dX2_init_40 : decode cX2_init 40 = .ok (.putfield 24, 3) := by decide +kernel
theorem dX2_init_43 : decode cX2_init 43 = .ok (.aload_n 0, 1) := by decide +kernel
theorem dX2_init_44 : decode cX2_init 44 = .ok (.iconst 4, 1) := by decide +kernel
theorem dX2_init_45 : decode cX2_init 45 = .ok (.newarray .int, 2) := by decide +kernel
theorem dX2_init_47 : decode cX2_init 47 = .ok (.putfield 27, 3) := by decide +kernel
theorem dX2_init_50 : decode cX2_init 50 = .ok (.aload_n 0, 1) := by decide +kernel
theorem dX2_init_51 : decode cX2_init 51 = .ok (.iconst 4, 1) := by decide +kernel
theorem dX2_init_52 : decode cX2_init 52 = .ok (.newarray .int, 2) := by decide +kernel
theorem dX2_init_54 : decode cX2_init 54 = .ok (.putfield 30, 3) := by decide +kernel
theorem dX2_init_57 : decode cX2_init 57 = .ok (.return_, 1) := by decide +kernel
theorem dX2_hasTemper_0 : decode cX2_hasTemper 0 = .ok (.iload_n 1, 1) := by decide +kernel
theorem dX2_hasTemper_1 : decode cX2_hasTemper 1 = .ok (.ifCond .lt 15, 3) := by decide +kernel
theorem dX2_hasTemper_4 : decode cX2_hasTemper 4 = .ok (.iload_n 1, 1) := by decide +kernel
theorem dX2_hasTemper_5 : decode cX2_hasTemper 5 = .ok (.aload_n 0, 1) := by decide +kernel
theorem dX2_hasTemper_6 : decode cX2_hasTemper 6 = .ok (.getfield 33, 3) := by decide +kernel
theorem dX2_hasTemper_9 : decode cX2_hasTemper 9 = .ok (.if_icmp .ge 7, 3) := by decide +kernel
theorem dX2_hasTemper_12 : decode cX2_hasTemper 12 = .ok (.iconst 1, 1) := by decide +kernel
theorem dX2_hasTemper_13 : decode cX2_hasTemper 13 = .ok (.goto 4, 3) := by decide +kernel
theorem dX2_hasTemper_16 : decode cX2_hasTemper 16 = .ok (.iconst 0, 1) := by decide +kernel
theorem dX2_hasTemper_17 : decode cX2_hasTemper 17 = .ok (.ireturn, 1) := by decide +kernel
theorem dX2_hasNurse_0 : decode cX2_hasNurse 0 = .ok (.iload_n 1, 1) := by decide +kernel
theorem dX2_hasNurse_1 : decode cX2_hasNurse 1 = .ok (.ifCond .lt 15, 3) := by decide +kernel
theorem dX2_hasNurse_4 : decode cX2_hasNurse 4 = .ok (.iload_n 1, 1) := by decide +kernel
theorem dX2_hasNurse_5 : decode cX2_hasNurse 5 = .ok (.aload_n 0, 1) := by decide +kernel
theorem dX2_hasNurse_6 : decode cX2_hasNurse 6 = .ok (.getfield 37, 3) := by decide +kernel
theorem dX2_hasNurse_9 : decode cX2_hasNurse 9 = .ok (.if_icmp .ge 7, 3) := by decide +kernel
theorem dX2_hasNurse_12 : decode cX2_hasNurse 12 = .ok (.iconst 1, 1) := by decide +kernel
theorem dX2_hasNurse_13 : decode cX2_hasNurse 13 = .ok (.goto 4, 3) := by decide +kernel
theorem dX2_hasNurse_16 : decode cX2_hasNurse 16 = .ok (.iconst 0, 1) := by decide +kernel
theorem dX2_hasNurse_17 : decode cX2_hasNurse 17 = .ok (.ireturn, 1) := by decide +kernel
theorem dX2_wipe_0 : decode cX2_wipe 0 = .ok (.aload_n 0, 1) := by decide +kernel
theorem dX2_wipe_1 : decode cX2_wipe 1 = .ok (.iconst 0, 1) := by decide +kernel
theorem dX2_wipe_2 : decode cX2_wipe 2 = .ok (.putfield 33, 3) := by decide +kernel
theorem dX2_wipe_5 : decode cX2_wipe 5 = .ok (.aload_n 0, 1) := by decide +kernel
theorem dX2_wipe_6 : decode cX2_wipe 6 = .ok (.iconst 0, 1) := by decide +kernel
theorem dX2_wipe_7 : decode cX2_wipe 7 = .ok (.putfield 37, 3) := by decide +kernel
theorem dX2_wipe_10 : decode cX2_wipe 10 = .ok (.aload_n 0, 1) := by decide +kernel
theorem dX2_wipe_11 : decode cX2_wipe 11 = .ok (.getfield 21, 3) := by decide +kernel
theorem dX2_wipe_14 : decode cX2_wipe 14 = .ok (.iconst 0, 1) := by decide +kernel
theorem dX2_wipe_15 : decode cX2_wipe 15 = .ok (.invokestatic 40, 3) := by decide +kernel
theorem dX2_wipe_18 : decode cX2_wipe 18 = .ok (.return_, 1) := by decide +kernel
theorem dX2_addTemper_0 : decode cX2_addTemper 0 = .ok (.aload_n 0, 1) := by decide +kernel
theorem dX2_addTemper_1 : decode cX2_addTemper 1 = .ok (.getfield 33, 3) := by decide +kernel
theorem dX2_addTemper_4 : decode cX2_addTemper 4 = .ok (.bipush 6, 2) := by decide +kernel
theorem dX2_addTemper_6 : decode cX2_addTemper 6 = .ok (.if_icmp .lt 4, 3) := by decide +kernel
theorem dX2_addTemper_9 : decode cX2_addTemper 9 = .ok (.return_, 1) := by decide +kernel
theorem dX2_addTemper_10 : decode cX2_addTemper 10 = .ok (.aload_n 0, 1) := by decide +kernel
theorem dX2_addTemper_11 : decode cX2_addTemper 11 = .ok (.getfield 9, 3) := by decide +kernel
theorem dX2_addTemper_14 : decode cX2_addTemper 14 = .ok (.aload_n 0, 1) := by decide +kernel
theorem dX2_addTemper_15 : decode cX2_addTemper 15 = .ok (.getfield 33, 3) := by decide +kernel
theorem dX2_addTemper_18 : decode cX2_addTemper 18 = .ok (.iload_n 1, 1) := by decide +kernel
theorem dX2_addTemper_19 : decode cX2_addTemper 19 = .ok (.iastore, 1) := by decide +kernel
theorem dX2_addTemper_20 : decode cX2_addTemper 20 = .ok (.aload_n 0, 1) := by decide +kernel
theorem dX2_addTemper_21 : decode cX2_addTemper 21 = .ok (.getfield 15, 3) := by decide +kernel
theorem dX2_addTemper_24 : decode cX2_addTemper 24 = .ok (.aload_n 0, 1) := by decide +kernel
theorem dX2_addTemper_25 : decode cX2_addTemper 25 = .ok (.getfield 33, 3) := by decide +kernel
theorem dX2_addTemper_28 : decode cX2_addTemper 28 = .ok (.iload_n 2, 1) := by decide +kernel
theorem dX2_addTemper_29 : decode cX2_addTemper 29 = .ok (.iastore, 1) := by decide +kernel
theorem dX2_addTemper_30 : decode cX2_addTemper 30 = .ok (.aload_n 0, 1) := by decide +kernel
theorem dX2_addTemper_31 : decode cX2_addTemper 31 = .ok (.getfield 18, 3) := by decide +kernel
theorem dX2_addTemper_34 : decode cX2_addTemper 34 = .ok (.aload_n 0, 1) := by decide +kernel
theorem dX2_addTemper_35 : decode cX2_addTemper 35 = .ok (.getfield 33, 3) := by decide +kernel
theorem dX2_addTemper_38 : decode cX2_addTemper 38 = .ok (.iload_n 3, 1) := by decide +kernel
theorem dX2_addTemper_39 : decode cX2_addTemper 39 = .ok (.iastore, 1) := by decide +kernel
theorem dX2_addTemper_40 : decode cX2_addTemper 40 = .ok (.aload_n 0, 1) := by decide +kernel
theorem dX2_addTemper_41 : decode cX2_addTemper 41 = .ok (.dup, 1) := by decide +kernel
theorem dX2_addTemper_42 : decode cX2_addTemper 42 = .ok (.getfield 33, 3) := by decide +kernel
theorem dX2_addTemper_45 : decode cX2_addTemper 45 = .ok (.iconst 1, 1) := by decide +kernel
theorem dX2_addTemper_46 : decode cX2_addTemper 46 = .ok (.iadd, 1) := by decide +kernel
theorem dX2_addTemper_47 : decode cX2_addTemper 47 = .ok (.putfield 33, 3) := by decide +kernel
theorem dX2_addTemper_50 : decode cX2_addTemper 50 = .ok (.return_, 1) := by decide +kernel
theorem dX2_addNurse_0 : decode cX2_addNurse 0 = .ok (.aload_n 0, 1) := by decide +kernel
theorem dX2_addNurse_1 : decode cX2_addNurse 1 = .ok (.getfield 37, 3) := by decide +kernel
theorem dX2_addNurse_4 : decode cX2_addNurse 4 = .ok (.iconst 4, 1) := by decide +kernel
theorem dX2_addNurse_5 : decode cX2_addNurse 5 = .ok (.if_icmp .lt 4, 3) := by decide +kernel
theorem dX2_addNurse_8 : decode cX2_addNurse 8 = .ok (.return_, 1) := by decide +kernel
theorem dX2_addNurse_9 : decode cX2_addNurse 9 = .ok (.aload_n 0, 1) := by decide +kernel
theorem dX2_addNurse_10 : decode cX2_addNurse 10 = .ok (.getfield 24, 3) := by decide +kernel
theorem dX2_addNurse_13 : decode cX2_addNurse 13 = .ok (.aload_n 0, 1) := by decide +kernel
theorem dX2_addNurse_14 : decode cX2_addNurse 14 = .ok (.getfield 37, 3) := by decide +kernel
theorem dX2_addNurse_17 : decode cX2_addNurse 17 = .ok (.iload_n 1, 1) := by decide +kernel
theorem dX2_addNurse_18 : decode cX2_addNurse 18 = .ok (.iastore, 1) := by decide +kernel
theorem dX2_addNurse_19 : decode cX2_addNurse 19 = .ok (.aload_n 0, 1) := by decide +kernel
theorem dX2_addNurse_20 : decode cX2_addNurse 20 = .ok (.getfield 27, 3) := by decide +kernel
theorem dX2_addNurse_23 : decode cX2_addNurse 23 = .ok (.aload_n 0, 1) := by decide +kernel
theorem dX2_addNurse_24 : decode cX2_addNurse 24 = .ok (.getfield 37, 3) := by decide +kernel
theorem dX2_addNurse_27 : decode cX2_addNurse 27 = .ok (.iload_n 2, 1) := by decide +kernel
theorem dX2_addNurse_28 : decode cX2_addNurse 28 = .ok (.iastore, 1) := by decide +kernel
theorem dX2_addNurse_29 : decode cX2_addNurse 29 = .ok (.aload_n 0, 1) := by decide +kernel
theorem dX2_addNurse_30 : decode cX2_addNurse 30 = .ok (.getfield 30, 3) := by decide +kernel
theorem dX2_addNurse_33 : decode cX2_addNurse 33 = .ok (.aload_n 0, 1) := by decide +kernel
theorem dX2_addNurse_34 : decode cX2_addNurse 34 = .ok (.getfield 37, 3) := by decide +kernel
theorem dX2_addNurse_37 : decode cX2_addNurse 37 = .ok (.iload_n 3, 1) := by decide +kernel
theorem dX2_addNurse_38 : decode cX2_addNurse 38 = .ok (.iastore, 1) := by decide +kernel
theorem dX2_addNurse_39 : decode cX2_addNurse 39 = .ok (.aload_n 0, 1) := by decide +kernel
theorem dX2_addNurse_40 : decode cX2_addNurse 40 = .ok (.dup, 1) := by decide +kernel
theorem dX2_addNurse_41 : decode cX2_addNurse 41 = .ok (.getfield 37, 3) := by decide +kernel
theorem dX2_addNurse_44 : decode cX2_addNurse 44 = .ok (.iconst 1, 1) := by decide +kernel
theorem dX2_addNurse_45 : decode cX2_addNurse 45 = .ok (.iadd, 1) := by decide +kernel
theorem dX2_addNurse_46 : decode cX2_addNurse 46 = .ok (.putfield 37, 3) := by decide +kernel
theorem dX2_addNurse_49 : decode cX2_addNurse 49 = .ok (.return_, 1) := by decide +kernel
theorem dX2_addClash_0 : decode cX2_addClash 0 = .ok (.aload_n 0, 1) := by decide +kernel
theorem dX2_addClash_1 : decode cX2_addClash 1 = .ok (.iload_n 1, 1) := by decide +kernel
theorem dX2_addClash_2 : decode cX2_addClash 2 = .ok (.invokevirtual 46, 3) := by decide +kernel
theorem dX2_addClash_5 : decode cX2_addClash 5 = .ok (.ifCond .eq 11, 3) := by decide +kernel
theorem dX2_addClash_8 : decode cX2_addClash 8 = .ok (.aload_n 0, 1) := by decide +kernel
theorem dX2_addClash_9 : decode cX2_addClash 9 = .ok (.iload_n 2, 1) := by decide +kernel
theorem dX2_addClash_10 : decode cX2_addClash 10 = .ok (.invokevirtual 46, 3) := by decide +kernel
theorem dX2_addClash_13 : decode cX2_addClash 13 = .ok (.ifCond .ne 4, 3) := by decide +kernel
theorem dX2_addClash_16 : decode cX2_addClash 16 = .ok (.return_, 1) := by decide +kernel
theorem dX2_addClash_17 : decode cX2_addClash 17 = .ok (.aload_n 0, 1) := by decide +kernel
theorem dX2_addClash_18 : decode cX2_addClash 18 = .ok (.getfield 21, 3) := by decide +kernel
theorem dX2_addClash_21 : decode cX2_addClash 21 = .ok (.iload_n 1, 1) := by decide +kernel
theorem dX2_addClash_22 : decode cX2_addClash 22 = .ok (.dup2, 1) := by decide +kernel
theorem dX2_addClash_23 : decode cX2_addClash 23 = .ok (.iaload, 1) := by decide +kernel
theorem dX2_addClash_24 : decode cX2_addClash 24 = .ok (.iload_n 2, 1) := by decide +kernel
theorem dX2_addClash_25 : decode cX2_addClash 25 = .ok (.invokestatic 50, 3) := by decide +kernel
theorem dX2_addClash_28 : decode cX2_addClash 28 = .ok (.ior, 1) := by decide +kernel
theorem dX2_addClash_29 : decode cX2_addClash 29 = .ok (.iastore, 1) := by decide +kernel
theorem dX2_addClash_30 : decode cX2_addClash 30 = .ok (.aload_n 0, 1) := by decide +kernel
theorem dX2_addClash_31 : decode cX2_addClash 31 = .ok (.getfield 21, 3) := by decide +kernel
theorem dX2_addClash_34 : decode cX2_addClash 34 = .ok (.iload_n 2, 1) := by decide +kernel
theorem dX2_addClash_35 : decode cX2_addClash 35 = .ok (.dup2, 1) := by decide +kernel
theorem dX2_addClash_36 : decode cX2_addClash 36 = .ok (.iaload, 1) := by decide +kernel
theorem dX2_addClash_37 : decode cX2_addClash 37 = .ok (.iload_n 1, 1) := by decide +kernel
theorem dX2_addClash_38 : decode cX2_addClash 38 = .ok (.invokestatic 50, 3) := by decide +kernel
theorem dX2_addClash_41 : decode cX2_addClash 41 = .ok (.ior, 1) := by decide +kernel
theorem dX2_addClash_42 : decode cX2_addClash 42 = .ok (.iastore, 1) := by decide +kernel
theorem dX2_addClash_43 : decode cX2_addClash 43 = .ok (.return_, 1) := by decide +kernel
theorem dX2_take_0 : decode cX2_take 0 = .ok (.aload_n 0, 1) := by decide +kernel
theorem dX2_take_1 : decode cX2_take 1 = .ok (.aload_n 1, 1) := by decide +kernel
theorem dX2_take_2 : decode cX2_take 2 = .ok (.getfield 33, 3) := by decide +kernel
theorem dX2_take_5 : decode cX2_take 5 = .ok (.putfield 33, 3) := by decide +kernel
theorem dX2_take_8 : decode cX2_take 8 = .ok (.aload_n 0, 1) := by decide +kernel
theorem dX2_take_9 : decode cX2_take 9 = .ok (.aload_n 1, 1) := by decide +kernel
theorem dX2_take_10 : decode cX2_take 10 = .ok (.getfield 37, 3) := by decide +kernel
theorem dX2_take_13 : decode cX2_take 13 = .ok (.putfield 37, 3) := by decide +kernel
theorem dX2_take_16 : decode cX2_take 16 = .ok (.aload_n 1, 1) := by decide +kernel
theorem dX2_take_17 : decode cX2_take 17 = .ok (.getfield 9, 3) := by decide +kernel
theorem dX2_take_20 : decode cX2_take 20 = .ok (.iconst 0, 1) := by decide +kernel
theorem dX2_take_21 : decode cX2_take 21 = .ok (.aload_n 0, 1) := by decide +kernel
theorem dX2_take_22 : decode cX2_take 22 = .ok (.getfield 9, 3) := by decide +kernel
theorem dX2_take_25 : decode cX2_take 25 = .ok (.iconst 0, 1) := by decide +kernel
theorem dX2_take_26 : decode cX2_take 26 = .ok (.bipush 6, 2) := by decide +kernel
theorem dX2_take_28 : decode cX2_take 28 = .ok (.invokestatic 54, 3) := by decide +kernel
theorem dX2_take_31 : decode cX2_take 31 = .ok (.aload_n 1, 1) := by decide +kernel
theorem dX2_take_32 : decode cX2_take 32 = .ok (.getfield 15, 3) := by decide +kernel
theorem dX2_take_35 : decode cX2_take 35 = .ok (.iconst 0, 1) := by decide +kernel
theorem dX2_take_36 : decode cX2_take 36 = .ok (.aload_n 0, 1) := by decide +kernel
theorem dX2_take_37 : decode cX2_take 37 = .ok (.getfield 15, 3) := by decide +kernel
theorem dX2_take_40 : decode cX2_take 40 = .ok (.iconst 0, 1) := by decide +kernel
theorem dX2_take_41 : decode cX2_take 41 = .ok (.bipush 6, 2) := by decide +kernel
theorem dX2_take_43 : decode cX2_take 43 = .ok (.invokestatic 54, 3) := by decide +kernel
theorem dX2_take_46 : decode cX2_take 46 = .ok (.aload_n 1, 1) := by decide +kernel
theorem dX2_take_47 : decode cX2_take 47 = .ok (.getfield 18, 3) := by decide +kernel
theorem dX2_take_50 : decode cX2_take 50 = .ok (.iconst 0, 1) := by decide +kernel
theorem dX2_take_51 : decode cX2_take 51 = .ok (.aload_n 0, 1) := by decide +kernel
theorem dX2_take_52 : decode cX2_take 52 = .ok (.getfield 18, 3) := by decide +kernel
theorem dX2_take_55 : decode cX2_take 55 = .ok (.iconst 0, 1) := by decide +kernel
theorem dX2_take_56 : decode cX2_take 56 = .ok (.bipush 6, 2) := by decide +kernel
theorem dX2_take_58 : decode cX2_take 58 = .ok (.invokestatic 54, 3) := by decide +kernel
theorem dX2_take_61 : decode cX2_take 61 = .ok (.aload_n 1, 1) := by decide +kernel
theorem dX2_take_62 : decode cX2_take 62 = .ok (.getfield 21, 3) := by decide +kernel
theorem dX2_take_65 : decode cX2_take 65 = .ok (.iconst 0, 1) := by decide +kernel
theorem dX2_take_66 : decode cX2_take 66 = .ok (.aload_n 0, 1) := by decide +kernel
theorem dX2_take_67 : decode cX2_take 67 = .ok (.getfield 21, 3) := by decide +kernel
theorem dX2_take_70 : decode cX2_take 70 = .ok (.iconst 0, 1) := by decide +kernel
theorem dX2_take_71 : decode cX2_take 71 = .ok (.bipush 6, 2) := by decide +kernel
theorem dX2_take_73 : decode cX2_take 73 = .ok (.invokestatic 54, 3) := by decide +kernel
theorem dX2_take_76 : decode cX2_take 76 = .ok (.aload_n 1, 1) := by decide +kernel
theorem dX2_take_77 : decode cX2_take 77 = .ok (.getfield 24, 3) := by decide +kernel
theorem dX2_take_80 : decode cX2_take 80 = .ok (.iconst 0, 1) := by decide +kernel
theorem dX2_take_81 : decode cX2_take 81 = .ok (.aload_n 0, 1) := by decide +kernel
theorem dX2_take_82 : decode cX2_take 82 = .ok (.getfield 24, 3) := by decide +kernel
theorem dX2_take_85 : decode cX2_take 85 = .ok (.iconst 0, 1) := by decide +kernel
theorem dX2_take_86 : decode cX2_take 86 = .ok (.iconst 4, 1) := by decide +kernel
theorem dX2_take_87 : decode cX2_take 87 = .ok (.invokestatic 54, 3) := by decide +kernel
theorem dX2_take_90 : decode cX2_take 90 = .ok (.aload_n 1, 1) := by decide +kernel
theorem dX2_take_91 : decode cX2_take 91 = .ok (.getfield 27, 3) := by decide +kernel
theorem dX2_take_94 : decode cX2_take 94 = .ok (.iconst 0, 1) := by decide +kernel
theorem dX2_take_95 : decode cX2_take 95 = .ok (.aload_n 0, 1) := by decide +kernel
theorem dX2_take_96 : decode cX2_take 96 = .ok (.getfield 27, 3) := by decide +kernel
theorem dX2_take_99 : decode cX2_take 99 = .ok (.iconst 0, 1) := by decide +kernel
theorem dX2_take_100 : decode cX2_take 100 = .ok (.iconst 4, 1) := by decide +kernel
theorem dX2_take_101 : decode cX2_take 101 = .ok (.invokestatic 54, 3) := by decide +kernel
theorem dX2_take_104 : decode cX2_take 104 = .ok (.aload_n 1, 1) := by decide +kernel
theorem dX2_take_105 : decode cX2_take 105 = .ok (.getfield 30, 3) := by decide +kernel
theorem dX2_take_108 : decode cX2_take 108 = .ok (.iconst 0, 1) := by decide +kernel
theorem dX2_take_109 : decode cX2_take 109 = .ok (.aload_n 0, 1) := by decide +kernel
theorem dX2_take_110 : decode cX2_take 110 = .ok (.getfield 30, 3) := by decide +kernel
theorem dX2_take_113 : decode cX2_take 113 = .ok (.iconst 0, 1) := by decide +kernel
theorem dX2_take_114 : decode cX2_take 114 = .ok (.iconst 4, 1) := by decide +kernel
theorem dX2_take_115 : decode cX2_take 115 = .ok (.invokestatic 54, 3) := by decide +kernel
theorem dX2_take_118 : decode cX2_take 118 = .ok (.return_, 1) := by decide +kernel
theorem dX3_init_0 : decode cX3_init 0 = .ok (.aload_n 0, 1) := by decide +kernel
theorem dX3_init_1 : decode cX3_init 1 = .ok (.invokespecial 3, 3) := by decide +kernel
theorem dX3_init_4 : decode cX3_init 4 = .ok (.aload_n 0, 1) := by decide +kernel
theorem dX3_init_5 : decode cX3_init 5 = .ok (.aload_n 1, 1) := by decide +kernel
theorem dX3_init_6 : decode cX3_init 6 = .ok (.putfield 9, 3) := by decide +kernel
theorem dX3_init_9 : decode cX3_init 9 = .ok (.aload_n 0, 1) := by decide +kernel
theorem dX3_init_10 : decode cX3_init 10 = .ok (.aload_n 2, 1) := by decide +kernel
theorem dX3_init_11 : decode cX3_init 11 = .ok (.putfield 15, 3) := by decide +kernel
theorem dX3_init_14 : decode cX3_init 14 = .ok (.return_, 1) := by decide +kernel
theorem dX3_broken_0 : decode cX3_broken 0 = .ok (.iconst 0, 1) := by decide +kernel
theorem dX3_broken_1 : decode cX3_broken 1 = .ok (.istore_n 1, 1) := by decide +kernel
theorem dX3_broken_2 : decode cX3_broken 2 = .ok (.iconst 0, 1) := by decide +kernel
theorem dX3_broken_3 : decode cX3_broken 3 = .ok (.istore_n 2, 1) := by decide +kernel
theorem dX3_broken_4 : decode cX3_broken 4 = .ok (.iload_n 2, 1) := by decide +kernel
theorem dX3_broken_5 : decode cX3_broken 5 = .ok (.aload_n 0, 1) := by decide +kernel
theorem dX3_broken_6 : decode cX3_broken 6 = .ok (.getfield 9, 3) := by decide +kernel
theorem dX3_broken_9 : decode cX3_broken 9 = .ok (.getfield 19, 3) := by decide +kernel
theorem dX3_broken_12 : decode cX3_broken 12 = .ok (.if_icmp .ge 27, 3) := by decide +kernel
theorem dX3_broken_15 : decode cX3_broken 15 = .ok (.aload_n 0, 1) := by decide +kernel
theorem dX3_broken_16 : decode cX3_broken 16 = .ok (.getfield 15, 3) := by decide +kernel
theorem dX3_broken_19 : decode cX3_broken 19 = .ok (.iload_n 2, 1) := by decide +kernel
theorem dX3_broken_20 : decode cX3_broken 20 = .ok (.invokevirtual 25, 3) := by decide +kernel
theorem dX3_broken_23 : decode cX3_broken 23 = .ok (.ifCond .ne 10, 3) := by decide +kernel
theorem dX3_broken_26 : decode cX3_broken 26 = .ok (.iload_n 1, 1) := by decide +kernel
theorem dX3_broken_27 : decode cX3_broken 27 = .ok (.iload_n 2, 1) := by decide +kernel
theorem dX3_broken_28 : decode cX3_broken 28 = .ok (.invokestatic 31, 3) := by decide +kernel
theorem dX3_broken_31 : decode cX3_broken 31 = .ok (.ior, 1) := by decide +kernel
theorem dX3_broken_32 : decode cX3_broken 32 = .ok (.istore_n 1, 1) := by decide +kernel
theorem dX3_broken_33 : decode cX3_broken 33 = .ok (.iinc 2 1, 3) := by decide +kernel
theorem dX3_broken_36 : decode cX3_broken 36 = .ok (.goto (-32), 3) := by decide +kernel
theorem dX3_broken_39 : decode cX3_broken 39 = .ok (.iload_n 1, 1) := by decide +kernel
theorem dX3_broken_40 : decode cX3_broken 40 = .ok (.ireturn, 1) := by decide +kernel
theorem dX3_heatOfAll_0 : decode cX3_heatOfAll 0 = .ok (.iconst 0, 1) := by decide +kernel
theorem dX3_heatOfAll_1 : decode cX3_heatOfAll 1 = .ok (.istore_n 1, 1) := by decide +kernel
theorem dX3_heatOfAll_2 : decode cX3_heatOfAll 2 = .ok (.iconst 0, 1) := by decide +kernel
theorem dX3_heatOfAll_3 : decode cX3_heatOfAll 3 = .ok (.istore_n 2, 1) := by decide +kernel
theorem dX3_heatOfAll_4 : decode cX3_heatOfAll 4 = .ok (.iload_n 2, 1) := by decide +kernel
theorem dX3_heatOfAll_5 : decode cX3_heatOfAll 5 = .ok (.aload_n 0, 1) := by decide +kernel
theorem dX3_heatOfAll_6 : decode cX3_heatOfAll 6 = .ok (.getfield 9, 3) := by decide +kernel
theorem dX3_heatOfAll_9 : decode cX3_heatOfAll 9 = .ok (.getfield 19, 3) := by decide +kernel
theorem dX3_heatOfAll_12 : decode cX3_heatOfAll 12 = .ok (.if_icmp .ge 20, 3) := by decide +kernel
theorem dX3_heatOfAll_15 : decode cX3_heatOfAll 15 = .ok (.iload_n 1, 1) := by decide +kernel
theorem dX3_heatOfAll_16 : decode cX3_heatOfAll 16 = .ok (.aload_n 0, 1) := by decide +kernel
theorem dX3_heatOfAll_17 : decode cX3_heatOfAll 17 = .ok (.getfield 15, 3) := by decide +kernel
theorem dX3_heatOfAll_20 : decode cX3_heatOfAll 20 = .ok (.iload_n 2, 1) := by decide +kernel
theorem dX3_heatOfAll_21 : decode cX3_heatOfAll 21 = .ok (.invokevirtual 25, 3) := by decide +kernel
theorem dX3_heatOfAll_24 : decode cX3_heatOfAll 24 = .ok (.iadd, 1) := by decide +kernel
theorem dX3_heatOfAll_25 : decode cX3_heatOfAll 25 = .ok (.istore_n 1, 1) := by decide +kernel
theorem dX3_heatOfAll_26 : decode cX3_heatOfAll 26 = .ok (.iinc 2 1, 3) := by decide +kernel
theorem dX3_heatOfAll_29 : decode cX3_heatOfAll 29 = .ok (.goto (-25), 3) := by decide +kernel
theorem dX3_heatOfAll_32 : decode cX3_heatOfAll 32 = .ok (.iload_n 1, 1) := by decide +kernel
theorem dX3_heatOfAll_33 : decode cX3_heatOfAll 33 = .ok (.ireturn, 1) := by decide +kernel
theorem dX3_thoseWith_0 : decode cX3_thoseWith 0 = .ok (.iconst 0, 1) := by decide +kernel
theorem dX3_thoseWith_1 : decode cX3_thoseWith 1 = .ok (.istore_n 2, 1) := by decide +kernel
theorem dX3_thoseWith_2 : decode cX3_thoseWith 2 = .ok (.iconst 0, 1) := by decide +kernel
theorem dX3_thoseWith_3 : decode cX3_thoseWith 3 = .ok (.istore_n 3, 1) := by decide +kernel
theorem dX3_thoseWith_4 : decode cX3_thoseWith 4 = .ok (.iload_n 3, 1) := by decide +kernel
theorem dX3_thoseWith_5 : decode cX3_thoseWith 5 = .ok (.aload_n 0, 1) := by decide +kernel
theorem dX3_thoseWith_6 : decode cX3_thoseWith 6 = .ok (.getfield 9, 3) := by decide +kernel
theorem dX3_thoseWith_9 : decode cX3_thoseWith 9 = .ok (.getfield 19, 3) := by decide +kernel
theorem dX3_thoseWith_12 : decode cX3_thoseWith 12 = .ok (.if_icmp .ge 28, 3) := by decide +kernel
theorem dX3_thoseWith_15 : decode cX3_thoseWith 15 = .ok (.aload_n 0, 1) := by decide +kernel
theorem dX3_thoseWith_16 : decode cX3_thoseWith 16 = .ok (.getfield 15, 3) := by decide +kernel
theorem dX3_thoseWith_19 : decode cX3_thoseWith 19 = .ok (.iload_n 3, 1) := by decide +kernel
theorem dX3_thoseWith_20 : decode cX3_thoseWith 20 = .ok (.invokevirtual 34, 3) := by decide +kernel
theorem dX3_thoseWith_23 : decode cX3_thoseWith 23 = .ok (.iload_n 1, 1) := by decide +kernel
theorem dX3_thoseWith_24 : decode cX3_thoseWith 24 = .ok (.if_icmp .ne 10, 3) := by decide +kernel
theorem dX3_thoseWith_27 : decode cX3_thoseWith 27 = .ok (.iload_n 2, 1) := by decide +kernel
theorem dX3_thoseWith_28 : decode cX3_thoseWith 28 = .ok (.iload_n 3, 1) := by decide +kernel
theorem dX3_thoseWith_29 : decode cX3_thoseWith 29 = .ok (.invokestatic 31, 3) := by decide +kernel
theorem dX3_thoseWith_32 : decode cX3_thoseWith 32 = .ok (.ior, 1) := by decide +kernel
theorem dX3_thoseWith_33 : decode cX3_thoseWith 33 = .ok (.istore_n 2, 1) := by decide +kernel
theorem dX3_thoseWith_34 : decode cX3_thoseWith 34 = .ok (.iinc 3 1, 3) := by decide +kernel
theorem dX3_thoseWith_37 : decode cX3_thoseWith 37 = .ok (.goto (-33), 3) := by decide +kernel
theorem dX3_thoseWith_40 : decode cX3_thoseWith 40 = .ok (.iload_n 2, 1) := by decide +kernel
theorem dX3_thoseWith_41 : decode cX3_thoseWith 41 = .ok (.ireturn, 1) := by decide +kernel
theorem dX3_thoseThatMayBeSentTo_0 : decode cX3_thoseThatMayBeSentTo 0 = .ok (.iconst 0, 1) := by decide +kernel
theorem dX3_thoseThatMayBeSentTo_1 : decode cX3_thoseThatMayBeSentTo 1 = .ok (.istore_n 2, 1) := by decide +kernel
theorem dX3_thoseThatMayBeSentTo_2 : decode cX3_thoseThatMayBeSentTo 2 = .ok (.iconst 0, 1) := by decide +kernel
theorem dX3_thoseThatMayBeSentTo_3 : decode cX3_thoseThatMayBeSentTo 3 = .ok (.istore_n 3, 1) := by decide +kernel
theorem dX3_thoseThatMayBeSentTo_4 : decode cX3_thoseThatMayBeSentTo 4 = .ok (.iload_n 3, 1) := by decide +kernel
theorem dX3_thoseThatMayBeSentTo_5 : decode cX3_thoseThatMayBeSentTo 5 = .ok (.aload_n 0, 1) := by decide +kernel
theorem dX3_thoseThatMayBeSentTo_6 : decode cX3_thoseThatMayBeSentTo 6 = .ok (.getfield 9, 3) := by decide +kernel
theorem dX3_thoseThatMayBeSentTo_9 : decode cX3_thoseThatMayBeSentTo 9 = .ok (.getfield 19, 3) := by decide +kernel
theorem dX3_thoseThatMayBeSentTo_12 : decode cX3_thoseThatMayBeSentTo 12 = .ok (.if_icmp .ge 25, 3) := by decide +kernel
theorem dX3_thoseThatMayBeSentTo_15 : decode cX3_thoseThatMayBeSentTo 15 = .ok (.aload_n 0, 1) := by decide +kernel
theorem dX3_thoseThatMayBeSentTo_16 : decode cX3_thoseThatMayBeSentTo 16 = .ok (.iload_n 3, 1) := by decide +kernel
theorem dX3_thoseThatMayBeSentTo_17 : decode cX3_thoseThatMayBeSentTo 17 = .ok (.iload_n 1, 1) := by decide +kernel
theorem dX3_thoseThatMayBeSentTo_18 : decode cX3_thoseThatMayBeSentTo 18 = .ok (.invokevirtual 37, 3) := by decide +kernel
theorem dX3_thoseThatMayBeSentTo_21 : decode cX3_thoseThatMayBeSentTo 21 = .ok (.ifCond .eq 10, 3) := by decide +kernel
theorem dX3_thoseThatMayBeSentTo_24 : decode cX3_thoseThatMayBeSentTo 24 = .ok (.iload_n 2, 1) := by decide +kernel
theorem dX3_thoseThatMayBeSentTo_25 : decode cX3_thoseThatMayBeSentTo 25 = .ok (.iload_n 3, 1) := by decide +kernel
theorem dX3_thoseThatMayBeSentTo_26 : decode cX3_thoseThatMayBeSentTo 26 = .ok (.invokestatic 31, 3) := by decide +kernel
theorem dX3_thoseThatMayBeSentTo_29 : decode cX3_thoseThatMayBeSentTo 29 = .ok (.ior, 1) := by decide +kernel
theorem dX3_thoseThatMayBeSentTo_30 : decode cX3_thoseThatMayBeSentTo 30 = .ok (.istore_n 2, 1) := by decide +kernel
theorem dX3_thoseThatMayBeSentTo_31 : decode cX3_thoseThatMayBeSentTo 31 = .ok (.iinc 3 1, 3) := by decide +kernel
theorem dX3_thoseThatMayBeSentTo_34 : decode cX3_thoseThatMayBeSentTo 34 = .ok (.goto (-30), 3) := by decide +kernel
theorem dX3_thoseThatMayBeSentTo_37 : decode cX3_thoseThatMayBeSentTo 37 = .ok (.iload_n 2, 1) := by decide +kernel
theorem dX3_thoseThatMayBeSentTo_38 : decode cX3_thoseThatMayBeSentTo 38 = .ok (.ireturn, 1) := by decide +kernel
theorem dX3_mayBeSent_0 : decode cX3_mayBeSent 0 = .ok (.aload_n 0, 1) := by decide +kernel
theorem dX3_mayBeSent_1 : decode cX3_mayBeSent 1 = .ok (.getfield 15, 3) := by decide +kernel
theorem dX3_mayBeSent_4 : decode cX3_mayBeSent 4 = .ok (.iload_n 1, 1) := by decide +kernel
theorem dX3_mayBeSent_5 : decode cX3_mayBeSent 5 = .ok (.invokevirtual 34, 3) := by decide +kernel
theorem dX3_mayBeSent_8 : decode cX3_mayBeSent 8 = .ok (.iload_n 2, 1) := by decide +kernel
theorem dX3_mayBeSent_9 : decode cX3_mayBeSent 9 = .ok (.if_icmp .eq 21, 3) := by decide +kernel
theorem dX3_mayBeSent_12 : decode cX3_mayBeSent 12 = .ok (.aload_n 0, 1) := by decide +kernel
theorem dX3_mayBeSent_13 : decode cX3_mayBeSent 13 = .ok (.iload_n 1, 1) := by decide +kernel
theorem dX3_mayBeSent_14 : decode cX3_mayBeSent 14 = .ok (.iload_n 2, 1) := by decide +kernel
theorem dX3_mayBeSent_15 : decode cX3_mayBeSent 15 = .ok (.aload_n 0, 1) := by decide +kernel
theorem dX3_mayBeSent_16 : decode cX3_mayBeSent 16 = .ok (.iload_n 2, 1) := by decide +kernel
theorem dX3_mayBeSent_17 : decode cX3_mayBeSent 17 = .ok (.invokevirtual 41, 3) := by decide +kernel
theorem dX3_mayBeSent_20 : decode cX3_mayBeSent 20 = .ok (.invokevirtual 44, 3) := by decide +kernel
theorem dX3_mayBeSent_23 : decode cX3_mayBeSent 23 = .ok (.ifCond .eq 7, 3) := by decide +kernel
theorem dX3_mayBeSent_26 : decode cX3_mayBeSent 26 = .ok (.iconst 1, 1) := by decide +kernel
theorem dX3_mayBeSent_27 : decode cX3_mayBeSent 27 = .ok (.goto 4, 3) := by decide +kernel
theorem dX3_mayBeSent_30 : decode cX3_mayBeSent 30 = .ok (.iconst 0, 1) := by decide +kernel
theorem dX3_mayBeSent_31 : decode cX3_mayBeSent 31 = .ok (.ireturn, 1) := by decide +kernel
theorem dX3_mayJoin_0 : decode cX3_mayJoin 0 = .ok (.aload_n 0, 1) := by decide +kernel
theorem dX3_mayJoin_1 : decode cX3_mayJoin 1 = .ok (.getfield 9, 3) := by decide +kernel
theorem dX3_mayJoin_4 : decode cX3_mayJoin 4 = .ok (.iload_n 1, 1) := by decide +kernel
theorem dX3_mayJoin_5 : decode cX3_mayJoin 5 = .ok (.invokevirtual 48, 3) := by decide +kernel
theorem dX3_mayJoin_8 : decode cX3_mayJoin 8 = .ok (.ifCond .eq 14, 3) := by decide +kernel
theorem dX3_mayJoin_11 : decode cX3_mayJoin 11 = .ok (.aload_n 0, 1) := by decide +kernel
theorem dX3_mayJoin_12 : decode cX3_mayJoin 12 = .ok (.getfield 9, 3) := by decide +kernel
theorem dX3_mayJoin_15 : decode cX3_mayJoin 15 = .ok (.iload_n 2, 1) := by decide +kernel
theorem dX3_mayJoin_16 : decode cX3_mayJoin 16 = .ok (.invokevirtual 52, 3) := by decide +kernel
theorem dX3_mayJoin_19 : decode cX3_mayJoin 19 = .ok (.ifCond .ne 5, 3) := by decide +kernel
theorem dX3_mayJoin_22 : decode cX3_mayJoin 22 = .ok (.iconst 0, 1) := by decide +kernel
theorem dX3_mayJoin_23 : decode cX3_mayJoin 23 = .ok (.ireturn, 1) := by decide +kernel
theorem dX3_mayJoin_24 : decode cX3_mayJoin 24 = .ok (.aload_n 0, 1) := by decide +kernel
theorem dX3_mayJoin_25 : decode cX3_mayJoin 25 = .ok (.getfield 15, 3) := by decide +kernel
theorem dX3_mayJoin_28 : decode cX3_mayJoin 28 = .ok (.iload_n 1, 1) := by decide +kernel
theorem dX3_mayJoin_29 : decode cX3_mayJoin 29 = .ok (.invokevirtual 25, 3) := by decide +kernel
theorem dX3_mayJoin_32 : decode cX3_mayJoin 32 = .ok (.aload_n 0, 1) := by decide +kernel
theorem dX3_mayJoin_33 : decode cX3_mayJoin 33 = .ok (.getfield 9, 3) := by decide +kernel
theorem dX3_mayJoin_36 : decode cX3_mayJoin 36 = .ok (.getfield 55, 3) := by decide +kernel
theorem dX3_mayJoin_39 : decode cX3_mayJoin 39 = .ok (.iload_n 2, 1) := by decide +kernel
theorem dX3_mayJoin_40 : decode cX3_mayJoin 40 = .ok (.iaload, 1) := by decide +kernel
theorem dX3_mayJoin_41 : decode cX3_mayJoin 41 = .ok (.if_icmp .gt 37, 3) := by decide +kernel
theorem dX3_mayJoin_44 : decode cX3_mayJoin 44 = .ok (.iload_n 3, 1) := by decide +kernel
theorem dX3_mayJoin_45 : decode cX3_mayJoin 45 = .ok (.invokestatic 59, 3) := by decide +kernel
theorem dX3_mayJoin_48 : decode cX3_mayJoin 48 = .ok (.aload_n 0, 1) := by decide +kernel
theorem dX3_mayJoin_49 : decode cX3_mayJoin 49 = .ok (.getfield 9, 3) := by decide +kernel
theorem dX3_mayJoin_52 : decode cX3_mayJoin 52 = .ok (.getfield 64, 3) := by decide +kernel
theorem dX3_mayJoin_55 : decode cX3_mayJoin 55 = .ok (.iload_n 2, 1) := by decide +kernel
theorem dX3_mayJoin_56 : decode cX3_mayJoin 56 = .ok (.iaload, 1) := by decide +kernel
theorem dX3_mayJoin_57 : decode cX3_mayJoin 57 = .ok (.if_icmp .ge 21, 3) := by decide +kernel
theorem dX3_mayJoin_60 : decode cX3_mayJoin 60 = .ok (.iload_n 3, 1) := by decide +kernel
theorem dX3_mayJoin_61 : decode cX3_mayJoin 61 = .ok (.aload_n 0, 1) := by decide +kernel
theorem dX3_mayJoin_62 : decode cX3_mayJoin 62 = .ok (.getfield 9, 3) := by decide +kernel
theorem dX3_mayJoin_65 : decode cX3_mayJoin 65 = .ok (.getfield 67, 3) := by decide +kernel
theorem dX3_mayJoin_68 : decode cX3_mayJoin 68 = .ok (.iload_n 1, 1) := by decide +kernel
theorem dX3_mayJoin_69 : decode cX3_mayJoin 69 = .ok (.iaload, 1) := by decide +kernel
theorem dX3_mayJoin_70 : decode cX3_mayJoin 70 = .ok (.iand, 1) := by decide +kernel
theorem dX3_mayJoin_71 : decode cX3_mayJoin 71 = .ok (.ifCond .ne 7, 3) := by decide +kernel
theorem dX3_mayJoin_74 : decode cX3_mayJoin 74 = .ok (.iconst 1, 1) := by decide +kernel
theorem dX3_mayJoin_75 : decode cX3_mayJoin 75 = .ok (.goto 4, 3) := by decide +kernel
theorem dX3_mayJoin_78 : decode cX3_mayJoin 78 = .ok (.iconst 0, 1) := by decide +kernel
theorem dX3_mayJoin_79 : decode cX3_mayJoin 79 = .ok (.ireturn, 1) := by decide +kernel
theorem dX3_heatIn_0 : decode cX3_heatIn 0 = .ok (.aload_n 0, 1) := by decide +kernel
theorem dX3_heatIn_1 : decode cX3_heatIn 1 = .ok (.getfield 9, 3) := by decide +kernel
theorem dX3_heatIn_4 : decode cX3_heatIn 4 = .ok (.iload_n 1, 1) := by decide +kernel
theorem dX3_heatIn_5 : decode cX3_heatIn 5 = .ok (.invokevirtual 48, 3) := by decide +kernel
theorem dX3_heatIn_8 : decode cX3_heatIn 8 = .ok (.ifCond .ne 5, 3) := by decide +kernel
theorem dX3_heatIn_11 : decode cX3_heatIn 11 = .ok (.iconst 0, 1) := by decide +kernel
theorem dX3_heatIn_12 : decode cX3_heatIn 12 = .ok (.ireturn, 1) := by decide +kernel
theorem dX3_heatIn_13 : decode cX3_heatIn 13 = .ok (.aload_n 0, 1) := by decide +kernel
theorem dX3_heatIn_14 : decode cX3_heatIn 14 = .ok (.getfield 15, 3) := by decide +kernel
theorem dX3_heatIn_17 : decode cX3_heatIn 17 = .ok (.iload_n 1, 1) := by decide +kernel
theorem dX3_heatIn_18 : decode cX3_heatIn 18 = .ok (.invokevirtual 34, 3) := by decide +kernel
theorem dX3_heatIn_21 : decode cX3_heatIn 21 = .ok (.istore_n 3, 1) := by decide +kernel
theorem dX3_heatIn_22 : decode cX3_heatIn 22 = .ok (.aload_n 0, 1) := by decide +kernel
theorem dX3_heatIn_23 : decode cX3_heatIn 23 = .ok (.getfield 9, 3) := by decide +kernel
theorem dX3_heatIn_26 : decode cX3_heatIn 26 = .ok (.iload_n 3, 1) := by decide +kernel
theorem dX3_heatIn_27 : decode cX3_heatIn 27 = .ok (.invokevirtual 52, 3) := by decide +kernel
theorem dX3_heatIn_30 : decode cX3_heatIn 30 = .ok (.ifCond .eq 15, 3) := by decide +kernel
theorem dX3_heatIn_33 : decode cX3_heatIn 33 = .ok (.aload_n 0, 1) := by decide +kernel
theorem dX3_heatIn_34 : decode cX3_heatIn 34 = .ok (.getfield 9, 3) := by decide +kernel
theorem dX3_heatIn_37 : decode cX3_heatIn 37 = .ok (.getfield 70, 3) := by decide +kernel
theorem dX3_heatIn_40 : decode cX3_heatIn 40 = .ok (.iload_n 3, 1) := by decide +kernel
theorem dX3_heatIn_41 : decode cX3_heatIn 41 = .ok (.iaload, 1) := by decide +kernel
theorem dX3_heatIn_42 : decode cX3_heatIn 42 = .ok (.goto 4, 3) := by decide +kernel
theorem dX3_heatIn_45 : decode cX3_heatIn 45 = .ok (.iconst 0, 1) := by decide +kernel
theorem dX3_heatIn_46 : decode cX3_heatIn 46 = .ok (.istore 4, 2) := by decide +kernel
theorem dX3_heatIn_48 : decode cX3_heatIn 48 = .ok (.aload_n 0, 1) := by decide +kernel
theorem dX3_heatIn_49 : decode cX3_heatIn 49 = .ok (.getfield 15, 3) := by decide +kernel
theorem dX3_heatIn_52 : decode cX3_heatIn 52 = .ok (.iload_n 1, 1) := by decide +kernel
theorem dX3_heatIn_53 : decode cX3_heatIn 53 = .ok (.invokevirtual 25, 3) := by decide +kernel
theorem dX3_heatIn_56 : decode cX3_heatIn 56 = .ok (.istore 5, 2) := by decide +kernel
theorem dX3_heatIn_58 : decode cX3_heatIn 58 = .ok (.iconst 0, 1) := by decide +kernel
theorem dX3_heatIn_59 : decode cX3_heatIn 59 = .ok (.istore 6, 2) := by decide +kernel
theorem dX3_heatIn_61 : decode cX3_heatIn 61 = .ok (.iload 6, 2) := by decide +kernel
theorem dX3_heatIn_63 : decode cX3_heatIn 63 = .ok (.iload_n 2, 1) := by decide +kernel
theorem dX3_heatIn_64 : decode cX3_heatIn 64 = .ok (.if_icmp .ge 34, 3) := by decide +kernel
theorem dX3_heatIn_67 : decode cX3_heatIn 67 = .ok (.iload 6, 2) := by decide +kernel
theorem dX3_heatIn_69 : decode cX3_heatIn 69 = .ok (.bipush 99, 2) := by decide +kernel
theorem dX3_heatIn_71 : decode cX3_heatIn 71 = .ok (.if_icmp .ge 27, 3) := by decide +kernel
theorem dX3_heatIn_74 : decode cX3_heatIn 74 = .ok (.iload 5, 2) := by decide +kernel
theorem dX3_heatIn_76 : decode cX3_heatIn 76 = .ok (.aload_n 0, 1) := by decide +kernel
theorem dX3_heatIn_77 : decode cX3_heatIn 77 = .ok (.getfield 9, 3) := by decide +kernel
theorem dX3_heatIn_80 : decode cX3_heatIn 80 = .ok (.getfield 73, 3) := by decide +kernel
theorem dX3_heatIn_83 : decode cX3_heatIn 83 = .ok (.iload_n 1, 1) := by decide +kernel
theorem dX3_heatIn_84 : decode cX3_heatIn 84 = .ok (.iaload, 1) := by decide +kernel
theorem dX3_heatIn_85 : decode cX3_heatIn 85 = .ok (.iload 4, 2) := by decide +kernel
theorem dX3_heatIn_87 : decode cX3_heatIn 87 = .ok (.invokestatic 76, 3) := by decide +kernel
theorem dX3_heatIn_90 : decode cX3_heatIn 90 = .ok (.istore 5, 2) := by decide +kernel
theorem dX3_heatIn_92 : decode cX3_heatIn 92 = .ok (.iinc 6 1, 3) := by decide +kernel
theorem dX3_heatIn_95 : decode cX3_heatIn 95 = .ok (.goto (-34), 3) := by decide +kernel
theorem dX3_heatIn_98 : decode cX3_heatIn 98 = .ok (.iload 5, 2) := by decide +kernel
theorem dX3_heatIn_100 : decode cX3_heatIn 100 = .ok (.ireturn, 1) := by decide +kernel
theorem dX3_yearsTillBroken_0 : decode cX3_yearsTillBroken 0 = .ok (.aload_n 0, 1) := by decide +kernel
theorem dX3_yearsTillBroken_1 : decode cX3_yearsTillBroken 1 = .ok (.getfield 9, 3) := by decide +kernel
theorem dX3_yearsTillBroken_4 : decode cX3_yearsTillBroken 4 = .ok (.iload_n 1, 1) := by decide +kernel
theorem dX3_yearsTillBroken_5 : decode cX3_yearsTillBroken 5 = .ok (.invokevirtual 48, 3) := by decide +kernel
theorem dX3_yearsTillBroken_8 : decode cX3_yearsTillBroken 8 = .ok (.ifCond .eq 14, 3) := by decide +kernel
theorem dX3_yearsTillBroken_11 : decode cX3_yearsTillBroken 11 = .ok (.aload_n 0, 1) := by decide +kernel
theorem dX3_yearsTillBroken_12 : decode cX3_yearsTillBroken 12 = .ok (.getfield 9, 3) := by decide +kernel
theorem dX3_yearsTillBroken_15 : decode cX3_yearsTillBroken 15 = .ok (.iload_n 2, 1) := by decide +kernel
theorem dX3_yearsTillBroken_16 : decode cX3_yearsTillBroken 16 = .ok (.invokevirtual 52, 3) := by decide +kernel
theorem dX3_yearsTillBroken_19 : decode cX3_yearsTillBroken 19 = .ok (.ifCond .ne 6, 3) := by decide +kernel
theorem dX3_yearsTillBroken_22 : decode cX3_yearsTillBroken 22 = .ok (.bipush (-9), 2) := by decide +kernel
theorem dX3_yearsTillBroken_24 : decode cX3_yearsTillBroken 24 = .ok (.ireturn, 1) := by decide +kernel
theorem dX3_yearsTillBroken_25 : decode cX3_yearsTillBroken 25 = .ok (.aload_n 0, 1) := by decide +kernel
theorem dX3_yearsTillBroken_26 : decode cX3_yearsTillBroken 26 = .ok (.getfield 15, 3) := by decide +kernel
theorem dX3_yearsTillBroken_29 : decode cX3_yearsTillBroken 29 = .ok (.iload_n 1, 1) := by decide +kernel
theorem dX3_yearsTillBroken_30 : decode cX3_yearsTillBroken 30 = .ok (.invokevirtual 25, 3) := by decide +kernel
theorem dX3_yearsTillBroken_33 : decode cX3_yearsTillBroken 33 = .ok (.istore_n 3, 1) := by decide +kernel
theorem dX3_yearsTillBroken_34 : decode cX3_yearsTillBroken 34 = .ok (.iconst 0, 1) := by decide +kernel
theorem dX3_yearsTillBroken_35 : decode cX3_yearsTillBroken 35 = .ok (.istore 4, 2) := by decide +kernel
theorem dX3_yearsTillBroken_37 : decode cX3_yearsTillBroken 37 = .ok (.iload 4, 2) := by decide +kernel
theorem dX3_yearsTillBroken_39 : decode cX3_yearsTillBroken 39 = .ok (.bipush 99, 2) := by decide +kernel
theorem dX3_yearsTillBroken_41 : decode cX3_yearsTillBroken 41 = .ok (.if_icmp .gt 39, 3) := by decide +kernel
theorem dX3_yearsTillBroken_44 : decode cX3_yearsTillBroken 44 = .ok (.iload_n 3, 1) := by decide +kernel
theorem dX3_yearsTillBroken_45 : decode cX3_yearsTillBroken 45 = .ok (.ifCond .ne 6, 3) := by decide +kernel
theorem dX3_yearsTillBroken_48 : decode cX3_yearsTillBroken 48 = .ok (.iload 4, 2) := by decide +kernel
theorem dX3_yearsTillBroken_50 : decode cX3_yearsTillBroken 50 = .ok (.ireturn, 1) := by decide +kernel
theorem dX3_yearsTillBroken_51 : decode cX3_yearsTillBroken 51 = .ok (.iload_n 3, 1) := by decide +kernel
theorem dX3_yearsTillBroken_52 : decode cX3_yearsTillBroken 52 = .ok (.aload_n 0, 1) := by decide +kernel
theorem dX3_yearsTillBroken_53 : decode cX3_yearsTillBroken 53 = .ok (.getfield 9, 3) := by decide +kernel
theorem dX3_yearsTillBroken_56 : decode cX3_yearsTillBroken 56 = .ok (.getfield 73, 3) := by decide +kernel
theorem dX3_yearsTillBroken_59 : decode cX3_yearsTillBroken 59 = .ok (.iload_n 1, 1) := by decide +kernel
theorem dX3_yearsTillBroken_60 : decode cX3_yearsTillBroken 60 = .ok (.iaload, 1) := by decide +kernel
theorem dX3_yearsTillBroken_61 : decode cX3_yearsTillBroken 61 = .ok (.aload_n 0, 1) := by decide +kernel
theorem dX3_yearsTillBroken_62 : decode cX3_yearsTillBroken 62 = .ok (.getfield 9, 3) := by decide +kernel
theorem dX3_yearsTillBroken_65 : decode cX3_yearsTillBroken 65 = .ok (.getfield 70, 3) := by decide +kernel
theorem dX3_yearsTillBroken_68 : decode cX3_yearsTillBroken 68 = .ok (.iload_n 2, 1) := by decide +kernel
theorem dX3_yearsTillBroken_69 : decode cX3_yearsTillBroken 69 = .ok (.iaload, 1) := by decide +kernel
theorem dX3_yearsTillBroken_70 : decode cX3_yearsTillBroken 70 = .ok (.invokestatic 76, 3) := by decide +kernel
theorem dX3_yearsTillBroken_73 : decode cX3_yearsTillBroken 73 = .ok (.istore_n 3, 1) := by decide +kernel
theorem dX3_yearsTillBroken_74 : decode cX3_yearsTillBroken 74 = .ok (.iinc 4 1, 3) := by decide +kernel
theorem dX3_yearsTillBroken_77 : decode cX3_yearsTillBroken 77 = .ok (.goto (-40), 3) := by decide +kernel
theorem dX3_yearsTillBroken_80 : decode cX3_yearsTillBroken 80 = .ok (.bipush (-9), 2) := by decide +kernel
theorem dX3_yearsTillBroken_82 : decode cX3_yearsTillBroken 82 = .ok (.ireturn, 1) := by decide +kernel
theorem dX3_worthOfFetching_0 : decode cX3_worthOfFetching 0 = .ok (.aload_n 0, 1) := by decide +kernel
theorem dX3_worthOfFetching_1 : decode cX3_worthOfFetching 1 = .ok (.getfield 9, 3) := by decide +kernel
theorem dX3_worthOfFetching_4 : decode cX3_worthOfFetching 4 = .ok (.iload_n 1, 1) := by decide +kernel
theorem dX3_worthOfFetching_5 : decode cX3_worthOfFetching 5 = .ok (.invokevirtual 48, 3) := by decide +kernel
theorem dX3_worthOfFetching_8 : decode cX3_worthOfFetching 8 = .ok (.ifCond .ne 5, 3) := by decide +kernel
theorem dX3_worthOfFetching_11 : decode cX3_worthOfFetching 11 = .ok (.iconst 0, 1) := by decide +kernel
theorem dX3_worthOfFetching_12 : decode cX3_worthOfFetching 12 = .ok (.ireturn, 1) := by decide +kernel
theorem dX3_worthOfFetching_13 : decode cX3_worthOfFetching 13 = .ok (.iconst 0, 1) := by decide +kernel
theorem dX3_worthOfFetching_14 : decode cX3_worthOfFetching 14 = .ok (.bipush 50, 2) := by decide +kernel
theorem dX3_worthOfFetching_16 : decode cX3_worthOfFetching 16 = .ok (.aload_n 0, 1) := by decide +kernel
theorem dX3_worthOfFetching_17 : decode cX3_worthOfFetching 17 = .ok (.iload_n 1, 1) := by decide +kernel
theorem dX3_worthOfFetching_18 : decode cX3_worthOfFetching 18 = .ok (.iload_n 2, 1) := by decide +kernel
theorem dX3_worthOfFetching_19 : decode cX3_worthOfFetching 19 = .ok (.invokevirtual 80, 3) := by decide +kernel
theorem dX3_worthOfFetching_22 : decode cX3_worthOfFetching 22 = .ok (.isub, 1) := by decide +kernel
theorem dX3_worthOfFetching_23 : decode cX3_worthOfFetching 23 = .ok (.invokestatic 84, 3) := by decide +kernel
theorem dX3_worthOfFetching_26 : decode cX3_worthOfFetching 26 = .ok (.iconst 2, 1) := by decide +kernel
theorem dX3_worthOfFetching_27 : decode cX3_worthOfFetching 27 = .ok (.iload_n 2, 1) := by decide +kernel
theorem dX3_worthOfFetching_28 : decode cX3_worthOfFetching 28 = .ok (.imul, 1) := by decide +kernel
theorem dX3_worthOfFetching_29 : decode cX3_worthOfFetching 29 = .ok (.isub, 1) := by decide +kernel
theorem dX3_worthOfFetching_30 : decode cX3_worthOfFetching 30 = .ok (.istore_n 3, 1) := by decide +kernel
theorem dX3_worthOfFetching_31 : decode cX3_worthOfFetching 31 = .ok (.aload_n 0, 1) := by decide +kernel
theorem dX3_worthOfFetching_32 : decode cX3_worthOfFetching 32 = .ok (.getfield 15, 3) := by decide +kernel
theorem dX3_worthOfFetching_35 : decode cX3_worthOfFetching 35 = .ok (.invokevirtual 89, 3) := by decide +kernel
theorem dX3_worthOfFetching_38 : decode cX3_worthOfFetching 38 = .ok (.iload_n 2, 1) := by decide +kernel
theorem dX3_worthOfFetching_39 : decode cX3_worthOfFetching 39 = .ok (.iadd, 1) := by decide +kernel
theorem dX3_worthOfFetching_40 : decode cX3_worthOfFetching 40 = .ok (.aload_n 0, 1) := by decide +kernel
theorem dX3_worthOfFetching_41 : decode cX3_worthOfFetching 41 = .ok (.getfield 9, 3) := by decide +kernel
theorem dX3_worthOfFetching_44 : decode cX3_worthOfFetching 44 = .ok (.getfield 93, 3) := by decide +kernel
theorem dX3_worthOfFetching_47 : decode cX3_worthOfFetching 47 = .ok (.iload_n 1, 1) := by decide +kernel
theorem dX3_worthOfFetching_48 : decode cX3_worthOfFetching 48 = .ok (.iaload, 1) := by decide +kernel
theorem dX3_worthOfFetching_49 : decode cX3_worthOfFetching 49 = .ok (.if_icmp .le 10, 3) := by decide +kernel
theorem dX3_worthOfFetching_52 : decode cX3_worthOfFetching 52 = .ok (.iload_n 3, 1) := by decide +kernel
theorem dX3_worthOfFetching_53 : decode cX3_worthOfFetching 53 = .ok (.bipush 30, 2) := by decide +kernel
theorem dX3_worthOfFetching_55 : decode cX3_worthOfFetching 55 = .ok (.isub, 1) := by decide +kernel
theorem dX3_worthOfFetching_56 : decode cX3_worthOfFetching 56 = .ok (.goto 4, 3) := by decide +kernel
theorem dX3_worthOfFetching_59 : decode cX3_worthOfFetching 59 = .ok (.iload_n 3, 1) := by decide +kernel
theorem dX3_worthOfFetching_60 : decode cX3_worthOfFetching 60 = .ok (.ireturn, 1) := by decide +kernel
theorem dX3_heatNextYear_0 : decode cX3_heatNextYear 0 = .ok (.iload_n 0, 1) := by decide +kernel
theorem dX3_heatNextYear_1 : decode cX3_heatNextYear 1 = .ok (.ifCond .ne 5, 3) := by decide +kernel
theorem dX3_heatNextYear_4 : decode cX3_heatNextYear 4 = .ok (.iconst 0, 1) := by decide +kernel
theorem dX3_heatNextYear_5 : decode cX3_heatNextYear 5 = .ok (.ireturn, 1) := by decide +kernel
theorem dX3_heatNextYear_6 : decode cX3_heatNextYear 6 = .ok (.iconst 0, 1) := by decide +kernel
theorem dX3_heatNextYear_7 : decode cX3_heatNextYear 7 = .ok (.bipush 99, 2) := by decide +kernel
theorem dX3_heatNextYear_9 : decode cX3_heatNextYear 9 = .ok (.iload_n 0, 1) := by decide +kernel
theorem dX3_heatNextYear_10 : decode cX3_heatNextYear 10 = .ok (.iload_n 1, 1) := by decide +kernel
theorem dX3_heatNextYear_11 : decode cX3_heatNextYear 11 = .ok (.iadd, 1) := by decide +kernel
theorem dX3_heatNextYear_12 : decode cX3_heatNextYear 12 = .ok (.invokestatic 96, 3) := by decide +kernel
theorem dX3_heatNextYear_15 : decode cX3_heatNextYear 15 = .ok (.iload_n 2, 1) := by decide +kernel
theorem dX3_heatNextYear_16 : decode cX3_heatNextYear 16 = .ok (.isub, 1) := by decide +kernel
theorem dX3_heatNextYear_17 : decode cX3_heatNextYear 17 = .ok (.invokestatic 84, 3) := by decide +kernel
theorem dX3_heatNextYear_20 : decode cX3_heatNextYear 20 = .ok (.ireturn, 1) := by decide +kernel
theorem dX4_init_0 : decode cX4_init 0 = .ok (.aload_n 0, 1) := by decide +kernel
theorem dX4_init_1 : decode cX4_init 1 = .ok (.invokespecial 1, 3) := by decide +kernel
theorem dX4_init_4 : decode cX4_init 4 = .ok (.aload_n 0, 1) := by decide +kernel
theorem dX4_init_5 : decode cX4_init 5 = .ok (.aload_n 1, 1) := by decide +kernel
theorem dX4_init_6 : decode cX4_init 6 = .ok (.putfield 7, 3) := by decide +kernel
theorem dX4_init_9 : decode cX4_init 9 = .ok (.return_, 1) := by decide +kernel
theorem dX4_asTemper_0 : decode cX4_asTemper 0 = .ok (.aload_n 0, 1) := by decide +kernel
theorem dX4_asTemper_1 : decode cX4_asTemper 1 = .ok (.dup, 1) := by decide +kernel
theorem dX4_asTemper_2 : decode cX4_asTemper 2 = .ok (.getfield 13, 3) := by decide +kernel
theorem dX4_asTemper_5 : decode cX4_asTemper 5 = .ok (.lconst 1, 1) := by decide +kernel
theorem dX4_asTemper_6 : decode cX4_asTemper 6 = .ok (.ladd, 1) := by decide +kernel
theorem dX4_asTemper_7 : decode cX4_asTemper 7 = .ok (.putfield 13, 3) := by decide +kernel
theorem dX4_asTemper_10 : decode cX4_asTemper 10 = .ok (.aload_n 0, 1) := by decide +kernel
theorem dX4_asTemper_11 : decode cX4_asTemper 11 = .ok (.getfield 7, 3) := by decide +kernel
theorem dX4_asTemper_14 : decode cX4_asTemper 14 = .ok (.getfield 17, 3) := by decide +kernel
theorem dX4_asTemper_17 : decode cX4_asTemper 17 = .ok (.iload_n 1, 1) := by decide +kernel
theorem dX4_asTemper_18 : decode cX4_asTemper 18 = .ok (.invokevirtual 23, 3) := by decide +kernel
theorem dX4_asTemper_21 : decode cX4_asTemper 21 = .ok (.ireturn, 1) := by decide +kernel
theorem dX4_asRage_0 : decode cX4_asRage 0 = .ok (.aload_n 0, 1) := by decide +kernel
theorem dX4_asRage_1 : decode cX4_asRage 1 = .ok (.dup, 1) := by decide +kernel
theorem dX4_asRage_2 : decode cX4_asRage 2 = .ok (.getfield 13, 3) := by decide +kernel
theorem dX4_asRage_5 : decode cX4_asRage 5 = .ok (.ldc2_w 29, 3) := by decide +kernel
theorem dX4_asRage_8 : decode cX4_asRage 8 = .ok (.ladd, 1) := by decide +kernel
theorem dX4_asRage_9 : decode cX4_asRage 9 = .ok (.putfield 13, 3) := by decide +kernel
theorem dX4_asRage_12 : decode cX4_asRage 12 = .ok (.aload_n 0, 1) := by decide +kernel
theorem dX4_asRage_13 : decode cX4_asRage 13 = .ok (.iload_n 1, 1) := by decide +kernel
theorem dX4_asRage_14 : decode cX4_asRage 14 = .ok (.invokevirtual 31, 3) := by decide +kernel
theorem dX4_asRage_17 : decode cX4_asRage 17 = .ok (.aload_n 0, 1) := by decide +kernel
theorem dX4_asRage_18 : decode cX4_asRage 18 = .ok (.getfield 7, 3) := by decide +kernel
theorem dX4_asRage_21 : decode cX4_asRage 21 = .ok (.getfield 34, 3) := by decide +kernel
theorem dX4_asRage_24 : decode cX4_asRage 24 = .ok (.iload_n 1, 1) := by decide +kernel
theorem dX4_asRage_25 : decode cX4_asRage 25 = .ok (.invokevirtual 38, 3) := by decide +kernel
theorem dX4_asRage_28 : decode cX4_asRage 28 = .ok (.ifCond .eq 18, 3) := by decide +kernel
theorem dX4_asRage_31 : decode cX4_asRage 31 = .ok (.aload_n 0, 1) := by decide +kernel
theorem dX4_asRage_32 : decode cX4_asRage 32 = .ok (.getfield 7, 3) := by decide +kernel
theorem dX4_asRage_35 : decode cX4_asRage 35 = .ok (.getfield 34, 3) := by decide +kernel
theorem dX4_asRage_38 : decode cX4_asRage 38 = .ok (.getfield 44, 3) := by decide +kernel
theorem dX4_asRage_41 : decode cX4_asRage 41 = .ok (.iload_n 1, 1) := by decide +kernel
theorem dX4_asRage_42 : decode cX4_asRage 42 = .ok (.iaload, 1) := by decide +kernel
theorem dX4_asRage_43 : decode cX4_asRage 43 = .ok (.goto 4, 3) := by decide +kernel
theorem dX4_asRage_46 : decode cX4_asRage 46 = .ok (.iconst 0, 1) := by decide +kernel
theorem dX4_asRage_47 : decode cX4_asRage 47 = .ok (.iadd, 1) := by decide +kernel
theorem dX4_asRage_48 : decode cX4_asRage 48 = .ok (.ireturn, 1) := by decide +kernel
theorem dX4_asSulk_0 : decode cX4_asSulk 0 = .ok (.aload_n 0, 1) := by decide +kernel
theorem dX4_asSulk_1 : decode cX4_asSulk 1 = .ok (.dup, 1) := by decide +kernel
theorem dX4_asSulk_2 : decode cX4_asSulk 2 = .ok (.getfield 13, 3) := by decide +kernel
theorem dX4_asSulk_5 : decode cX4_asSulk 5 = .ok (.ldc2_w 48, 3) := by decide +kernel
theorem dX4_asSulk_8 : decode cX4_asSulk 8 = .ok (.ladd, 1) := by decide +kernel
theorem dX4_asSulk_9 : decode cX4_asSulk 9 = .ok (.putfield 13, 3) := by decide +kernel
theorem dX4_asSulk_12 : decode cX4_asSulk 12 = .ok (.aload_n 0, 1) := by decide +kernel
theorem dX4_asSulk_13 : decode cX4_asSulk 13 = .ok (.iload_n 1, 1) := by decide +kernel
theorem dX4_asSulk_14 : decode cX4_asSulk 14 = .ok (.invokevirtual 31, 3) := by decide +kernel
theorem dX4_asSulk_17 : decode cX4_asSulk 17 = .ok (.aload_n 0, 1) := by decide +kernel
theorem dX4_asSulk_18 : decode cX4_asSulk 18 = .ok (.getfield 7, 3) := by decide +kernel
theorem dX4_asSulk_21 : decode cX4_asSulk 21 = .ok (.invokevirtual 50, 3) := by decide +kernel
theorem dX4_asSulk_24 : decode cX4_asSulk 24 = .ok (.invokestatic 54, 3) := by decide +kernel
theorem dX4_asSulk_27 : decode cX4_asSulk 27 = .ok (.isub, 1) := by decide +kernel
theorem dX4_asSulk_28 : decode cX4_asSulk 28 = .ok (.ireturn, 1) := by decide +kernel
theorem dX4_asStorm_0 : decode cX4_asStorm 0 = .ok (.aload_n 0, 1) := by decide +kernel
theorem dX4_asStorm_1 : decode cX4_asStorm 1 = .ok (.dup, 1) := by decide +kernel
theorem dX4_asStorm_2 : decode cX4_asStorm 2 = .ok (.getfield 13, 3) := by decide +kernel
theorem dX4_asStorm_5 : decode cX4_asStorm 5 = .ok (.ldc2_w 59, 3) := by decide +kernel
theorem dX4_asStorm_8 : decode cX4_asStorm 8 = .ok (.ladd, 1) := by decide +kernel
theorem dX4_asStorm_9 : decode cX4_asStorm 9 = .ok (.putfield 13, 3) := by decide +kernel
theorem dX4_asStorm_12 : decode cX4_asStorm 12 = .ok (.aload_n 0, 1) := by decide +kernel
theorem dX4_asStorm_13 : decode cX4_asStorm 13 = .ok (.iload_n 1, 1) := by decide +kernel
theorem dX4_asStorm_14 : decode cX4_asStorm 14 = .ok (.invokevirtual 61, 3) := by decide +kernel
theorem dX4_asStorm_17 : decode cX4_asStorm 17 = .ok (.iconst 2, 1) := by decide +kernel
theorem dX4_asStorm_18 : decode cX4_asStorm 18 = .ok (.imul, 1) := by decide +kernel
theorem dX4_asStorm_19 : decode cX4_asStorm 19 = .ok (.ireturn, 1) := by decide +kernel
theorem dX4_asGrudge_0 : decode cX4_asGrudge 0 = .ok (.aload_n 0, 1) := by decide +kernel
theorem dX4_asGrudge_1 : decode cX4_asGrudge 1 = .ok (.dup, 1) := by decide +kernel
theorem dX4_asGrudge_2 : decode cX4_asGrudge 2 = .ok (.getfield 13, 3) := by decide +kernel
theorem dX4_asGrudge_5 : decode cX4_asGrudge 5 = .ok (.ldc2_w 64, 3) := by decide +kernel
theorem dX4_asGrudge_8 : decode cX4_asGrudge 8 = .ok (.ladd, 1) := by decide +kernel
theorem dX4_asGrudge_9 : decode cX4_asGrudge 9 = .ok (.putfield 13, 3) := by decide +kernel
theorem dX4_asGrudge_12 : decode cX4_asGrudge 12 = .ok (.aload_n 0, 1) := by decide +kernel
theorem dX4_asGrudge_13 : decode cX4_asGrudge 13 = .ok (.iload_n 1, 1) := by decide +kernel
theorem dX4_asGrudge_14 : decode cX4_asGrudge 14 = .ok (.invokevirtual 66, 3) := by decide +kernel
theorem dX4_asGrudge_17 : decode cX4_asGrudge 17 = .ok (.iload_n 1, 1) := by decide +kernel
theorem dX4_asGrudge_18 : decode cX4_asGrudge 18 = .ok (.iadd, 1) := by decide +kernel
theorem dX4_asGrudge_19 : decode cX4_asGrudge 19 = .ok (.ireturn, 1) := by decide +kernel
theorem dX4_asPet_0 : decode cX4_asPet 0 = .ok (.aload_n 0, 1) := by decide +kernel
theorem dX4_asPet_1 : decode cX4_asPet 1 = .ok (.dup, 1) := by decide +kernel
theorem dX4_asPet_2 : decode cX4_asPet 2 = .ok (.getfield 13, 3) := by decide +kernel
theorem dX4_asPet_5 : decode cX4_asPet 5 = .ok (.ldc2_w 69, 3) := by decide +kernel
theorem dX4_asPet_8 : decode cX4_asPet 8 = .ok (.ladd, 1) := by decide +kernel
theorem dX4_asPet_9 : decode cX4_asPet 9 = .ok (.putfield 13, 3) := by decide +kernel
theorem dX4_asPet_12 : decode cX4_asPet 12 = .ok (.aload_n 0, 1) := by decide +kernel
theorem dX4_asPet_13 : decode cX4_asPet 13 = .ok (.iload_n 1, 1) := by decide +kernel
theorem dX4_asPet_14 : decode cX4_asPet 14 = .ok (.invokevirtual 31, 3) := by decide +kernel
theorem dX4_asPet_17 : decode cX4_asPet 17 = .ok (.aload_n 0, 1) := by decide +kernel
theorem dX4_asPet_18 : decode cX4_asPet 18 = .ok (.getfield 7, 3) := by decide +kernel
theorem dX4_asPet_21 : decode cX4_asPet 21 = .ok (.getfield 17, 3) := by decide +kernel
theorem dX4_asPet_24 : decode cX4_asPet 24 = .ok (.invokevirtual 71, 3) := by decide +kernel
theorem dX4_asPet_27 : decode cX4_asPet 27 = .ok (.iadd, 1) := by decide +kernel
theorem dX4_asPet_28 : decode cX4_asPet 28 = .ok (.ireturn, 1) := by decide +kernel
theorem dX5_init_0 : decode cX5_init 0 = .ok (.aload_n 0, 1) := by decide +kernel
theorem dX5_init_1 : decode cX5_init 1 = .ok (.invokespecial 3, 3) := by decide +kernel
theorem dX5_init_4 : decode cX5_init 4 = .ok (.aload_n 0, 1) := by decide +kernel
theorem dX5_init_5 : decode cX5_init 5 = .ok (.iconst 4, 1) := by decide +kernel
theorem dX5_init_6 : decode cX5_init 6 = .ok (.newarray .int, 2) := by decide +kernel
theorem dX5_init_8 : decode cX5_init 8 = .ok (.putfield 9, 3) := by decide +kernel
theorem dX5_init_11 : decode cX5_init 11 = .ok (.aload_n 0, 1) := by decide +kernel
theorem dX5_init_12 : decode cX5_init 12 = .ok (.iconst 4, 1) := by decide +kernel
theorem dX5_init_13 : decode cX5_init 13 = .ok (.newarray .int, 2) := by decide +kernel
theorem dX5_init_15 : decode cX5_init 15 = .ok (.putfield 15, 3) := by decide +kernel
theorem dX5_init_18 : decode cX5_init 18 = .ok (.aload_n 0, 1) := by decide +kernel
theorem dX5_init_19 : decode cX5_init 19 = .ok (.aload_n 1, 1) := by decide +kernel
theorem dX5_init_20 : decode cX5_init 20 = .ok (.putfield 18, 3) := by decide +kernel
theorem dX5_init_23 : decode cX5_init 23 = .ok (.return_, 1) := by decide +kernel
theorem dX5_append_0 : decode cX5_append 0 = .ok (.aload_n 0, 1) := by decide +kernel
theorem dX5_append_1 : decode cX5_append 1 = .ok (.getfield 22, 3) := by decide +kernel
theorem dX5_append_4 : decode cX5_append 4 = .ok (.iconst 4, 1) := by decide +kernel
theorem dX5_append_5 : decode cX5_append 5 = .ok (.if_icmp .lt 5, 3) := by decide +kernel
theorem dX5_append_8 : decode cX5_append 8 = .ok (.iconst 0, 1) := by decide +kernel
theorem dX5_append_9 : decode cX5_append 9 = .ok (.ireturn, 1) := by decide +kernel
theorem dX5_append_10 : decode cX5_append 10 = .ok (.aload_n 0, 1) := by decide +kernel
theorem dX5_append_11 : decode cX5_append 11 = .ok (.getfield 9, 3) := by decide +kernel
theorem dX5_append_14 : decode cX5_append 14 = .ok (.aload_n 0, 1) := by decide +kernel
theorem dX5_append_15 : decode cX5_append 15 = .ok (.getfield 22, 3) := by decide +kernel
theorem dX5_append_18 : decode cX5_append 18 = .ok (.iload_n 1, 1) := by decide +kernel
theorem dX5_append_19 : decode cX5_append 19 = .ok (.iastore, 1) := by decide +kernel
theorem dX5_append_20 : decode cX5_append 20 = .ok (.aload_n 0, 1) := by decide +kernel
theorem dX5_append_21 : decode cX5_append 21 = .ok (.getfield 15, 3) := by decide +kernel
theorem dX5_append_24 : decode cX5_append 24 = .ok (.aload_n 0, 1) := by decide +kernel
theorem dX5_append_25 : decode cX5_append 25 = .ok (.getfield 22, 3) := by decide +kernel
theorem dX5_append_28 : decode cX5_append 28 = .ok (.iload_n 2, 1) := by decide +kernel
theorem dX5_append_29 : decode cX5_append 29 = .ok (.iastore, 1) := by decide +kernel
theorem dX5_append_30 : decode cX5_append 30 = .ok (.aload_n 0, 1) := by decide +kernel
theorem dX5_append_31 : decode cX5_append 31 = .ok (.dup, 1) := by decide +kernel
theorem dX5_append_32 : decode cX5_append 32 = .ok (.getfield 22, 3) := by decide +kernel
theorem dX5_append_35 : decode cX5_append 35 = .ok (.iconst 1, 1) := by decide +kernel
theorem dX5_append_36 : decode cX5_append 36 = .ok (.iadd, 1) := by decide +kernel
theorem dX5_append_37 : decode cX5_append 37 = .ok (.putfield 22, 3) := by decide +kernel
theorem dX5_append_40 : decode cX5_append 40 = .ok (.iconst 1, 1) := by decide +kernel
theorem dX5_append_41 : decode cX5_append 41 = .ok (.ireturn, 1) := by decide +kernel
theorem dX5_empty_0 : decode cX5_empty 0 = .ok (.aload_n 0, 1) := by decide +kernel
theorem dX5_empty_1 : decode cX5_empty 1 = .ok (.getfield 22, 3) := by decide +kernel
theorem dX5_empty_4 : decode cX5_empty 4 = .ok (.istore_n 1, 1) := by decide +kernel
theorem dX5_empty_5 : decode cX5_empty 5 = .ok (.aload_n 0, 1) := by decide +kernel
theorem dX5_empty_6 : decode cX5_empty 6 = .ok (.iconst 0, 1) := by decide +kernel
theorem dX5_empty_7 : decode cX5_empty 7 = .ok (.putfield 22, 3) := by decide +kernel
theorem dX5_empty_10 : decode cX5_empty 10 = .ok (.iload_n 1, 1) := by decide +kernel
theorem dX5_empty_11 : decode cX5_empty 11 = .ok (.ireturn, 1) := by decide +kernel
theorem dX5_suspects_0 : decode cX5_suspects 0 = .ok (.iconst 0, 1) := by decide +kernel
theorem dX5_suspects_1 : decode cX5_suspects 1 = .ok (.istore_n 1, 1) := by decide +kernel
theorem dX5_suspects_2 : decode cX5_suspects 2 = .ok (.iconst 0, 1) := by decide +kernel
theorem dX5_suspects_3 : decode cX5_suspects 3 = .ok (.istore_n 2, 1) := by decide +kernel
theorem dX5_suspects_4 : decode cX5_suspects 4 = .ok (.iload_n 2, 1) := by decide +kernel
theorem dX5_suspects_5 : decode cX5_suspects 5 = .ok (.aload_n 0, 1) := by decide +kernel
theorem dX5_suspects_6 : decode cX5_suspects 6 = .ok (.getfield 18, 3) := by decide +kernel
theorem dX5_suspects_9 : decode cX5_suspects 9 = .ok (.getfield 26, 3) := by decide +kernel
theorem dX5_suspects_12 : decode cX5_suspects 12 = .ok (.getfield 32, 3) := by decide +kernel
theorem dX5_suspects_15 : decode cX5_suspects 15 = .ok (.if_icmp .ge 34, 3) := by decide +kernel
theorem dX5_suspects_18 : decode cX5_suspects 18 = .ok (.aload_n 0, 1) := by decide +kernel
theorem dX5_suspects_19 : decode cX5_suspects 19 = .ok (.aload_n 0, 1) := by decide +kernel
theorem dX5_suspects_20 : decode cX5_suspects 20 = .ok (.getfield 18, 3) := by decide +kernel
theorem dX5_suspects_23 : decode cX5_suspects 23 = .ok (.getfield 37, 3) := by decide +kernel
theorem dX5_suspects_26 : decode cX5_suspects 26 = .ok (.iload_n 2, 1) := by decide +kernel
theorem dX5_suspects_27 : decode cX5_suspects 27 = .ok (.invokevirtual 41, 3) := by decide +kernel
theorem dX5_suspects_30 : decode cX5_suspects 30 = .ok (.invokevirtual 47, 3) := by decide +kernel
theorem dX5_suspects_33 : decode cX5_suspects 33 = .ok (.ifCond .eq 10, 3) := by decide +kernel
theorem dX5_suspects_36 : decode cX5_suspects 36 = .ok (.iload_n 1, 1) := by decide +kernel
theorem dX5_suspects_37 : decode cX5_suspects 37 = .ok (.iload_n 2, 1) := by decide +kernel
theorem dX5_suspects_38 : decode cX5_suspects 38 = .ok (.invokestatic 51, 3) := by decide +kernel
theorem dX5_suspects_41 : decode cX5_suspects 41 = .ok (.ior, 1) := by decide +kernel
theorem dX5_suspects_42 : decode cX5_suspects 42 = .ok (.istore_n 1, 1) := by decide +kernel
theorem dX5_suspects_43 : decode cX5_suspects 43 = .ok (.iinc 2 1, 3) := by decide +kernel
theorem dX5_suspects_46 : decode cX5_suspects 46 = .ok (.goto (-42), 3) := by decide +kernel
theorem dX5_suspects_49 : decode cX5_suspects 49 = .ok (.iload_n 1, 1) := by decide +kernel
theorem dX5_suspects_50 : decode cX5_suspects 50 = .ok (.ireturn, 1) := by decide +kernel
theorem dX5_nextBang_0 : decode cX5_nextBang 0 = .ok (.aload_n 0, 1) := by decide +kernel
theorem dX5_nextBang_1 : decode cX5_nextBang 1 = .ok (.invokevirtual 54, 3) := by decide +kernel
theorem dX5_nextBang_4 : decode cX5_nextBang 4 = .ok (.istore_n 1, 1) := by decide +kernel
theorem dX5_nextBang_5 : decode cX5_nextBang 5 = .ok (.iload_n 1, 1) := by decide +kernel
theorem dX5_nextBang_6 : decode cX5_nextBang 6 = .ok (.invokestatic 58, 3) := by decide +kernel
theorem dX5_nextBang_9 : decode cX5_nextBang 9 = .ok (.istore_n 2, 1) := by decide +kernel
theorem dX5_nextBang_10 : decode cX5_nextBang 10 = .ok (.iload_n 2, 1) := by decide +kernel
theorem dX5_nextBang_11 : decode cX5_nextBang 11 = .ok (.istore_n 3, 1) := by decide +kernel
theorem dX5_nextBang_12 : decode cX5_nextBang 12 = .ok (.bipush (-9), 2) := by decide +kernel
theorem dX5_nextBang_14 : decode cX5_nextBang 14 = .ok (.istore 4, 2) := by decide +kernel
theorem dX5_nextBang_16 : decode cX5_nextBang 16 = .ok (.iconst 0, 1) := by decide +kernel
theorem dX5_nextBang_17 : decode cX5_nextBang 17 = .ok (.istore 5, 2) := by decide +kernel
theorem dX5_nextBang_19 : decode cX5_nextBang 19 = .ok (.iload 5, 2) := by decide +kernel
theorem dX5_nextBang_21 : decode cX5_nextBang 21 = .ok (.bipush 99, 2) := by decide +kernel
theorem dX5_nextBang_23 : decode cX5_nextBang 23 = .ok (.if_icmp .gt 42, 3) := by decide +kernel
theorem dX5_nextBang_26 : decode cX5_nextBang 26 = .ok (.aload_n 0, 1) := by decide +kernel
theorem dX5_nextBang_27 : decode cX5_nextBang 27 = .ok (.iload_n 1, 1) := by decide +kernel
theorem dX5_nextBang_28 : decode cX5_nextBang 28 = .ok (.iload 5, 2) := by decide +kernel
theorem dX5_nextBang_30 : decode cX5_nextBang 30 = .ok (.invokevirtual 63, 3) := by decide +kernel
theorem dX5_nextBang_33 : decode cX5_nextBang 33 = .ok (.istore 6, 2) := by decide +kernel
theorem dX5_nextBang_35 : decode cX5_nextBang 35 = .ok (.iload 6, 2) := by decide +kernel
theorem dX5_nextBang_37 : decode cX5_nextBang 37 = .ok (.iload_n 2, 1) := by decide +kernel
theorem dX5_nextBang_38 : decode cX5_nextBang 38 = .ok (.iload 6, 2) := by decide +kernel
theorem dX5_nextBang_40 : decode cX5_nextBang 40 = .ok (.isub, 1) := by decide +kernel
theorem dX5_nextBang_41 : decode cX5_nextBang 41 = .ok (.invokestatic 67, 3) := by decide +kernel
theorem dX5_nextBang_44 : decode cX5_nextBang 44 = .ok (.istore 7, 2) := by decide +kernel
theorem dX5_nextBang_46 : decode cX5_nextBang 46 = .ok (.iload 7, 2) := by decide +kernel
theorem dX5_nextBang_48 : decode cX5_nextBang 48 = .ok (.iload_n 3, 1) := by decide +kernel
theorem dX5_nextBang_49 : decode cX5_nextBang 49 = .ok (.if_icmp .ge 10, 3) := by decide +kernel
theorem dX5_nextBang_52 : decode cX5_nextBang 52 = .ok (.iload 7, 2) := by decide +kernel
theorem dX5_nextBang_54 : decode cX5_nextBang 54 = .ok (.istore_n 3, 1) := by decide +kernel
theorem dX5_nextBang_55 : decode cX5_nextBang 55 = .ok (.iload 5, 2) := by decide +kernel
theorem dX5_nextBang_57 : decode cX5_nextBang 57 = .ok (.istore 4, 2) := by decide +kernel
theorem dX5_nextBang_59 : decode cX5_nextBang 59 = .ok (.iinc 5 1, 3) := by decide +kernel
theorem dX5_nextBang_62 : decode cX5_nextBang 62 = .ok (.goto (-43), 3) := by decide +kernel
theorem dX5_nextBang_65 : decode cX5_nextBang 65 = .ok (.iload 4, 2) := by decide +kernel
theorem dX5_nextBang_67 : decode cX5_nextBang 67 = .ok (.ireturn, 1) := by decide +kernel
theorem dX5_countBanging_0 : decode cX5_countBanging 0 = .ok (.iconst 0, 1) := by decide +kernel
theorem dX5_countBanging_1 : decode cX5_countBanging 1 = .ok (.istore_n 3, 1) := by decide +kernel
theorem dX5_countBanging_2 : decode cX5_countBanging 2 = .ok (.iconst 0, 1) := by decide +kernel
theorem dX5_countBanging_3 : decode cX5_countBanging 3 = .ok (.istore 4, 2) := by decide +kernel
theorem dX5_countBanging_5 : decode cX5_countBanging 5 = .ok (.iload 4, 2) := by decide +kernel
theorem dX5_countBanging_7 : decode cX5_countBanging 7 = .ok (.aload_n 0, 1) := by decide +kernel
theorem dX5_countBanging_8 : decode cX5_countBanging 8 = .ok (.getfield 18, 3) := by decide +kernel
theorem dX5_countBanging_11 : decode cX5_countBanging 11 = .ok (.getfield 26, 3) := by decide +kernel
theorem dX5_countBanging_14 : decode cX5_countBanging 14 = .ok (.getfield 32, 3) := by decide +kernel
theorem dX5_countBanging_17 : decode cX5_countBanging 17 = .ok (.if_icmp .ge 38, 3) := by decide +kernel
theorem dX5_countBanging_20 : decode cX5_countBanging 20 = .ok (.iload_n 1, 1) := by decide +kernel
theorem dX5_countBanging_21 : decode cX5_countBanging 21 = .ok (.iload 4, 2) := by decide +kernel
theorem dX5_countBanging_23 : decode cX5_countBanging 23 = .ok (.invokestatic 51, 3) := by decide +kernel
theorem dX5_countBanging_26 : decode cX5_countBanging 26 = .ok (.iand, 1) := by decide +kernel
theorem dX5_countBanging_27 : decode cX5_countBanging 27 = .ok (.ifCond .eq 22, 3) := by decide +kernel
theorem dX5_countBanging_30 : decode cX5_countBanging 30 = .ok (.aload_n 0, 1) := by decide +kernel
theorem dX5_countBanging_31 : decode cX5_countBanging 31 = .ok (.getfield 18, 3) := by decide +kernel
theorem dX5_countBanging_34 : decode cX5_countBanging 34 = .ok (.getfield 37, 3) := by decide +kernel
theorem dX5_countBanging_37 : decode cX5_countBanging 37 = .ok (.iload 4, 2) := by decide +kernel
theorem dX5_countBanging_39 : decode cX5_countBanging 39 = .ok (.invokevirtual 41, 3) := by decide +kernel
theorem dX5_countBanging_42 : decode cX5_countBanging 42 = .ok (.iload_n 2, 1) := by decide +kernel
theorem dX5_countBanging_43 : decode cX5_countBanging 43 = .ok (.if_icmp .lt 6, 3) := by decide +kernel
theorem dX5_countBanging_46 : decode cX5_countBanging 46 = .ok (.iinc 3 1, 3) := by decide +kernel
theorem dX5_countBanging_49 : decode cX5_countBanging 49 = .ok (.iinc 4 1, 3) := by decide +kernel
theorem dX5_countBanging_52 : decode cX5_countBanging 52 = .ok (.goto (-47), 3) := by decide +kernel
theorem dX5_countBanging_55 : decode cX5_countBanging 55 = .ok (.iload_n 3, 1) := by decide +kernel
theorem dX5_countBanging_56 : decode cX5_countBanging 56 = .ok (.ireturn, 1) := by decide +kernel
theorem dX5_isAsHeard_0 : decode cX5_isAsHeard 0 = .ok (.iconst 0, 1) := by decide +kernel
theorem dX5_isAsHeard_1 : decode cX5_isAsHeard 1 = .ok (.istore_n 2, 1) := by decide +kernel
theorem dX5_isAsHeard_2 : decode cX5_isAsHeard 2 = .ok (.iload_n 2, 1) := by decide +kernel
theorem dX5_isAsHeard_3 : decode cX5_isAsHeard 3 = .ok (.aload_n 0, 1) := by decide +kernel
theorem dX5_isAsHeard_4 : decode cX5_isAsHeard 4 = .ok (.getfield 22, 3) := by decide +kernel
theorem dX5_isAsHeard_7 : decode cX5_isAsHeard 7 = .ok (.if_icmp .ge 51, 3) := by decide +kernel
theorem dX5_isAsHeard_10 : decode cX5_isAsHeard 10 = .ok (.iload_n 2, 1) := by decide +kernel
theorem dX5_isAsHeard_11 : decode cX5_isAsHeard 11 = .ok (.iconst 4, 1) := by decide +kernel
theorem dX5_isAsHeard_12 : decode cX5_isAsHeard 12 = .ok (.if_icmp .ge 46, 3) := by decide +kernel
theorem dX5_isAsHeard_15 : decode cX5_isAsHeard 15 = .ok (.iload_n 1, 1) := by decide +kernel
theorem dX5_isAsHeard_16 : decode cX5_isAsHeard 16 = .ok (.aload_n 0, 1) := by decide +kernel
theorem dX5_isAsHeard_17 : decode cX5_isAsHeard 17 = .ok (.getfield 9, 3) := by decide +kernel
theorem dX5_isAsHeard_20 : decode cX5_isAsHeard 20 = .ok (.iload_n 2, 1) := by decide +kernel
theorem dX5_isAsHeard_21 : decode cX5_isAsHeard 21 = .ok (.iaload, 1) := by decide +kernel
theorem dX5_isAsHeard_22 : decode cX5_isAsHeard 22 = .ok (.if_icmp .lt 7, 3) := by decide +kernel
theorem dX5_isAsHeard_25 : decode cX5_isAsHeard 25 = .ok (.iconst 1, 1) := by decide +kernel
theorem dX5_isAsHeard_26 : decode cX5_isAsHeard 26 = .ok (.goto 4, 3) := by decide +kernel
theorem dX5_isAsHeard_29 : decode cX5_isAsHeard 29 = .ok (.iconst 0, 1) := by decide +kernel
theorem dX5_isAsHeard_30 : decode cX5_isAsHeard 30 = .ok (.istore_n 3, 1) := by decide +kernel
theorem dX5_isAsHeard_31 : decode cX5_isAsHeard 31 = .ok (.iload_n 3, 1) := by decide +kernel
theorem dX5_isAsHeard_32 : decode cX5_isAsHeard 32 = .ok (.aload_n 0, 1) := by decide +kernel
theorem dX5_isAsHeard_33 : decode cX5_isAsHeard 33 = .ok (.getfield 15, 3) := by decide +kernel
theorem dX5_isAsHeard_36 : decode cX5_isAsHeard 36 = .ok (.iload_n 2, 1) := by decide +kernel
theorem dX5_isAsHeard_37 : decode cX5_isAsHeard 37 = .ok (.iaload, 1) := by decide +kernel
theorem dX5_isAsHeard_38 : decode cX5_isAsHeard 38 = .ok (.iconst 1, 1) := by decide +kernel
theorem dX5_isAsHeard_39 : decode cX5_isAsHeard 39 = .ok (.if_icmp .ne 7, 3) := by decide +kernel
theorem dX5_isAsHeard_42 : decode cX5_isAsHeard 42 = .ok (.iconst 1, 1) := by decide +kernel
theorem dX5_isAsHeard_43 : decode cX5_isAsHeard 43 = .ok (.goto 4, 3) := by decide +kernel
theorem dX5_isAsHeard_46 : decode cX5_isAsHeard 46 = .ok (.iconst 0, 1) := by decide +kernel
theorem dX5_isAsHeard_47 : decode cX5_isAsHeard 47 = .ok (.if_icmp .eq 5, 3) := by decide +kernel
theorem dX5_isAsHeard_50 : decode cX5_isAsHeard 50 = .ok (.iconst 0, 1) := by decide +kernel
theorem dX5_isAsHeard_51 : decode cX5_isAsHeard 51 = .ok (.ireturn, 1) := by decide +kernel
theorem dX5_isAsHeard_52 : decode cX5_isAsHeard 52 = .ok (.iinc 2 1, 3) := by decide +kernel
theorem dX5_isAsHeard_55 : decode cX5_isAsHeard 55 = .ok (.goto (-53), 3) := by decide +kernel
theorem dX5_isAsHeard_58 : decode cX5_isAsHeard 58 = .ok (.iconst 1, 1) := by decide +kernel
theorem dX5_isAsHeard_59 : decode cX5_isAsHeard 59 = .ok (.ireturn, 1) := by decide +kernel
theorem dX6_init_0 : decode cX6_init 0 = .ok (.aload_n 0, 1) := by decide +kernel
theorem dX6_init_1 : decode cX6_init 1 = .ok (.invokespecial 3, 3) := by decide +kernel
theorem dX6_init_4 : decode cX6_init 4 = .ok (.aload_n 0, 1) := by decide +kernel
theorem dX6_init_5 : decode cX6_init 5 = .ok (.bipush 6, 2) := by decide +kernel
theorem dX6_init_7 : decode cX6_init 7 = .ok (.newarray .int, 2) := by decide +kernel
theorem dX6_init_9 : decode cX6_init 9 = .ok (.putfield 9, 3) := by decide +kernel
theorem dX6_init_12 : decode cX6_init 12 = .ok (.aload_n 0, 1) := by decide +kernel
theorem dX6_init_13 : decode cX6_init 13 = .ok (.iconst 4, 1) := by decide +kernel
theorem dX6_init_14 : decode cX6_init 14 = .ok (.newarray .int, 2) := by decide +kernel
theorem dX6_init_16 : decode cX6_init 16 = .ok (.putfield 15, 3) := by decide +kernel
theorem dX6_init_19 : decode cX6_init 19 = .ok (.aload_n 0, 1) := by decide +kernel
theorem dX6_init_20 : decode cX6_init 20 = .ok (.bipush 24, 2) := by decide +kernel
theorem dX6_init_22 : decode cX6_init 22 = .ok (.newarray .int, 2) := by decide +kernel
theorem dX6_init_24 : decode cX6_init 24 = .ok (.putfield 18, 3) := by decide +kernel
theorem dX6_init_27 : decode cX6_init 27 = .ok (.aload_n 0, 1) := by decide +kernel
theorem dX6_init_28 : decode cX6_init 28 = .ok (.bipush 6, 2) := by decide +kernel
theorem dX6_init_30 : decode cX6_init 30 = .ok (.newarray .int, 2) := by decide +kernel
theorem dX6_init_32 : decode cX6_init 32 = .ok (.putfield 21, 3) := by decide +kernel
theorem dX6_init_35 : decode cX6_init 35 = .ok (.aload_n 0, 1) := by decide +kernel
theorem dX6_init_36 : decode cX6_init 36 = .ok (.aload_n 1, 1) := by decide +kernel
theorem dX6_init_37 : decode cX6_init 37 = .ok (.putfield 24, 3) := by decide +kernel
theorem dX6_init_40 : decode cX6_init 40 = .ok (.return_, 1) := by decide +kernel
theorem dX6_findPlan_0 : decode cX6_findPlan 0 = .ok (.aload_n 0, 1) := by decide +kernel
theorem dX6_findPlan_1 : decode cX6_findPlan 1 = .ok (.iconst (-1), 1) := by decide +kernel
theorem dX6_findPlan_2 : decode cX6_findPlan 2 = .ok (.putfield 28, 3) := by decide +kernel
theorem dX6_findPlan_5 : decode cX6_findPlan 5 = .ok (.aload_n 0, 1) := by decide +kernel
theorem dX6_findPlan_6 : decode cX6_findPlan 6 = .ok (.getfield 15, 3) := by decide +kernel
theorem dX6_findPlan_9 : decode cX6_findPlan 9 = .ok (.iconst 0, 1) := by decide +kernel
theorem dX6_findPlan_10 : decode cX6_findPlan 10 = .ok (.invokestatic 32, 3) := by decide +kernel
theorem dX6_findPlan_13 : decode cX6_findPlan 13 = .ok (.aload_n 0, 1) := by decide +kernel
theorem dX6_findPlan_14 : decode cX6_findPlan 14 = .ok (.iconst 0, 1) := by decide +kernel
theorem dX6_findPlan_15 : decode cX6_findPlan 15 = .ok (.iconst 0, 1) := by decide +kernel
theorem dX6_findPlan_16 : decode cX6_findPlan 16 = .ok (.invokevirtual 38, 3) := by decide +kernel
theorem dX6_findPlan_19 : decode cX6_findPlan 19 = .ok (.return_, 1) := by decide +kernel
theorem dX6_soonest_0 : decode cX6_soonest 0 = .ok (.iconst 0, 1) := by decide +kernel
theorem dX6_soonest_1 : decode cX6_soonest 1 = .ok (.istore_n 1, 1) := by decide +kernel
theorem dX6_soonest_2 : decode cX6_soonest 2 = .ok (.iload_n 1, 1) := by decide +kernel
theorem dX6_soonest_3 : decode cX6_soonest 3 = .ok (.aload_n 0, 1) := by decide +kernel
theorem dX6_soonest_4 : decode cX6_soonest 4 = .ok (.getfield 24, 3) := by decide +kernel
theorem dX6_soonest_7 : decode cX6_soonest 7 = .ok (.getfield 42, 3) := by decide +kernel
theorem dX6_soonest_10 : decode cX6_soonest 10 = .ok (.getfield 48, 3) := by decide +kernel
theorem dX6_soonest_13 : decode cX6_soonest 13 = .ok (.if_icmp .ge 51, 3) := by decide +kernel
theorem dX6_soonest_16 : decode cX6_soonest 16 = .ok (.iconst 0, 1) := by decide +kernel
theorem dX6_soonest_17 : decode cX6_soonest 17 = .ok (.istore_n 2, 1) := by decide +kernel
theorem dX6_soonest_18 : decode cX6_soonest 18 = .ok (.iload_n 2, 1) := by decide +kernel
theorem dX6_soonest_19 : decode cX6_soonest 19 = .ok (.aload_n 0, 1) := by decide +kernel
theorem dX6_soonest_20 : decode cX6_soonest 20 = .ok (.getfield 24, 3) := by decide +kernel
theorem dX6_soonest_23 : decode cX6_soonest 23 = .ok (.getfield 42, 3) := by decide +kernel
theorem dX6_soonest_26 : decode cX6_soonest 26 = .ok (.getfield 53, 3) := by decide +kernel
theorem dX6_soonest_29 : decode cX6_soonest 29 = .ok (.if_icmp .ge 29, 3) := by decide +kernel
theorem dX6_soonest_32 : decode cX6_soonest 32 = .ok (.aload_n 0, 1) := by decide +kernel
theorem dX6_soonest_33 : decode cX6_soonest 33 = .ok (.getfield 18, 3) := by decide +kernel
theorem dX6_soonest_36 : decode cX6_soonest 36 = .ok (.iload_n 2, 1) := by decide +kernel
theorem dX6_soonest_37 : decode cX6_soonest 37 = .ok (.bipush 6, 2) := by decide +kernel
theorem dX6_soonest_39 : decode cX6_soonest 39 = .ok (.imul, 1) := by decide +kernel
theorem dX6_soonest_40 : decode cX6_soonest 40 = .ok (.iload_n 1, 1) := by decide +kernel
theorem dX6_soonest_41 : decode cX6_soonest 41 = .ok (.iadd, 1) := by decide +kernel
theorem dX6_soonest_42 : decode cX6_soonest 42 = .ok (.aload_n 0, 1) := by decide +kernel
theorem dX6_soonest_43 : decode cX6_soonest 43 = .ok (.getfield 24, 3) := by decide +kernel
theorem dX6_soonest_46 : decode cX6_soonest 46 = .ok (.iload_n 1, 1) := by decide +kernel
theorem dX6_soonest_47 : decode cX6_soonest 47 = .ok (.iload_n 2, 1) := by decide +kernel
theorem dX6_soonest_48 : decode cX6_soonest 48 = .ok (.invokevirtual 56, 3) := by decide +kernel
theorem dX6_soonest_51 : decode cX6_soonest 51 = .ok (.iastore, 1) := by decide +kernel
theorem dX6_soonest_52 : decode cX6_soonest 52 = .ok (.iinc 2 1, 3) := by decide +kernel
theorem dX6_soonest_55 : decode cX6_soonest 55 = .ok (.goto (-37), 3) := by decide +kernel
theorem dX6_soonest_58 : decode cX6_soonest 58 = .ok (.iinc 1 1, 3) := by decide +kernel
theorem dX6_soonest_61 : decode cX6_soonest 61 = .ok (.goto (-59), 3) := by decide +kernel
theorem dX6_soonest_64 : decode cX6_soonest 64 = .ok (.aload_n 0, 1) := by decide +kernel
theorem dX6_soonest_65 : decode cX6_soonest 65 = .ok (.bipush 100, 2) := by decide +kernel
theorem dX6_soonest_67 : decode cX6_soonest 67 = .ok (.putfield 60, 3) := by decide +kernel
theorem dX6_soonest_70 : decode cX6_soonest 70 = .ok (.aload_n 0, 1) := by decide +kernel
theorem dX6_soonest_71 : decode cX6_soonest 71 = .ok (.getfield 15, 3) := by decide +kernel
theorem dX6_soonest_74 : decode cX6_soonest 74 = .ok (.iconst 0, 1) := by decide +kernel
theorem dX6_soonest_75 : decode cX6_soonest 75 = .ok (.invokestatic 32, 3) := by decide +kernel
theorem dX6_soonest_78 : decode cX6_soonest 78 = .ok (.aload_n 0, 1) := by decide +kernel
theorem dX6_soonest_79 : decode cX6_soonest 79 = .ok (.iconst 0, 1) := by decide +kernel
theorem dX6_soonest_80 : decode cX6_soonest 80 = .ok (.iconst 0, 1) := by decide +kernel
theorem dX6_soonest_81 : decode cX6_soonest 81 = .ok (.invokevirtual 63, 3) := by decide +kernel
theorem dX6_soonest_84 : decode cX6_soonest 84 = .ok (.aload_n 0, 1) := by decide +kernel
theorem dX6_soonest_85 : decode cX6_soonest 85 = .ok (.getfield 60, 3) := by decide +kernel
theorem dX6_soonest_88 : decode cX6_soonest 88 = .ok (.bipush 100, 2) := by decide +kernel
theorem dX6_soonest_90 : decode cX6_soonest 90 = .ok (.if_icmp .ne 8, 3) := by decide +kernel
theorem dX6_soonest_93 : decode cX6_soonest 93 = .ok (.bipush (-9), 2) := by decide +kernel
theorem dX6_soonest_95 : decode cX6_soonest 95 = .ok (.goto 7, 3) := by decide +kernel
theorem dX6_soonest_98 : decode cX6_soonest 98 = .ok (.aload_n 0, 1) := by decide +kernel
theorem dX6_soonest_99 : decode cX6_soonest 99 = .ok (.getfield 60, 3) := by decide +kernel
theorem dX6_soonest_102 : decode cX6_soonest 102 = .ok (.ireturn, 1) := by decide +kernel
theorem dX6_tryPlaces_0 : decode cX6_tryPlaces 0 = .ok (.iload_n 2, 1) := by decide +kernel
theorem dX6_tryPlaces_1 : decode cX6_tryPlaces 1 = .ok (.aload_n 0, 1) := by decide +kernel
theorem dX6_tryPlaces_2 : decode cX6_tryPlaces 2 = .ok (.getfield 24, 3) := by decide +kernel
theorem dX6_tryPlaces_5 : decode cX6_tryPlaces 5 = .ok (.getfield 42, 3) := by decide +kernel
theorem dX6_tryPlaces_8 : decode cX6_tryPlaces 8 = .ok (.getfield 48, 3) := by decide +kernel
theorem dX6_tryPlaces_11 : decode cX6_tryPlaces 11 = .ok (.iadd, 1) := by decide +kernel
theorem dX6_tryPlaces_12 : decode cX6_tryPlaces 12 = .ok (.iload_n 1, 1) := by decide +kernel
theorem dX6_tryPlaces_13 : decode cX6_tryPlaces 13 = .ok (.isub, 1) := by decide +kernel
theorem dX6_tryPlaces_14 : decode cX6_tryPlaces 14 = .ok (.aload_n 0, 1) := by decide +kernel
theorem dX6_tryPlaces_15 : decode cX6_tryPlaces 15 = .ok (.getfield 28, 3) := by decide +kernel
theorem dX6_tryPlaces_18 : decode cX6_tryPlaces 18 = .ok (.if_icmp .gt 4, 3) := by decide +kernel
theorem dX6_tryPlaces_21 : decode cX6_tryPlaces 21 = .ok (.return_, 1) := by decide +kernel
theorem dX6_tryPlaces_22 : decode cX6_tryPlaces 22 = .ok (.iload_n 1, 1) := by decide +kernel
theorem dX6_tryPlaces_23 : decode cX6_tryPlaces 23 = .ok (.aload_n 0, 1) := by decide +kernel
theorem dX6_tryPlaces_24 : decode cX6_tryPlaces 24 = .ok (.getfield 24, 3) := by decide +kernel
theorem dX6_tryPlaces_27 : decode cX6_tryPlaces 27 = .ok (.getfield 42, 3) := by decide +kernel
theorem dX6_tryPlaces_30 : decode cX6_tryPlaces 30 = .ok (.getfield 48, 3) := by decide +kernel
theorem dX6_tryPlaces_33 : decode cX6_tryPlaces 33 = .ok (.if_icmp .ge 9, 3) := by decide +kernel
theorem dX6_tryPlaces_36 : decode cX6_tryPlaces 36 = .ok (.iload_n 1, 1) := by decide +kernel
theorem dX6_tryPlaces_37 : decode cX6_tryPlaces 37 = .ok (.bipush 6, 2) := by decide +kernel
theorem dX6_tryPlaces_39 : decode cX6_tryPlaces 39 = .ok (.if_icmp .lt 24, 3) := by decide +kernel
theorem dX6_tryPlaces_42 : decode cX6_tryPlaces 42 = .ok (.aload_n 0, 1) := by decide +kernel
theorem dX6_tryPlaces_43 : decode cX6_tryPlaces 43 = .ok (.iload_n 2, 1) := by decide +kernel
theorem dX6_tryPlaces_44 : decode cX6_tryPlaces 44 = .ok (.putfield 28, 3) := by decide +kernel
theorem dX6_tryPlaces_47 : decode cX6_tryPlaces 47 = .ok (.aload_n 0, 1) := by decide +kernel
theorem dX6_tryPlaces_48 : decode cX6_tryPlaces 48 = .ok (.getfield 9, 3) := by decide +kernel
theorem dX6_tryPlaces_51 : decode cX6_tryPlaces 51 = .ok (.iconst 0, 1) := by decide +kernel
theorem dX6_tryPlaces_52 : decode cX6_tryPlaces 52 = .ok (.aload_n 0, 1) := by decide +kernel
theorem dX6_tryPlaces_53 : decode cX6_tryPlaces 53 = .ok (.getfield 21, 3) := by decide +kernel
theorem dX6_tryPlaces_56 : decode cX6_tryPlaces 56 = .ok (.iconst 0, 1) := by decide +kernel
theorem dX6_tryPlaces_57 : decode cX6_tryPlaces 57 = .ok (.bipush 6, 2) := by decide +kernel
theorem dX6_tryPlaces_59 : decode cX6_tryPlaces 59 = .ok (.invokestatic 66, 3) := by decide +kernel
theorem dX6_tryPlaces_62 : decode cX6_tryPlaces 62 = .ok (.return_, 1) := by decide +kernel
theorem dX6_tryPlaces_63 : decode cX6_tryPlaces 63 = .ok (.iconst 0, 1) := by decide +kernel
theorem dX6_tryPlaces_64 : decode cX6_tryPlaces 64 = .ok (.istore_n 3, 1) := by decide +kernel
theorem dX6_tryPlaces_65 : decode cX6_tryPlaces 65 = .ok (.iload_n 3, 1) := by decide +kernel
theorem dX6_tryPlaces_66 : decode cX6_tryPlaces 66 = .ok (.aload_n 0, 1) := by decide +kernel
theorem dX6_tryPlaces_67 : decode cX6_tryPlaces 67 = .ok (.getfield 24, 3) := by decide +kernel
theorem dX6_tryPlaces_70 : decode cX6_tryPlaces 70 = .ok (.getfield 42, 3) := by decide +kernel
theorem dX6_tryPlaces_73 : decode cX6_tryPlaces 73 = .ok (.getfield 53, 3) := by decide +kernel
theorem dX6_tryPlaces_76 : decode cX6_tryPlaces 76 = .ok (.if_icmp .ge 72, 3) := by decide +kernel
theorem dX6_tryPlaces_79 : decode cX6_tryPlaces 79 = .ok (.aload_n 0, 1) := by decide +kernel
theorem dX6_tryPlaces_80 : decode cX6_tryPlaces 80 = .ok (.getfield 15, 3) := by decide +kernel
theorem dX6_tryPlaces_83 : decode cX6_tryPlaces 83 = .ok (.iload_n 3, 1) := by decide +kernel
theorem dX6_tryPlaces_84 : decode cX6_tryPlaces 84 = .ok (.iaload, 1) := by decide +kernel
theorem dX6_tryPlaces_85 : decode cX6_tryPlaces 85 = .ok (.istore 4, 2) := by decide +kernel
theorem dX6_tryPlaces_87 : decode cX6_tryPlaces 87 = .ok (.aload_n 0, 1) := by decide +kernel
theorem dX6_tryPlaces_88 : decode cX6_tryPlaces 88 = .ok (.getfield 24, 3) := by decide +kernel
theorem dX6_tryPlaces_91 : decode cX6_tryPlaces 91 = .ok (.iload_n 1, 1) := by decide +kernel
theorem dX6_tryPlaces_92 : decode cX6_tryPlaces 92 = .ok (.iload_n 3, 1) := by decide +kernel
theorem dX6_tryPlaces_93 : decode cX6_tryPlaces 93 = .ok (.iload 4, 2) := by decide +kernel
theorem dX6_tryPlaces_95 : decode cX6_tryPlaces 95 = .ok (.invokevirtual 72, 3) := by decide +kernel
theorem dX6_tryPlaces_98 : decode cX6_tryPlaces 98 = .ok (.ifCond .ne 6, 3) := by decide +kernel
theorem dX6_tryPlaces_101 : decode cX6_tryPlaces 101 = .ok (.goto 41, 3) := by decide +kernel
theorem dX6_tryPlaces_104 : decode cX6_tryPlaces 104 = .ok (.aload_n 0, 1) := by decide +kernel
theorem dX6_tryPlaces_105 : decode cX6_tryPlaces 105 = .ok (.getfield 15, 3) := by decide +kernel
theorem dX6_tryPlaces_108 : decode cX6_tryPlaces 108 = .ok (.iload_n 3, 1) := by decide +kernel
theorem dX6_tryPlaces_109 : decode cX6_tryPlaces 109 = .ok (.iload 4, 2) := by decide +kernel
theorem dX6_tryPlaces_111 : decode cX6_tryPlaces 111 = .ok (.iload_n 1, 1) := by decide +kernel
theorem dX6_tryPlaces_112 : decode cX6_tryPlaces 112 = .ok (.invokestatic 76, 3) := by decide +kernel
theorem dX6_tryPlaces_115 : decode cX6_tryPlaces 115 = .ok (.ior, 1) := by decide +kernel
theorem dX6_tryPlaces_116 : decode cX6_tryPlaces 116 = .ok (.iastore, 1) := by decide +kernel
theorem dX6_tryPlaces_117 : decode cX6_tryPlaces 117 = .ok (.aload_n 0, 1) := by decide +kernel
theorem dX6_tryPlaces_118 : decode cX6_tryPlaces 118 = .ok (.getfield 9, 3) := by decide +kernel
theorem dX6_tryPlaces_121 : decode cX6_tryPlaces 121 = .ok (.iload_n 1, 1) := by decide +kernel
theorem dX6_tryPlaces_122 : decode cX6_tryPlaces 122 = .ok (.iload_n 3, 1) := by decide +kernel
theorem dX6_tryPlaces_123 : decode cX6_tryPlaces 123 = .ok (.iastore, 1) := by decide +kernel
theorem dX6_tryPlaces_124 : decode cX6_tryPlaces 124 = .ok (.aload_n 0, 1) := by decide +kernel
theorem dX6_tryPlaces_125 : decode cX6_tryPlaces 125 = .ok (.iload_n 1, 1) := by decide +kernel
theorem dX6_tryPlaces_126 : decode cX6_tryPlaces 126 = .ok (.iconst 1, 1) := by decide +kernel
theorem dX6_tryPlaces_127 : decode cX6_tryPlaces 127 = .ok (.iadd, 1) := by decide +kernel
theorem dX6_tryPlaces_128 : decode cX6_tryPlaces 128 = .ok (.iload_n 2, 1) := by decide +kernel
theorem dX6_tryPlaces_129 : decode cX6_tryPlaces 129 = .ok (.iconst 1, 1) := by decide +kernel
theorem dX6_tryPlaces_130 : decode cX6_tryPlaces 130 = .ok (.iadd, 1) := by decide +kernel
theorem dX6_tryPlaces_131 : decode cX6_tryPlaces 131 = .ok (.invokevirtual 38, 3) := by decide +kernel
theorem dX6_tryPlaces_134 : decode cX6_tryPlaces 134 = .ok (.aload_n 0, 1) := by decide +kernel
theorem dX6_tryPlaces_135 : decode cX6_tryPlaces 135 = .ok (.getfield 15, 3) := by decide +kernel
theorem dX6_tryPlaces_138 : decode cX6_tryPlaces 138 = .ok (.iload_n 3, 1) := by decide +kernel
theorem dX6_tryPlaces_139 : decode cX6_tryPlaces 139 = .ok (.iload 4, 2) := by decide +kernel
theorem dX6_tryPlaces_141 : decode cX6_tryPlaces 141 = .ok (.iastore, 1) := by decide +kernel
theorem dX6_tryPlaces_142 : decode cX6_tryPlaces 142 = .ok (.iinc 3 1, 3) := by decide +kernel
theorem dX6_tryPlaces_145 : decode cX6_tryPlaces 145 = .ok (.goto (-80), 3) := by decide +kernel
theorem dX6_tryPlaces_148 : decode cX6_tryPlaces 148 = .ok (.aload_n 0, 1) := by decide +kernel
theorem dX6_tryPlaces_149 : decode cX6_tryPlaces 149 = .ok (.getfield 9, 3) := by decide +kernel
theorem dX6_tryPlaces_152 : decode cX6_tryPlaces 152 = .ok (.iload_n 1, 1) := by decide +kernel
theorem dX6_tryPlaces_153 : decode cX6_tryPlaces 153 = .ok (.bipush (-9), 2) := by decide +kernel
theorem dX6_tryPlaces_155 : decode cX6_tryPlaces 155 = .ok (.iastore, 1) := by decide +kernel
theorem dX6_tryPlaces_156 : decode cX6_tryPlaces 156 = .ok (.aload_n 0, 1) := by decide +kernel
theorem dX6_tryPlaces_157 : decode cX6_tryPlaces 157 = .ok (.iload_n 1, 1) := by decide +kernel
theorem dX6_tryPlaces_158 : decode cX6_tryPlaces 158 = .ok (.iconst 1, 1) := by decide +kernel
theorem dX6_tryPlaces_159 : decode cX6_tryPlaces 159 = .ok (.iadd, 1) := by decide +kernel
theorem dX6_tryPlaces_160 : decode cX6_tryPlaces 160 = .ok (.iload_n 2, 1) := by decide +kernel
theorem dX6_tryPlaces_161 : decode cX6_tryPlaces 161 = .ok (.invokevirtual 38, 3) := by decide +kernel
theorem dX6_tryPlaces_164 : decode cX6_tryPlaces 164 = .ok (.return_, 1) := by decide +kernel
theorem dX6_tryYears_0 : decode cX6_tryYears 0 = .ok (.iload_n 2, 1) := by decide +kernel
theorem dX6_tryYears_1 : decode cX6_tryYears 1 = .ok (.aload_n 0, 1) := by decide +kernel
theorem dX6_tryYears_2 : decode cX6_tryYears 2 = .ok (.getfield 60, 3) := by decide +kernel
theorem dX6_tryYears_5 : decode cX6_tryYears 5 = .ok (.if_icmp .lt 4, 3) := by decide +kernel
theorem dX6_tryYears_8 : decode cX6_tryYears 8 = .ok (.return_, 1) := by decide +kernel
theorem dX6_tryYears_9 : decode cX6_tryYears 9 = .ok (.iload_n 1, 1) := by decide +kernel
theorem dX6_tryYears_10 : decode cX6_tryYears 10 = .ok (.aload_n 0, 1) := by decide +kernel
theorem dX6_tryYears_11 : decode cX6_tryYears 11 = .ok (.getfield 24, 3) := by decide +kernel
theorem dX6_tryYears_14 : decode cX6_tryYears 14 = .ok (.getfield 42, 3) := by decide +kernel
theorem dX6_tryYears_17 : decode cX6_tryYears 17 = .ok (.getfield 48, 3) := by decide +kernel
theorem dX6_tryYears_20 : decode cX6_tryYears 20 = .ok (.if_icmp .ge 9, 3) := by decide +kernel
theorem dX6_tryYears_23 : decode cX6_tryYears 23 = .ok (.iload_n 1, 1) := by decide +kernel
theorem dX6_tryYears_24 : decode cX6_tryYears 24 = .ok (.bipush 6, 2) := by decide +kernel
theorem dX6_tryYears_26 : decode cX6_tryYears 26 = .ok (.if_icmp .lt 9, 3) := by decide +kernel
theorem dX6_tryYears_29 : decode cX6_tryYears 29 = .ok (.aload_n 0, 1) := by decide +kernel
theorem dX6_tryYears_30 : decode cX6_tryYears 30 = .ok (.iload_n 2, 1) := by decide +kernel
theorem dX6_tryYears_31 : decode cX6_tryYears 31 = .ok (.putfield 60, 3) := by decide +kernel
theorem dX6_tryYears_34 : decode cX6_tryYears 34 = .ok (.return_, 1) := by decide +kernel
theorem dX6_tryYears_35 : decode cX6_tryYears 35 = .ok (.aload_n 0, 1) := by decide +kernel
theorem dX6_tryYears_36 : decode cX6_tryYears 36 = .ok (.getfield 24, 3) := by decide +kernel
theorem dX6_tryYears_39 : decode cX6_tryYears 39 = .ok (.getfield 80, 3) := by decide +kernel
theorem dX6_tryYears_42 : decode cX6_tryYears 42 = .ok (.iload_n 1, 1) := by decide +kernel
theorem dX6_tryYears_43 : decode cX6_tryYears 43 = .ok (.invokevirtual 84, 3) := by decide +kernel
theorem dX6_tryYears_46 : decode cX6_tryYears 46 = .ok (.ifCond .ne 12, 3) := by decide +kernel
theorem dX6_tryYears_49 : decode cX6_tryYears 49 = .ok (.aload_n 0, 1) := by decide +kernel
theorem dX6_tryYears_50 : decode cX6_tryYears 50 = .ok (.iload_n 1, 1) := by decide +kernel
theorem dX6_tryYears_51 : decode cX6_tryYears 51 = .ok (.iconst 1, 1) := by decide +kernel
theorem dX6_tryYears_52 : decode cX6_tryYears 52 = .ok (.iadd, 1) := by decide +kernel
theorem dX6_tryYears_53 : decode cX6_tryYears 53 = .ok (.iload_n 2, 1) := by decide +kernel
theorem dX6_tryYears_54 : decode cX6_tryYears 54 = .ok (.invokevirtual 63, 3) := by decide +kernel
theorem dX6_tryYears_57 : decode cX6_tryYears 57 = .ok (.return_, 1) := by decide +kernel
theorem dX6_tryYears_58 : decode cX6_tryYears 58 = .ok (.iconst 0, 1) := by decide +kernel
theorem dX6_tryYears_59 : decode cX6_tryYears 59 = .ok (.istore_n 3, 1) := by decide +kernel
theorem dX6_tryYears_60 : decode cX6_tryYears 60 = .ok (.iload_n 3, 1) := by decide +kernel
theorem dX6_tryYears_61 : decode cX6_tryYears 61 = .ok (.aload_n 0, 1) := by decide +kernel
theorem dX6_tryYears_62 : decode cX6_tryYears 62 = .ok (.getfield 24, 3) := by decide +kernel
theorem dX6_tryYears_65 : decode cX6_tryYears 65 = .ok (.getfield 42, 3) := by decide +kernel
theorem dX6_tryYears_68 : decode cX6_tryYears 68 = .ok (.getfield 53, 3) := by decide +kernel
theorem dX6_tryYears_71 : decode cX6_tryYears 71 = .ok (.if_icmp .ge 97, 3) := by decide +kernel
theorem dX6_tryYears_74 : decode cX6_tryYears 74 = .ok (.aload_n 0, 1) := by decide +kernel
theorem dX6_tryYears_75 : decode cX6_tryYears 75 = .ok (.getfield 15, 3) := by decide +kernel
theorem dX6_tryYears_78 : decode cX6_tryYears 78 = .ok (.iload_n 3, 1) := by decide +kernel
theorem dX6_tryYears_79 : decode cX6_tryYears 79 = .ok (.iaload, 1) := by decide +kernel
theorem dX6_tryYears_80 : decode cX6_tryYears 80 = .ok (.istore 4, 2) := by decide +kernel
theorem dX6_tryYears_82 : decode cX6_tryYears 82 = .ok (.aload_n 0, 1) := by decide +kernel
theorem dX6_tryYears_83 : decode cX6_tryYears 83 = .ok (.getfield 18, 3) := by decide +kernel
theorem dX6_tryYears_86 : decode cX6_tryYears 86 = .ok (.iload_n 3, 1) := by decide +kernel
theorem dX6_tryYears_87 : decode cX6_tryYears 87 = .ok (.bipush 6, 2) := by decide +kernel
theorem dX6_tryYears_89 : decode cX6_tryYears 89 = .ok (.imul, 1) := by decide +kernel
theorem dX6_tryYears_90 : decode cX6_tryYears 90 = .ok (.iload_n 1, 1) := by decide +kernel
theorem dX6_tryYears_91 : decode cX6_tryYears 91 = .ok (.iadd, 1) := by decide +kernel
theorem dX6_tryYears_92 : decode cX6_tryYears 92 = .ok (.iaload, 1) := by decide +kernel
theorem dX6_tryYears_93 : decode cX6_tryYears 93 = .ok (.istore 5, 2) := by decide +kernel
theorem dX6_tryYears_95 : decode cX6_tryYears 95 = .ok (.iload 5, 2) := by decide +kernel
theorem dX6_tryYears_97 : decode cX6_tryYears 97 = .ok (.bipush (-9), 2) := by decide +kernel
theorem dX6_tryYears_99 : decode cX6_tryYears 99 = .ok (.if_icmp .eq 63, 3) := by decide +kernel
theorem dX6_tryYears_102 : decode cX6_tryYears 102 = .ok (.iload 5, 2) := by decide +kernel
theorem dX6_tryYears_104 : decode cX6_tryYears 104 = .ok (.aload_n 0, 1) := by decide +kernel
theorem dX6_tryYears_105 : decode cX6_tryYears 105 = .ok (.getfield 60, 3) := by decide +kernel
theorem dX6_tryYears_108 : decode cX6_tryYears 108 = .ok (.if_icmp .ge 54, 3) := by decide +kernel
theorem dX6_tryYears_111 : decode cX6_tryYears 111 = .ok (.aload_n 0, 1) := by decide +kernel
theorem dX6_tryYears_112 : decode cX6_tryYears 112 = .ok (.getfield 24, 3) := by decide +kernel
theorem dX6_tryYears_115 : decode cX6_tryYears 115 = .ok (.iload_n 1, 1) := by decide +kernel
theorem dX6_tryYears_116 : decode cX6_tryYears 116 = .ok (.iload_n 3, 1) := by decide +kernel
theorem dX6_tryYears_117 : decode cX6_tryYears 117 = .ok (.iload 4, 2) := by decide +kernel
theorem dX6_tryYears_119 : decode cX6_tryYears 119 = .ok (.invokevirtual 72, 3) := by decide +kernel
theorem dX6_tryYears_122 : decode cX6_tryYears 122 = .ok (.ifCond .ne 6, 3) := by decide +kernel
theorem dX6_tryYears_125 : decode cX6_tryYears 125 = .ok (.goto 37, 3) := by decide +kernel
theorem dX6_tryYears_128 : decode cX6_tryYears 128 = .ok (.aload_n 0, 1) := by decide +kernel
theorem dX6_tryYears_129 : decode cX6_tryYears 129 = .ok (.getfield 15, 3) := by decide +kernel
theorem dX6_tryYears_132 : decode cX6_tryYears 132 = .ok (.iload_n 3, 1) := by decide +kernel
theorem dX6_tryYears_133 : decode cX6_tryYears 133 = .ok (.iload 4, 2) := by decide +kernel
theorem dX6_tryYears_135 : decode cX6_tryYears 135 = .ok (.iload_n 1, 1) := by decide +kernel
theorem dX6_tryYears_136 : decode cX6_tryYears 136 = .ok (.invokestatic 76, 3) := by decide +kernel
theorem dX6_tryYears_139 : decode cX6_tryYears 139 = .ok (.ior, 1) := by decide +kernel
theorem dX6_tryYears_140 : decode cX6_tryYears 140 = .ok (.iastore, 1) := by decide +kernel
theorem dX6_tryYears_141 : decode cX6_tryYears 141 = .ok (.aload_n 0, 1) := by decide +kernel
theorem dX6_tryYears_142 : decode cX6_tryYears 142 = .ok (.iload_n 1, 1) := by decide +kernel
theorem dX6_tryYears_143 : decode cX6_tryYears 143 = .ok (.iconst 1, 1) := by decide +kernel
theorem dX6_tryYears_144 : decode cX6_tryYears 144 = .ok (.iadd, 1) := by decide +kernel
theorem dX6_tryYears_145 : decode cX6_tryYears 145 = .ok (.iload_n 2, 1) := by decide +kernel
theorem dX6_tryYears_146 : decode cX6_tryYears 146 = .ok (.iload 5, 2) := by decide +kernel
theorem dX6_tryYears_148 : decode cX6_tryYears 148 = .ok (.invokestatic 89, 3) := by decide +kernel
theorem dX6_tryYears_151 : decode cX6_tryYears 151 = .ok (.invokevirtual 63, 3) := by decide +kernel
theorem dX6_tryYears_154 : decode cX6_tryYears 154 = .ok (.aload_n 0, 1) := by decide +kernel
theorem dX6_tryYears_155 : decode cX6_tryYears 155 = .ok (.getfield 15, 3) := by decide +kernel
theorem dX6_tryYears_158 : decode cX6_tryYears 158 = .ok (.iload_n 3, 1) := by decide +kernel
theorem dX6_tryYears_159 : decode cX6_tryYears 159 = .ok (.iload 4, 2) := by decide +kernel
theorem dX6_tryYears_161 : decode cX6_tryYears 161 = .ok (.iastore, 1) := by decide +kernel
theorem dX6_tryYears_162 : decode cX6_tryYears 162 = .ok (.iinc 3 1, 3) := by decide +kernel
theorem dX6_tryYears_165 : decode cX6_tryYears 165 = .ok (.goto (-105), 3) := by decide +kernel
theorem dX6_tryYears_168 : decode cX6_tryYears 168 = .ok (.return_, 1) := by decide +kernel
theorem dX7_init_0 : decode cX7_init 0 = .ok (.aload_n 0, 1) := by decide +kernel
theorem dX7_init_1 : decode cX7_init 1 = .ok (.invokespecial 3, 3) := by decide +kernel
theorem dX7_init_4 : decode cX7_init 4 = .ok (.aload_n 0, 1) := by decide +kernel
theorem dX7_init_5 : decode cX7_init 5 = .ok (.new 9, 3) := by decide +kernel
theorem dX7_init_8 : decode cX7_init 8 = .ok (.dup, 1) := by decide +kernel
theorem dX7_init_9 : decode cX7_init 9 = .ok (.invokespecial 11, 3) := by decide +kernel
theorem dX7_init_12 : decode cX7_init 12 = .ok (.putfield 12, 3) := by decide +kernel
theorem dX7_init_15 : decode cX7_init 15 = .ok (.aload_n 0, 1) := by decide +kernel
theorem dX7_init_16 : decode cX7_init 16 = .ok (.bipush 120, 2) := by decide +kernel
theorem dX7_init_18 : decode cX7_init 18 = .ok (.newarray .int, 2) := by decide +kernel
theorem dX7_init_20 : decode cX7_init 20 = .ok (.putfield 18, 3) := by decide +kernel
theorem dX7_init_23 : decode cX7_init 23 = .ok (.aload_n 0, 1) := by decide +kernel
theorem dX7_init_24 : decode cX7_init 24 = .ok (.iconst 3, 1) := by decide +kernel
theorem dX7_init_25 : decode cX7_init 25 = .ok (.newarray .int, 2) := by decide +kernel
theorem dX7_init_27 : decode cX7_init 27 = .ok (.putfield 22, 3) := by decide +kernel
theorem dX7_init_30 : decode cX7_init 30 = .ok (.return_, 1) := by decide +kernel
theorem dX7_append_0 : decode cX7_append 0 = .ok (.aload_n 0, 1) := by decide +kernel
theorem dX7_append_1 : decode cX7_append 1 = .ok (.getfield 25, 3) := by decide +kernel
theorem dX7_append_4 : decode cX7_append 4 = .ok (.bipush 120, 2) := by decide +kernel
theorem dX7_append_6 : decode cX7_append 6 = .ok (.if_icmp .lt 5, 3) := by decide +kernel
theorem dX7_append_9 : decode cX7_append 9 = .ok (.iconst 0, 1) := by decide +kernel
theorem dX7_append_10 : decode cX7_append 10 = .ok (.ireturn, 1) := by decide +kernel
theorem dX7_append_11 : decode cX7_append 11 = .ok (.aload_n 0, 1) := by decide +kernel
theorem dX7_append_12 : decode cX7_append 12 = .ok (.getfield 18, 3) := by decide +kernel
theorem dX7_append_15 : decode cX7_append 15 = .ok (.aload_n 0, 1) := by decide +kernel
theorem dX7_append_16 : decode cX7_append 16 = .ok (.getfield 25, 3) := by decide +kernel
theorem dX7_append_19 : decode cX7_append 19 = .ok (.iload_n 1, 1) := by decide +kernel
theorem dX7_append_20 : decode cX7_append 20 = .ok (.iastore, 1) := by decide +kernel
theorem dX7_append_21 : decode cX7_append 21 = .ok (.aload_n 0, 1) := by decide +kernel
theorem dX7_append_22 : decode cX7_append 22 = .ok (.dup, 1) := by decide +kernel
theorem dX7_append_23 : decode cX7_append 23 = .ok (.getfield 25, 3) := by decide +kernel
theorem dX7_append_26 : decode cX7_append 26 = .ok (.iconst 1, 1) := by decide +kernel
theorem dX7_append_27 : decode cX7_append 27 = .ok (.iadd, 1) := by decide +kernel
theorem dX7_append_28 : decode cX7_append 28 = .ok (.putfield 25, 3) := by decide +kernel
theorem dX7_append_31 : decode cX7_append 31 = .ok (.iconst 1, 1) := by decide +kernel
theorem dX7_append_32 : decode cX7_append 32 = .ok (.ireturn, 1) := by decide +kernel
theorem dX7_empty_0 : decode cX7_empty 0 = .ok (.aload_n 0, 1) := by decide +kernel
theorem dX7_empty_1 : decode cX7_empty 1 = .ok (.getfield 25, 3) := by decide +kernel
theorem dX7_empty_4 : decode cX7_empty 4 = .ok (.istore_n 1, 1) := by decide +kernel
theorem dX7_empty_5 : decode cX7_empty 5 = .ok (.aload_n 0, 1) := by decide +kernel
theorem dX7_empty_6 : decode cX7_empty 6 = .ok (.iconst 0, 1) := by decide +kernel
theorem dX7_empty_7 : decode cX7_empty 7 = .ok (.putfield 25, 3) := by decide +kernel
theorem dX7_empty_10 : decode cX7_empty 10 = .ok (.iload_n 1, 1) := by decide +kernel
theorem dX7_empty_11 : decode cX7_empty 11 = .ok (.ireturn, 1) := by decide +kernel
theorem dX7_readAll_0 : decode cX7_readAll 0 = .ok (.aload_n 0, 1) := by decide +kernel
theorem dX7_readAll_1 : decode cX7_readAll 1 = .ok (.getfield 12, 3) := by decide +kernel
theorem dX7_readAll_4 : decode cX7_readAll 4 = .ok (.invokevirtual 29, 3) := by decide +kernel
theorem dX7_readAll_7 : decode cX7_readAll 7 = .ok (.aload_n 0, 1) := by decide +kernel
theorem dX7_readAll_8 : decode cX7_readAll 8 = .ok (.iconst 0, 1) := by decide +kernel
theorem dX7_readAll_9 : decode cX7_readAll 9 = .ok (.putfield 32, 3) := by decide +kernel
theorem dX7_readAll_12 : decode cX7_readAll 12 = .ok (.aload_n 0, 1) := by decide +kernel
theorem dX7_readAll_13 : decode cX7_readAll 13 = .ok (.iconst 0, 1) := by decide +kernel
theorem dX7_readAll_14 : decode cX7_readAll 14 = .ok (.putfield 35, 3) := by decide +kernel
theorem dX7_readAll_17 : decode cX7_readAll 17 = .ok (.iconst 0, 1) := by decide +kernel
theorem dX7_readAll_18 : decode cX7_readAll 18 = .ok (.istore_n 1, 1) := by decide +kernel
theorem dX7_readAll_19 : decode cX7_readAll 19 = .ok (.iconst 0, 1) := by decide +kernel
theorem dX7_readAll_20 : decode cX7_readAll 20 = .ok (.istore_n 2, 1) := by decide +kernel
theorem dX7_readAll_21 : decode cX7_readAll 21 = .ok (.iload_n 2, 1) := by decide +kernel
theorem dX7_readAll_22 : decode cX7_readAll 22 = .ok (.bipush 120, 2) := by decide +kernel
theorem dX7_readAll_24 : decode cX7_readAll 24 = .ok (.if_icmp .gt 59, 3) := by decide +kernel
theorem dX7_readAll_27 : decode cX7_readAll 27 = .ok (.aload_n 0, 1) := by decide +kernel
theorem dX7_readAll_28 : decode cX7_readAll 28 = .ok (.invokevirtual 38, 3) := by decide +kernel
theorem dX7_readAll_31 : decode cX7_readAll 31 = .ok (.aload_n 0, 1) := by decide +kernel
theorem dX7_readAll_32 : decode cX7_readAll 32 = .ok (.getfield 41, 3) := by decide +kernel
theorem dX7_readAll_35 : decode cX7_readAll 35 = .ok (.ifCond .ne 12, 3) := by decide +kernel
theorem dX7_readAll_38 : decode cX7_readAll 38 = .ok (.aload_n 0, 1) := by decide +kernel
theorem dX7_readAll_39 : decode cX7_readAll 39 = .ok (.getfield 35, 3) := by decide +kernel
theorem dX7_readAll_42 : decode cX7_readAll 42 = .ok (.ifCond .ne 5, 3) := by decide +kernel
theorem dX7_readAll_45 : decode cX7_readAll 45 = .ok (.iload_n 1, 1) := by decide +kernel
theorem dX7_readAll_46 : decode cX7_readAll 46 = .ok (.ireturn, 1) := by decide +kernel
theorem dX7_readAll_47 : decode cX7_readAll 47 = .ok (.aload_n 0, 1) := by decide +kernel
theorem dX7_readAll_48 : decode cX7_readAll 48 = .ok (.invokevirtual 44, 3) := by decide +kernel
theorem dX7_readAll_51 : decode cX7_readAll 51 = .ok (.ifCond .ne 11, 3) := by decide +kernel
theorem dX7_readAll_54 : decode cX7_readAll 54 = .ok (.bipush (-10), 2) := by decide +kernel
theorem dX7_readAll_56 : decode cX7_readAll 56 = .ok (.aload_n 0, 1) := by decide +kernel
theorem dX7_readAll_57 : decode cX7_readAll 57 = .ok (.getfield 48, 3) := by decide +kernel
theorem dX7_readAll_60 : decode cX7_readAll 60 = .ok (.isub, 1) := by decide +kernel
theorem dX7_readAll_61 : decode cX7_readAll 61 = .ok (.ireturn, 1) := by decide +kernel
theorem dX7_readAll_62 : decode cX7_readAll 62 = .ok (.aload_n 0, 1) := by decide +kernel
theorem dX7_readAll_63 : decode cX7_readAll 63 = .ok (.getfield 41, 3) := by decide +kernel
theorem dX7_readAll_66 : decode cX7_readAll 66 = .ok (.iconst 3, 1) := by decide +kernel
theorem dX7_readAll_67 : decode cX7_readAll 67 = .ok (.if_icmp .ne 6, 3) := by decide +kernel
theorem dX7_readAll_70 : decode cX7_readAll 70 = .ok (.iinc 1 1, 3) := by decide +kernel
theorem dX7_readAll_73 : decode cX7_readAll 73 = .ok (.aload_n 0, 1) := by decide +kernel
theorem dX7_readAll_74 : decode cX7_readAll 74 = .ok (.invokevirtual 51, 3) := by decide +kernel
theorem dX7_readAll_77 : decode cX7_readAll 77 = .ok (.iinc 2 1, 3) := by decide +kernel
theorem dX7_readAll_80 : decode cX7_readAll 80 = .ok (.goto (-59), 3) := by decide +kernel
theorem dX7_readAll_83 : decode cX7_readAll 83 = .ok (.iload_n 1, 1) := by decide +kernel
theorem dX7_readAll_84 : decode cX7_readAll 84 = .ok (.ireturn, 1) := by decide +kernel
theorem dX7_canStand_0 : decode cX7_canStand 0 = .ok (.aload_n 0, 1) := by decide +kernel
theorem dX7_canStand_1 : decode cX7_canStand 1 = .ok (.getfield 35, 3) := by decide +kernel
theorem dX7_canStand_4 : decode cX7_canStand 4 = .ok (.ifCond .ne 24, 3) := by decide +kernel
theorem dX7_canStand_7 : decode cX7_canStand 7 = .ok (.aload_n 0, 1) := by decide +kernel
theorem dX7_canStand_8 : decode cX7_canStand 8 = .ok (.getfield 41, 3) := by decide +kernel
theorem dX7_canStand_11 : decode cX7_canStand 11 = .ok (.iconst 1, 1) := by decide +kernel
theorem dX7_canStand_12 : decode cX7_canStand 12 = .ok (.if_icmp .ne 14, 3) := by decide +kernel
theorem dX7_canStand_15 : decode cX7_canStand 15 = .ok (.aload_n 0, 1) := by decide +kernel
theorem dX7_canStand_16 : decode cX7_canStand 16 = .ok (.invokevirtual 54, 3) := by decide +kernel
theorem dX7_canStand_19 : decode cX7_canStand 19 = .ok (.ifCond .eq 7, 3) := by decide +kernel
theorem dX7_canStand_22 : decode cX7_canStand 22 = .ok (.iconst 1, 1) := by decide +kernel
theorem dX7_canStand_23 : decode cX7_canStand 23 = .ok (.goto 4, 3) := by decide +kernel
theorem dX7_canStand_26 : decode cX7_canStand 26 = .ok (.iconst 0, 1) := by decide +kernel
theorem dX7_canStand_27 : decode cX7_canStand 27 = .ok (.ireturn, 1) := by decide +kernel
theorem dX7_canStand_28 : decode cX7_canStand 28 = .ok (.aload_n 0, 1) := by decide +kernel
theorem dX7_canStand_29 : decode cX7_canStand 29 = .ok (.getfield 57, 3) := by decide +kernel
theorem dX7_canStand_32 : decode cX7_canStand 32 = .ok (.aload_n 0, 1) := by decide +kernel
theorem dX7_canStand_33 : decode cX7_canStand 33 = .ok (.invokevirtual 60, 3) := by decide +kernel
theorem dX7_canStand_36 : decode cX7_canStand 36 = .ok (.if_icmp .ge 24, 3) := by decide +kernel
theorem dX7_canStand_39 : decode cX7_canStand 39 = .ok (.aload_n 0, 1) := by decide +kernel
theorem dX7_canStand_40 : decode cX7_canStand 40 = .ok (.getfield 41, 3) := by decide +kernel
theorem dX7_canStand_43 : decode cX7_canStand 43 = .ok (.iconst 2, 1) := by decide +kernel
theorem dX7_canStand_44 : decode cX7_canStand 44 = .ok (.if_icmp .ne 14, 3) := by decide +kernel
theorem dX7_canStand_47 : decode cX7_canStand 47 = .ok (.aload_n 0, 1) := by decide +kernel
theorem dX7_canStand_48 : decode cX7_canStand 48 = .ok (.invokevirtual 64, 3) := by decide +kernel
theorem dX7_canStand_51 : decode cX7_canStand 51 = .ok (.ifCond .eq 7, 3) := by decide +kernel
theorem dX7_canStand_54 : decode cX7_canStand 54 = .ok (.iconst 1, 1) := by decide +kernel
theorem dX7_canStand_55 : decode cX7_canStand 55 = .ok (.goto 4, 3) := by decide +kernel
theorem dX7_canStand_58 : decode cX7_canStand 58 = .ok (.iconst 0, 1) := by decide +kernel
theorem dX7_canStand_59 : decode cX7_canStand 59 = .ok (.ireturn, 1) := by decide +kernel
theorem dX7_canStand_60 : decode cX7_canStand 60 = .ok (.aload_n 0, 1) := by decide +kernel
theorem dX7_canStand_61 : decode cX7_canStand 61 = .ok (.getfield 41, 3) := by decide +kernel
theorem dX7_canStand_64 : decode cX7_canStand 64 = .ok (.iconst 3, 1) := by decide +kernel
theorem dX7_canStand_65 : decode cX7_canStand 65 = .ok (.if_icmp .ne 7, 3) := by decide +kernel
theorem dX7_canStand_68 : decode cX7_canStand 68 = .ok (.iconst 1, 1) := by decide +kernel
theorem dX7_canStand_69 : decode cX7_canStand 69 = .ok (.goto 4, 3) := by decide +kernel
theorem dX7_canStand_72 : decode cX7_canStand 72 = .ok (.iconst 0, 1) := by decide +kernel
theorem dX7_canStand_73 : decode cX7_canStand 73 = .ok (.ireturn, 1) := by decide +kernel
theorem dX7_canBeginItem_0 : decode cX7_canBeginItem 0 = .ok (.aload_n 0, 1) := by decide +kernel
theorem dX7_canBeginItem_1 : decode cX7_canBeginItem 1 = .ok (.getfield 67, 3) := by decide +kernel
theorem dX7_canBeginItem_4 : decode cX7_canBeginItem 4 = .ok (.lookupswitch 73 #[(110, 54), (116, 36), (120, 71)], 36) := by decide +kernel
theorem dX7_canBeginItem_40 : decode cX7_canBeginItem 40 = .ok (.aload_n 0, 1) := by decide +kernel
theorem dX7_canBeginItem_41 : decode cX7_canBeginItem 41 = .ok (.getfield 12, 3) := by decide +kernel
theorem dX7_canBeginItem_44 : decode cX7_canBeginItem 44 = .ok (.getfield 70, 3) := by decide +kernel
theorem dX7_canBeginItem_47 : decode cX7_canBeginItem 47 = .ok (.bipush 6, 2) := by decide +kernel
theorem dX7_canBeginItem_49 : decode cX7_canBeginItem 49 = .ok (.if_icmp .ge 7, 3) := by decide +kernel
theorem dX7_canBeginItem_52 : decode cX7_canBeginItem 52 = .ok (.iconst 1, 1) := by decide +kernel
theorem dX7_canBeginItem_53 : decode cX7_canBeginItem 53 = .ok (.goto 4, 3) := by decide +kernel
theorem dX7_canBeginItem_56 : decode cX7_canBeginItem 56 = .ok (.iconst 0, 1) := by decide +kernel
theorem dX7_canBeginItem_57 : decode cX7_canBeginItem 57 = .ok (.ireturn, 1) := by decide +kernel
theorem dX7_canBeginItem_58 : decode cX7_canBeginItem 58 = .ok (.aload_n 0, 1) := by decide +kernel
theorem dX7_canBeginItem_59 : decode cX7_canBeginItem 59 = .ok (.getfield 12, 3) := by decide +kernel
theorem dX7_canBeginItem_62 : decode cX7_canBeginItem 62 = .ok (.getfield 73, 3) := by decide +kernel
theorem dX7_canBeginItem_65 : decode cX7_canBeginItem 65 = .ok (.iconst 4, 1) := by decide +kernel
theorem dX7_canBeginItem_66 : decode cX7_canBeginItem 66 = .ok (.if_icmp .ge 7, 3) := by decide +kernel
theorem dX7_canBeginItem_69 : decode cX7_canBeginItem 69 = .ok (.iconst 1, 1) := by decide +kernel
theorem dX7_canBeginItem_70 : decode cX7_canBeginItem 70 = .ok (.goto 4, 3) := by decide +kernel
theorem dX7_canBeginItem_73 : decode cX7_canBeginItem 73 = .ok (.iconst 0, 1) := by decide +kernel
theorem dX7_canBeginItem_74 : decode cX7_canBeginItem 74 = .ok (.ireturn, 1) := by decide +kernel
theorem dX7_canBeginItem_75 : decode cX7_canBeginItem 75 = .ok (.iconst 1, 1) := by decide +kernel
theorem dX7_canBeginItem_76 : decode cX7_canBeginItem 76 = .ok (.ireturn, 1) := by decide +kernel
theorem dX7_canBeginItem_77 : decode cX7_canBeginItem 77 = .ok (.iconst 0, 1) := by decide +kernel
theorem dX7_canBeginItem_78 : decode cX7_canBeginItem 78 = .ok (.ireturn, 1) := by decide +kernel
theorem dX7_canBeTold_0 : decode cX7_canBeTold 0 = .ok (.aload_n 0, 1) := by decide +kernel
theorem dX7_canBeTold_1 : decode cX7_canBeTold 1 = .ok (.getfield 57, 3) := by decide +kernel
theorem dX7_canBeTold_4 : decode cX7_canBeTold 4 = .ok (.istore_n 1, 1) := by decide +kernel
theorem dX7_canBeTold_5 : decode cX7_canBeTold 5 = .ok (.iload_n 1, 1) := by decide +kernel
theorem dX7_canBeTold_6 : decode cX7_canBeTold 6 = .ok (.iconst 0, 1) := by decide +kernel
theorem dX7_canBeTold_7 : decode cX7_canBeTold 7 = .ok (.iconst 2, 1) := by decide +kernel
theorem dX7_canBeTold_8 : decode cX7_canBeTold 8 = .ok (.invokestatic 76, 3) := by decide +kernel
theorem dX7_canBeTold_11 : decode cX7_canBeTold 11 = .ok (.ifCond .ne 5, 3) := by decide +kernel
theorem dX7_canBeTold_14 : decode cX7_canBeTold 14 = .ok (.iconst 0, 1) := by decide +kernel
theorem dX7_canBeTold_15 : decode cX7_canBeTold 15 = .ok (.ireturn, 1) := by decide +kernel
theorem dX7_canBeTold_16 : decode cX7_canBeTold 16 = .ok (.aload_n 0, 1) := by decide +kernel
theorem dX7_canBeTold_17 : decode cX7_canBeTold 17 = .ok (.getfield 35, 3) := by decide +kernel
theorem dX7_canBeTold_20 : decode cX7_canBeTold 20 = .ok (.lookupswitch 64 #[(110, 46), (116, 28)], 28) := by decide +kernel
theorem dX7_canBeTold_48 : decode cX7_canBeTold 48 = .ok (.aload_n 0, 1) := by decide +kernel
theorem dX7_canBeTold_49 : decode cX7_canBeTold 49 = .ok (.getfield 67, 3) := by decide +kernel
theorem dX7_canBeTold_52 : decode cX7_canBeTold 52 = .ok (.getstatic 80, 3) := by decide +kernel
theorem dX7_canBeTold_55 : decode cX7_canBeTold 55 = .ok (.iload_n 1, 1) := by decide +kernel
theorem dX7_canBeTold_56 : decode cX7_canBeTold 56 = .ok (.iaload, 1) := by decide +kernel
theorem dX7_canBeTold_57 : decode cX7_canBeTold 57 = .ok (.getstatic 83, 3) := by decide +kernel
theorem dX7_canBeTold_60 : decode cX7_canBeTold 60 = .ok (.iload_n 1, 1) := by decide +kernel
theorem dX7_canBeTold_61 : decode cX7_canBeTold 61 = .ok (.iaload, 1) := by decide +kernel
theorem dX7_canBeTold_62 : decode cX7_canBeTold 62 = .ok (.invokestatic 76, 3) := by decide +kernel
theorem dX7_canBeTold_65 : decode cX7_canBeTold 65 = .ok (.ireturn, 1) := by decide +kernel
theorem dX7_canBeTold_66 : decode cX7_canBeTold 66 = .ok (.aload_n 0, 1) := by decide +kernel
theorem dX7_canBeTold_67 : decode cX7_canBeTold 67 = .ok (.getfield 67, 3) := by decide +kernel
theorem dX7_canBeTold_70 : decode cX7_canBeTold 70 = .ok (.getstatic 86, 3) := by decide +kernel
theorem dX7_canBeTold_73 : decode cX7_canBeTold 73 = .ok (.iload_n 1, 1) := by decide +kernel
theorem dX7_canBeTold_74 : decode cX7_canBeTold 74 = .ok (.iaload, 1) := by decide +kernel
theorem dX7_canBeTold_75 : decode cX7_canBeTold 75 = .ok (.getstatic 89, 3) := by decide +kernel
theorem dX7_canBeTold_78 : decode cX7_canBeTold 78 = .ok (.iload_n 1, 1) := by decide +kernel
theorem dX7_canBeTold_79 : decode cX7_canBeTold 79 = .ok (.iaload, 1) := by decide +kernel
theorem dX7_canBeTold_80 : decode cX7_canBeTold 80 = .ok (.invokestatic 76, 3) := by decide +kernel
theorem dX7_canBeTold_83 : decode cX7_canBeTold 83 = .ok (.ireturn, 1) := by decide +kernel
theorem dX7_canBeTold_84 : decode cX7_canBeTold 84 = .ok (.aload_n 0, 1) := by decide +kernel
theorem dX7_canBeTold_85 : decode cX7_canBeTold 85 = .ok (.getfield 12, 3) := by decide +kernel
theorem dX7_canBeTold_88 : decode cX7_canBeTold 88 = .ok (.aload_n 0, 1) := by decide +kernel
theorem dX7_canBeTold_89 : decode cX7_canBeTold 89 = .ok (.getfield 67, 3) := by decide +kernel
theorem dX7_canBeTold_92 : decode cX7_canBeTold 92 = .ok (.invokevirtual 92, 3) := by decide +kernel
theorem dX7_canBeTold_95 : decode cX7_canBeTold 95 = .ok (.ifCond .eq 24, 3) := by decide +kernel
theorem dX7_canBeTold_98 : decode cX7_canBeTold 98 = .ok (.iload_n 1, 1) := by decide +kernel
theorem dX7_canBeTold_99 : decode cX7_canBeTold 99 = .ok (.ifCond .eq 16, 3) := by decide +kernel
theorem dX7_canBeTold_102 : decode cX7_canBeTold 102 = .ok (.aload_n 0, 1) := by decide +kernel
theorem dX7_canBeTold_103 : decode cX7_canBeTold 103 = .ok (.getfield 67, 3) := by decide +kernel
theorem dX7_canBeTold_106 : decode cX7_canBeTold 106 = .ok (.aload_n 0, 1) := by decide +kernel
theorem dX7_canBeTold_107 : decode cX7_canBeTold 107 = .ok (.getfield 22, 3) := by decide +kernel
theorem dX7_canBeTold_110 : decode cX7_canBeTold 110 = .ok (.iconst 0, 1) := by decide +kernel
theorem dX7_canBeTold_111 : decode cX7_canBeTold 111 = .ok (.iaload, 1) := by decide +kernel
theorem dX7_canBeTold_112 : decode cX7_canBeTold 112 = .ok (.if_icmp .eq 7, 3) := by decide +kernel
theorem dX7_canBeTold_115 : decode cX7_canBeTold 115 = .ok (.iconst 1, 1) := by decide +kernel
theorem dX7_canBeTold_116 : decode cX7_canBeTold 116 = .ok (.goto 4, 3) := by decide +kernel
theorem dX7_canBeTold_119 : decode cX7_canBeTold 119 = .ok (.iconst 0, 1) := by decide +kernel
theorem dX7_canBeTold_120 : decode cX7_canBeTold 120 = .ok (.ireturn, 1) := by decide +kernel
theorem dX7_numbersOfItem_0 : decode cX7_numbersOfItem 0 = .ok (.aload_n 0, 1) := by decide +kernel
theorem dX7_numbersOfItem_1 : decode cX7_numbersOfItem 1 = .ok (.getfield 35, 3) := by decide +kernel
theorem dX7_numbersOfItem_4 : decode cX7_numbersOfItem 4 = .ok (.bipush 120, 2) := by decide +kernel
theorem dX7_numbersOfItem_6 : decode cX7_numbersOfItem 6 = .ok (.if_icmp .ne 7, 3) := by decide +kernel
theorem dX7_numbersOfItem_9 : decode cX7_numbersOfItem 9 = .ok (.iconst 2, 1) := by decide +kernel
theorem dX7_numbersOfItem_10 : decode cX7_numbersOfItem 10 = .ok (.goto 4, 3) := by decide +kernel
theorem dX7_numbersOfItem_13 : decode cX7_numbersOfItem 13 = .ok (.iconst 3, 1) := by decide +kernel
theorem dX7_numbersOfItem_14 : decode cX7_numbersOfItem 14 = .ok (.ireturn, 1) := by decide +kernel
theorem dX7_takeToken_0 : decode cX7_takeToken 0 = .ok (.aload_n 0, 1) := by decide +kernel
theorem dX7_takeToken_1 : decode cX7_takeToken 1 = .ok (.getfield 41, 3) := by decide +kernel
theorem dX7_takeToken_4 : decode cX7_takeToken 4 = .ok (.iconst 1, 1) := by decide +kernel
theorem dX7_takeToken_5 : decode cX7_takeToken 5 = .ok (.if_icmp .ne 19, 3) := by decide +kernel
theorem dX7_takeToken_8 : decode cX7_takeToken 8 = .ok (.aload_n 0, 1) := by decide +kernel
theorem dX7_takeToken_9 : decode cX7_takeToken 9 = .ok (.aload_n 0, 1) := by decide +kernel
theorem dX7_takeToken_10 : decode cX7_takeToken 10 = .ok (.getfield 67, 3) := by decide +kernel
theorem dX7_takeToken_13 : decode cX7_takeToken 13 = .ok (.putfield 35, 3) := by decide +kernel
theorem dX7_takeToken_16 : decode cX7_takeToken 16 = .ok (.aload_n 0, 1) := by decide +kernel
theorem dX7_takeToken_17 : decode cX7_takeToken 17 = .ok (.iconst 0, 1) := by decide +kernel
theorem dX7_takeToken_18 : decode cX7_takeToken 18 = .ok (.putfield 57, 3) := by decide +kernel
theorem dX7_takeToken_21 : decode cX7_takeToken 21 = .ok (.goto 54, 3) := by decide +kernel
theorem dX7_takeToken_24 : decode cX7_takeToken 24 = .ok (.aload_n 0, 1) := by decide +kernel
theorem dX7_takeToken_25 : decode cX7_takeToken 25 = .ok (.getfield 41, 3) := by decide +kernel
theorem dX7_takeToken_28 : decode cX7_takeToken 28 = .ok (.iconst 2, 1) := by decide +kernel
theorem dX7_takeToken_29 : decode cX7_takeToken 29 = .ok (.if_icmp .ne 37, 3) := by decide +kernel
theorem dX7_takeToken_32 : decode cX7_takeToken 32 = .ok (.aload_n 0, 1) := by decide +kernel
theorem dX7_takeToken_33 : decode cX7_takeToken 33 = .ok (.getfield 57, 3) := by decide +kernel
theorem dX7_takeToken_36 : decode cX7_takeToken 36 = .ok (.iconst 3, 1) := by decide +kernel
theorem dX7_takeToken_37 : decode cX7_takeToken 37 = .ok (.if_icmp .ge 29, 3) := by decide +kernel
theorem dX7_takeToken_40 : decode cX7_takeToken 40 = .ok (.aload_n 0, 1) := by decide +kernel
theorem dX7_takeToken_41 : decode cX7_takeToken 41 = .ok (.getfield 22, 3) := by decide +kernel
theorem dX7_takeToken_44 : decode cX7_takeToken 44 = .ok (.aload_n 0, 1) := by decide +kernel
theorem dX7_takeToken_45 : decode cX7_takeToken 45 = .ok (.getfield 57, 3) := by decide +kernel
theorem dX7_takeToken_48 : decode cX7_takeToken 48 = .ok (.aload_n 0, 1) := by decide +kernel
theorem dX7_takeToken_49 : decode cX7_takeToken 49 = .ok (.getfield 67, 3) := by decide +kernel
theorem dX7_takeToken_52 : decode cX7_takeToken 52 = .ok (.iastore, 1) := by decide +kernel
theorem dX7_takeToken_53 : decode cX7_takeToken 53 = .ok (.aload_n 0, 1) := by decide +kernel
theorem dX7_takeToken_54 : decode cX7_takeToken 54 = .ok (.dup, 1) := by decide +kernel
theorem dX7_takeToken_55 : decode cX7_takeToken 55 = .ok (.getfield 57, 3) := by decide +kernel
theorem dX7_takeToken_58 : decode cX7_takeToken 58 = .ok (.iconst 1, 1) := by decide +kernel
theorem dX7_takeToken_59 : decode cX7_takeToken 59 = .ok (.iadd, 1) := by decide +kernel
theorem dX7_takeToken_60 : decode cX7_takeToken 60 = .ok (.putfield 57, 3) := by decide +kernel
theorem dX7_takeToken_63 : decode cX7_takeToken 63 = .ok (.goto 12, 3) := by decide +kernel
theorem dX7_takeToken_66 : decode cX7_takeToken 66 = .ok (.aload_n 0, 1) := by decide +kernel
theorem dX7_takeToken_67 : decode cX7_takeToken 67 = .ok (.invokevirtual 96, 3) := by decide +kernel
theorem dX7_takeToken_70 : decode cX7_takeToken 70 = .ok (.aload_n 0, 1) := by decide +kernel
theorem dX7_takeToken_71 : decode cX7_takeToken 71 = .ok (.iconst 0, 1) := by decide +kernel
theorem dX7_takeToken_72 : decode cX7_takeToken 72 = .ok (.putfield 35, 3) := by decide +kernel
theorem dX7_takeToken_75 : decode cX7_takeToken 75 = .ok (.return_, 1) := by decide +kernel
theorem dX7_takeItem_0 : decode cX7_takeItem 0 = .ok (.aload_n 0, 1) := by decide +kernel
theorem dX7_takeItem_1 : decode cX7_takeItem 1 = .ok (.getfield 35, 3) := by decide +kernel
theorem dX7_takeItem_4 : decode cX7_takeItem 4 = .ok (.lookupswitch 84 #[(110, 56), (116, 28)], 28) := by decide +kernel
theorem dX7_takeItem_32 : decode cX7_takeItem 32 = .ok (.aload_n 0, 1) := by decide +kernel
theorem dX7_takeItem_33 : decode cX7_takeItem 33 = .ok (.getfield 12, 3) := by decide +kernel
theorem dX7_takeItem_36 : decode cX7_takeItem 36 = .ok (.aload_n 0, 1) := by decide +kernel
theorem dX7_takeItem_37 : decode cX7_takeItem 37 = .ok (.getfield 22, 3) := by decide +kernel
theorem dX7_takeItem_40 : decode cX7_takeItem 40 = .ok (.iconst 0, 1) := by decide +kernel
theorem dX7_takeItem_41 : decode cX7_takeItem 41 = .ok (.iaload, 1) := by decide +kernel
theorem dX7_takeItem_42 : decode cX7_takeItem 42 = .ok (.aload_n 0, 1) := by decide +kernel
theorem dX7_takeItem_43 : decode cX7_takeItem 43 = .ok (.getfield 22, 3) := by decide +kernel
theorem dX7_takeItem_46 : decode cX7_takeItem 46 = .ok (.iconst 1, 1) := by decide +kernel
theorem dX7_takeItem_47 : decode cX7_takeItem 47 = .ok (.iaload, 1) := by decide +kernel
theorem dX7_takeItem_48 : decode cX7_takeItem 48 = .ok (.aload_n 0, 1) := by decide +kernel
theorem dX7_takeItem_49 : decode cX7_takeItem 49 = .ok (.getfield 22, 3) := by decide +kernel
theorem dX7_takeItem_52 : decode cX7_takeItem 52 = .ok (.iconst 2, 1) := by decide +kernel
theorem dX7_takeItem_53 : decode cX7_takeItem 53 = .ok (.iaload, 1) := by decide +kernel
theorem dX7_takeItem_54 : decode cX7_takeItem 54 = .ok (.invokevirtual 99, 3) := by decide +kernel
theorem dX7_takeItem_57 : decode cX7_takeItem 57 = .ok (.goto 50, 3) := by decide +kernel
theorem dX7_takeItem_60 : decode cX7_takeItem 60 = .ok (.aload_n 0, 1) := by decide +kernel
theorem dX7_takeItem_61 : decode cX7_takeItem 61 = .ok (.getfield 12, 3) := by decide +kernel
theorem dX7_takeItem_64 : decode cX7_takeItem 64 = .ok (.aload_n 0, 1) := by decide +kernel
theorem dX7_takeItem_65 : decode cX7_takeItem 65 = .ok (.getfield 22, 3) := by decide +kernel
theorem dX7_takeItem_68 : decode cX7_takeItem 68 = .ok (.iconst 0, 1) := by decide +kernel
theorem dX7_takeItem_69 : decode cX7_takeItem 69 = .ok (.iaload, 1) := by decide +kernel
theorem dX7_takeItem_70 : decode cX7_takeItem 70 = .ok (.aload_n 0, 1) := by decide +kernel
theorem dX7_takeItem_71 : decode cX7_takeItem 71 = .ok (.getfield 22, 3) := by decide +kernel
theorem dX7_takeItem_74 : decode cX7_takeItem 74 = .ok (.iconst 1, 1) := by decide +kernel
theorem dX7_takeItem_75 : decode cX7_takeItem 75 = .ok (.iaload, 1) := by decide +kernel
theorem dX7_takeItem_76 : decode cX7_takeItem 76 = .ok (.aload_n 0, 1) := by decide +kernel
theorem dX7_takeItem_77 : decode cX7_takeItem 77 = .ok (.getfield 22, 3) := by decide +kernel
theorem dX7_takeItem_80 : decode cX7_takeItem 80 = .ok (.iconst 2, 1) := by decide +kernel
theorem dX7_takeItem_81 : decode cX7_takeItem 81 = .ok (.iaload, 1) := by decide +kernel
theorem dX7_takeItem_82 : decode cX7_takeItem 82 = .ok (.invokevirtual 103, 3) := by decide +kernel
theorem dX7_takeItem_85 : decode cX7_takeItem 85 = .ok (.goto 22, 3) := by decide +kernel
theorem dX7_takeItem_88 : decode cX7_takeItem 88 = .ok (.aload_n 0, 1) := by decide +kernel
theorem dX7_takeItem_89 : decode cX7_takeItem 89 = .ok (.getfield 12, 3) := by decide +kernel
theorem dX7_takeItem_92 : decode cX7_takeItem 92 = .ok (.aload_n 0, 1) := by decide +kernel
theorem dX7_takeItem_93 : decode cX7_takeItem 93 = .ok (.getfield 22, 3) := by decide +kernel
theorem dX7_takeItem_96 : decode cX7_takeItem 96 = .ok (.iconst 0, 1) := by decide +kernel
theorem dX7_takeItem_97 : decode cX7_takeItem 97 = .ok (.iaload, 1) := by decide +kernel
theorem dX7_takeItem_98 : decode cX7_takeItem 98 = .ok (.aload_n 0, 1) := by decide +kernel
theorem dX7_takeItem_99 : decode cX7_takeItem 99 = .ok (.getfield 22, 3) := by decide +kernel
theorem dX7_takeItem_102 : decode cX7_takeItem 102 = .ok (.iconst 1, 1) := by decide +kernel
theorem dX7_takeItem_103 : decode cX7_takeItem 103 = .ok (.iaload, 1) := by decide +kernel
theorem dX7_takeItem_104 : decode cX7_takeItem 104 = .ok (.invokevirtual 106, 3) := by decide +kernel
theorem dX7_takeItem_107 : decode cX7_takeItem 107 = .ok (.return_, 1) := by decide +kernel
theorem dX7_readToken_0 : decode cX7_readToken 0 = .ok (.aload_n 0, 1) := by decide +kernel
theorem dX7_readToken_1 : decode cX7_readToken 1 = .ok (.aload_n 0, 1) := by decide +kernel
theorem dX7_readToken_2 : decode cX7_readToken 2 = .ok (.getfield 32, 3) := by decide +kernel
theorem dX7_readToken_5 : decode cX7_readToken 5 = .ok (.putfield 48, 3) := by decide +kernel
theorem dX7_readToken_8 : decode cX7_readToken 8 = .ok (.aload_n 0, 1) := by decide +kernel
theorem dX7_readToken_9 : decode cX7_readToken 9 = .ok (.getfield 48, 3) := by decide +kernel
theorem dX7_readToken_12 : decode cX7_readToken 12 = .ok (.aload_n 0, 1) := by decide +kernel
theorem dX7_readToken_13 : decode cX7_readToken 13 = .ok (.getfield 25, 3) := by decide +kernel
theorem dX7_readToken_16 : decode cX7_readToken 16 = .ok (.if_icmp .ge 29, 3) := by decide +kernel
theorem dX7_readToken_19 : decode cX7_readToken 19 = .ok (.aload_n 0, 1) := by decide +kernel
theorem dX7_readToken_20 : decode cX7_readToken 20 = .ok (.aload_n 0, 1) := by decide +kernel
theorem dX7_readToken_21 : decode cX7_readToken 21 = .ok (.getfield 48, 3) := by decide +kernel
theorem dX7_readToken_24 : decode cX7_readToken 24 = .ok (.invokevirtual 110, 3) := by decide +kernel
theorem dX7_readToken_27 : decode cX7_readToken 27 = .ok (.bipush 32, 2) := by decide +kernel
theorem dX7_readToken_29 : decode cX7_readToken 29 = .ok (.if_icmp .ne 16, 3) := by decide +kernel
theorem dX7_readToken_32 : decode cX7_readToken 32 = .ok (.aload_n 0, 1) := by decide +kernel
theorem dX7_readToken_33 : decode cX7_readToken 33 = .ok (.dup, 1) := by decide +kernel
theorem dX7_readToken_34 : decode cX7_readToken 34 = .ok (.getfield 48, 3) := by decide +kernel
theorem dX7_readToken_37 : decode cX7_readToken 37 = .ok (.iconst 1, 1) := by decide +kernel
theorem dX7_readToken_38 : decode cX7_readToken 38 = .ok (.iadd, 1) := by decide +kernel
theorem dX7_readToken_39 : decode cX7_readToken 39 = .ok (.putfield 48, 3) := by decide +kernel
theorem dX7_readToken_42 : decode cX7_readToken 42 = .ok (.goto (-34), 3) := by decide +kernel
theorem dX7_readToken_45 : decode cX7_readToken 45 = .ok (.aload_n 0, 1) := by decide +kernel
theorem dX7_readToken_46 : decode cX7_readToken 46 = .ok (.aload_n 0, 1) := by decide +kernel
theorem dX7_readToken_47 : decode cX7_readToken 47 = .ok (.getfield 48, 3) := by decide +kernel
theorem dX7_readToken_50 : decode cX7_readToken 50 = .ok (.putfield 32, 3) := by decide +kernel
theorem dX7_readToken_53 : decode cX7_readToken 53 = .ok (.aload_n 0, 1) := by decide +kernel
theorem dX7_readToken_54 : decode cX7_readToken 54 = .ok (.iconst 0, 1) := by decide +kernel
theorem dX7_readToken_55 : decode cX7_readToken 55 = .ok (.putfield 67, 3) := by decide +kernel
theorem dX7_readToken_58 : decode cX7_readToken 58 = .ok (.aload_n 0, 1) := by decide +kernel
theorem dX7_readToken_59 : decode cX7_readToken 59 = .ok (.getfield 48, 3) := by decide +kernel
theorem dX7_readToken_62 : decode cX7_readToken 62 = .ok (.aload_n 0, 1) := by decide +kernel
theorem dX7_readToken_63 : decode cX7_readToken 63 = .ok (.getfield 25, 3) := by decide +kernel
theorem dX7_readToken_66 : decode cX7_readToken 66 = .ok (.if_icmp .lt 11, 3) := by decide +kernel
theorem dX7_readToken_69 : decode cX7_readToken 69 = .ok (.aload_n 0, 1) := by decide +kernel
theorem dX7_readToken_70 : decode cX7_readToken 70 = .ok (.iconst 0, 1) := by decide +kernel
theorem dX7_readToken_71 : decode cX7_readToken 71 = .ok (.putfield 41, 3) := by decide +kernel
theorem dX7_readToken_74 : decode cX7_readToken 74 = .ok (.goto 71, 3) := by decide +kernel
theorem dX7_readToken_77 : decode cX7_readToken 77 = .ok (.aload_n 0, 1) := by decide +kernel
theorem dX7_readToken_78 : decode cX7_readToken 78 = .ok (.aload_n 0, 1) := by decide +kernel
theorem dX7_readToken_79 : decode cX7_readToken 79 = .ok (.getfield 48, 3) := by decide +kernel
theorem dX7_readToken_82 : decode cX7_readToken 82 = .ok (.invokevirtual 114, 3) := by decide +kernel
theorem dX7_readToken_85 : decode cX7_readToken 85 = .ok (.ifCond .eq 10, 3) := by decide +kernel
theorem dX7_readToken_88 : decode cX7_readToken 88 = .ok (.aload_n 0, 1) := by decide +kernel
theorem dX7_readToken_89 : decode cX7_readToken 89 = .ok (.invokevirtual 117, 3) := by decide +kernel
theorem dX7_readToken_92 : decode cX7_readToken 92 = .ok (.goto 53, 3) := by decide +kernel
theorem dX7_readToken_95 : decode cX7_readToken 95 = .ok (.aload_n 0, 1) := by decide +kernel
theorem dX7_readToken_96 : decode cX7_readToken 96 = .ok (.aload_n 0, 1) := by decide +kernel
theorem dX7_readToken_97 : decode cX7_readToken 97 = .ok (.getfield 48, 3) := by decide +kernel
theorem dX7_readToken_100 : decode cX7_readToken 100 = .ok (.invokevirtual 120, 3) := by decide +kernel
theorem dX7_readToken_103 : decode cX7_readToken 103 = .ok (.ifCond .eq 10, 3) := by decide +kernel
theorem dX7_readToken_106 : decode cX7_readToken 106 = .ok (.aload_n 0, 1) := by decide +kernel
theorem dX7_readToken_107 : decode cX7_readToken 107 = .ok (.invokevirtual 123, 3) := by decide +kernel
theorem dX7_readToken_110 : decode cX7_readToken 110 = .ok (.goto 35, 3) := by decide +kernel
theorem dX7_readToken_113 : decode cX7_readToken 113 = .ok (.aload_n 0, 1) := by decide +kernel
theorem dX7_readToken_114 : decode cX7_readToken 114 = .ok (.aload_n 0, 1) := by decide +kernel
theorem dX7_readToken_115 : decode cX7_readToken 115 = .ok (.aload_n 0, 1) := by decide +kernel
theorem dX7_readToken_116 : decode cX7_readToken 116 = .ok (.getfield 48, 3) := by decide +kernel
theorem dX7_readToken_119 : decode cX7_readToken 119 = .ok (.invokevirtual 110, 3) := by decide +kernel
theorem dX7_readToken_122 : decode cX7_readToken 122 = .ok (.bipush 59, 2) := by decide +kernel
theorem dX7_readToken_124 : decode cX7_readToken 124 = .ok (.if_icmp .ne 7, 3) := by decide +kernel
theorem dX7_readToken_127 : decode cX7_readToken 127 = .ok (.iconst 3, 1) := by decide +kernel
theorem dX7_readToken_128 : decode cX7_readToken 128 = .ok (.goto 4, 3) := by decide +kernel
theorem dX7_readToken_131 : decode cX7_readToken 131 = .ok (.iconst 4, 1) := by decide +kernel
theorem dX7_readToken_132 : decode cX7_readToken 132 = .ok (.putfield 41, 3) := by decide +kernel
theorem dX7_readToken_135 : decode cX7_readToken 135 = .ok (.aload_n 0, 1) := by decide +kernel
theorem dX7_readToken_136 : decode cX7_readToken 136 = .ok (.aload_n 0, 1) := by decide +kernel
theorem dX7_readToken_137 : decode cX7_readToken 137 = .ok (.getfield 48, 3) := by decide +kernel
theorem dX7_readToken_140 : decode cX7_readToken 140 = .ok (.iconst 1, 1) := by decide +kernel
theorem dX7_readToken_141 : decode cX7_readToken 141 = .ok (.iadd, 1) := by decide +kernel
theorem dX7_readToken_142 : decode cX7_readToken 142 = .ok (.putfield 32, 3) := by decide +kernel
theorem dX7_readToken_145 : decode cX7_readToken 145 = .ok (.return_, 1) := by decide +kernel
theorem dX7_readLetters_0 : decode cX7_readLetters 0 = .ok (.aload_n 0, 1) := by decide +kernel
theorem dX7_readLetters_1 : decode cX7_readLetters 1 = .ok (.iconst 1, 1) := by decide +kernel
theorem dX7_readLetters_2 : decode cX7_readLetters 2 = .ok (.putfield 41, 3) := by decide +kernel
theorem dX7_readLetters_5 : decode cX7_readLetters 5 = .ok (.aload_n 0, 1) := by decide +kernel
theorem dX7_readLetters_6 : decode cX7_readLetters 6 = .ok (.getfield 32, 3) := by decide +kernel
theorem dX7_readLetters_9 : decode cX7_readLetters 9 = .ok (.aload_n 0, 1) := by decide +kernel
theorem dX7_readLetters_10 : decode cX7_readLetters 10 = .ok (.getfield 25, 3) := by decide +kernel
theorem dX7_readLetters_13 : decode cX7_readLetters 13 = .ok (.if_icmp .ge 27, 3) := by decide +kernel
theorem dX7_readLetters_16 : decode cX7_readLetters 16 = .ok (.aload_n 0, 1) := by decide +kernel
theorem dX7_readLetters_17 : decode cX7_readLetters 17 = .ok (.aload_n 0, 1) := by decide +kernel
theorem dX7_readLetters_18 : decode cX7_readLetters 18 = .ok (.getfield 32, 3) := by decide +kernel
theorem dX7_readLetters_21 : decode cX7_readLetters 21 = .ok (.invokevirtual 114, 3) := by decide +kernel
theorem dX7_readLetters_24 : decode cX7_readLetters 24 = .ok (.ifCond .eq 16, 3) := by decide +kernel
theorem dX7_readLetters_27 : decode cX7_readLetters 27 = .ok (.aload_n 0, 1) := by decide +kernel
theorem dX7_readLetters_28 : decode cX7_readLetters 28 = .ok (.dup, 1) := by decide +kernel
theorem dX7_readLetters_29 : decode cX7_readLetters 29 = .ok (.getfield 32, 3) := by decide +kernel
theorem dX7_readLetters_32 : decode cX7_readLetters 32 = .ok (.iconst 1, 1) := by decide +kernel
theorem dX7_readLetters_33 : decode cX7_readLetters 33 = .ok (.iadd, 1) := by decide +kernel
theorem dX7_readLetters_34 : decode cX7_readLetters 34 = .ok (.putfield 32, 3) := by decide +kernel
theorem dX7_readLetters_37 : decode cX7_readLetters 37 = .ok (.goto (-32), 3) := by decide +kernel
theorem dX7_readLetters_40 : decode cX7_readLetters 40 = .ok (.aload_n 0, 1) := by decide +kernel
theorem dX7_readLetters_41 : decode cX7_readLetters 41 = .ok (.getfield 32, 3) := by decide +kernel
theorem dX7_readLetters_44 : decode cX7_readLetters 44 = .ok (.aload_n 0, 1) := by decide +kernel
theorem dX7_readLetters_45 : decode cX7_readLetters 45 = .ok (.getfield 48, 3) := by decide +kernel
theorem dX7_readLetters_48 : decode cX7_readLetters 48 = .ok (.isub, 1) := by decide +kernel
theorem dX7_readLetters_49 : decode cX7_readLetters 49 = .ok (.iconst 1, 1) := by decide +kernel
theorem dX7_readLetters_50 : decode cX7_readLetters 50 = .ok (.if_icmp .ne 15, 3) := by decide +kernel
theorem dX7_readLetters_53 : decode cX7_readLetters 53 = .ok (.aload_n 0, 1) := by decide +kernel
theorem dX7_readLetters_54 : decode cX7_readLetters 54 = .ok (.aload_n 0, 1) := by decide +kernel
theorem dX7_readLetters_55 : decode cX7_readLetters 55 = .ok (.aload_n 0, 1) := by decide +kernel
theorem dX7_readLetters_56 : decode cX7_readLetters 56 = .ok (.getfield 48, 3) := by decide +kernel
theorem dX7_readLetters_59 : decode cX7_readLetters 59 = .ok (.invokevirtual 110, 3) := by decide +kernel
theorem dX7_readLetters_62 : decode cX7_readLetters 62 = .ok (.putfield 67, 3) := by decide +kernel
theorem dX7_readLetters_65 : decode cX7_readLetters 65 = .ok (.return_, 1) := by decide +kernel
theorem dX7_readDigits_0 : decode cX7_readDigits 0 = .ok (.aload_n 0, 1) := by decide +kernel
theorem dX7_readDigits_1 : decode cX7_readDigits 1 = .ok (.getfield 32, 3) := by decide +kernel
theorem dX7_readDigits_4 : decode cX7_readDigits 4 = .ok (.aload_n 0, 1) := by decide +kernel
theorem dX7_readDigits_5 : decode cX7_readDigits 5 = .ok (.getfield 25, 3) := by decide +kernel
theorem dX7_readDigits_8 : decode cX7_readDigits 8 = .ok (.if_icmp .ge 59, 3) := by decide +kernel
theorem dX7_readDigits_11 : decode cX7_readDigits 11 = .ok (.aload_n 0, 1) := by decide +kernel
theorem dX7_readDigits_12 : decode cX7_readDigits 12 = .ok (.aload_n 0, 1) := by decide +kernel
theorem dX7_readDigits_13 : decode cX7_readDigits 13 = .ok (.getfield 32, 3) := by decide +kernel
theorem dX7_readDigits_16 : decode cX7_readDigits 16 = .ok (.invokevirtual 120, 3) := by decide +kernel
theorem dX7_readDigits_19 : decode cX7_readDigits 19 = .ok (.ifCond .eq 48, 3) := by decide +kernel
theorem dX7_readDigits_22 : decode cX7_readDigits 22 = .ok (.aload_n 0, 1) := by decide +kernel
theorem dX7_readDigits_23 : decode cX7_readDigits 23 = .ok (.getfield 67, 3) := by decide +kernel
theorem dX7_readDigits_26 : decode cX7_readDigits 26 = .ok (.bipush 99, 2) := by decide +kernel
theorem dX7_readDigits_28 : decode cX7_readDigits 28 = .ok (.if_icmp .gt 26, 3) := by decide +kernel
theorem dX7_readDigits_31 : decode cX7_readDigits 31 = .ok (.aload_n 0, 1) := by decide +kernel
theorem dX7_readDigits_32 : decode cX7_readDigits 32 = .ok (.aload_n 0, 1) := by decide +kernel
theorem dX7_readDigits_33 : decode cX7_readDigits 33 = .ok (.getfield 67, 3) := by decide +kernel
theorem dX7_readDigits_36 : decode cX7_readDigits 36 = .ok (.bipush 10, 2) := by decide +kernel
theorem dX7_readDigits_38 : decode cX7_readDigits 38 = .ok (.imul, 1) := by decide +kernel
theorem dX7_readDigits_39 : decode cX7_readDigits 39 = .ok (.aload_n 0, 1) := by decide +kernel
theorem dX7_readDigits_40 : decode cX7_readDigits 40 = .ok (.aload_n 0, 1) := by decide +kernel
theorem dX7_readDigits_41 : decode cX7_readDigits 41 = .ok (.getfield 32, 3) := by decide +kernel
theorem dX7_readDigits_44 : decode cX7_readDigits 44 = .ok (.invokevirtual 110, 3) := by decide +kernel
theorem dX7_readDigits_47 : decode cX7_readDigits 47 = .ok (.iadd, 1) := by decide +kernel
theorem dX7_readDigits_48 : decode cX7_readDigits 48 = .ok (.bipush 48, 2) := by decide +kernel
theorem dX7_readDigits_50 : decode cX7_readDigits 50 = .ok (.isub, 1) := by decide +kernel
theorem dX7_readDigits_51 : decode cX7_readDigits 51 = .ok (.putfield 67, 3) := by decide +kernel
theorem dX7_readDigits_54 : decode cX7_readDigits 54 = .ok (.aload_n 0, 1) := by decide +kernel
theorem dX7_readDigits_55 : decode cX7_readDigits 55 = .ok (.dup, 1) := by decide +kernel
theorem dX7_readDigits_56 : decode cX7_readDigits 56 = .ok (.getfield 32, 3) := by decide +kernel
theorem dX7_readDigits_59 : decode cX7_readDigits 59 = .ok (.iconst 1, 1) := by decide +kernel
theorem dX7_readDigits_60 : decode cX7_readDigits 60 = .ok (.iadd, 1) := by decide +kernel
theorem dX7_readDigits_61 : decode cX7_readDigits 61 = .ok (.putfield 32, 3) := by decide +kernel
theorem dX7_readDigits_64 : decode cX7_readDigits 64 = .ok (.goto (-64), 3) := by decide +kernel
theorem dX7_readDigits_67 : decode cX7_readDigits 67 = .ok (.aload_n 0, 1) := by decide +kernel
theorem dX7_readDigits_68 : decode cX7_readDigits 68 = .ok (.getfield 32, 3) := by decide +kernel
theorem dX7_readDigits_71 : decode cX7_readDigits 71 = .ok (.aload_n 0, 1) := by decide +kernel
theorem dX7_readDigits_72 : decode cX7_readDigits 72 = .ok (.getfield 48, 3) := by decide +kernel
theorem dX7_readDigits_75 : decode cX7_readDigits 75 = .ok (.isub, 1) := by decide +kernel
theorem dX7_readDigits_76 : decode cX7_readDigits 76 = .ok (.iconst 1, 1) := by decide +kernel
theorem dX7_readDigits_77 : decode cX7_readDigits 77 = .ok (.if_icmp .le 20, 3) := by decide +kernel
theorem dX7_readDigits_80 : decode cX7_readDigits 80 = .ok (.aload_n 0, 1) := by decide +kernel
theorem dX7_readDigits_81 : decode cX7_readDigits 81 = .ok (.aload_n 0, 1) := by decide +kernel
theorem dX7_readDigits_82 : decode cX7_readDigits 82 = .ok (.getfield 48, 3) := by decide +kernel
theorem dX7_readDigits_85 : decode cX7_readDigits 85 = .ok (.invokevirtual 110, 3) := by decide +kernel
theorem dX7_readDigits_88 : decode cX7_readDigits 88 = .ok (.bipush 48, 2) := by decide +kernel
theorem dX7_readDigits_90 : decode cX7_readDigits 90 = .ok (.if_icmp .ne 7, 3) := by decide +kernel
theorem dX7_readDigits_93 : decode cX7_readDigits 93 = .ok (.iconst 1, 1) := by decide +kernel
theorem dX7_readDigits_94 : decode cX7_readDigits 94 = .ok (.goto 4, 3) := by decide +kernel
theorem dX7_readDigits_97 : decode cX7_readDigits 97 = .ok (.iconst 0, 1) := by decide +kernel
theorem dX7_readDigits_98 : decode cX7_readDigits 98 = .ok (.istore_n 1, 1) := by decide +kernel
theorem dX7_readDigits_99 : decode cX7_readDigits 99 = .ok (.aload_n 0, 1) := by decide +kernel
theorem dX7_readDigits_100 : decode cX7_readDigits 100 = .ok (.iload_n 1, 1) := by decide +kernel
theorem dX7_readDigits_101 : decode cX7_readDigits 101 = .ok (.ifCond .ne 12, 3) := by decide +kernel
theorem dX7_readDigits_104 : decode cX7_readDigits 104 = .ok (.aload_n 0, 1) := by decide +kernel
theorem dX7_readDigits_105 : decode cX7_readDigits 105 = .ok (.getfield 67, 3) := by decide +kernel
theorem dX7_readDigits_108 : decode cX7_readDigits 108 = .ok (.bipush 99, 2) := by decide +kernel
theorem dX7_readDigits_110 : decode cX7_readDigits 110 = .ok (.if_icmp .le 7, 3) := by decide +kernel
theorem dX7_readDigits_113 : decode cX7_readDigits 113 = .ok (.iconst 4, 1) := by decide +kernel
theorem dX7_readDigits_114 : decode cX7_readDigits 114 = .ok (.goto 4, 3) := by decide +kernel
theorem dX7_readDigits_117 : decode cX7_readDigits 117 = .ok (.iconst 2, 1) := by decide +kernel
theorem dX7_readDigits_118 : decode cX7_readDigits 118 = .ok (.putfield 41, 3) := by decide +kernel
theorem dX7_readDigits_121 : decode cX7_readDigits 121 = .ok (.return_, 1) := by decide +kernel
theorem dX7_isLetter_0 : decode cX7_isLetter 0 = .ok (.aload_n 0, 1) := by decide +kernel
theorem dX7_isLetter_1 : decode cX7_isLetter 1 = .ok (.iload_n 1, 1) := by decide +kernel
theorem dX7_isLetter_2 : decode cX7_isLetter 2 = .ok (.invokevirtual 110, 3) := by decide +kernel
theorem dX7_isLetter_5 : decode cX7_isLetter 5 = .ok (.bipush 97, 2) := by decide +kernel
theorem dX7_isLetter_7 : decode cX7_isLetter 7 = .ok (.bipush 122, 2) := by decide +kernel
theorem dX7_isLetter_9 : decode cX7_isLetter 9 = .ok (.invokestatic 76, 3) := by decide +kernel
theorem dX7_isLetter_12 : decode cX7_isLetter 12 = .ok (.ireturn, 1) := by decide +kernel
theorem dX7_isDigit_0 : decode cX7_isDigit 0 = .ok (.aload_n 0, 1) := by decide +kernel
theorem dX7_isDigit_1 : decode cX7_isDigit 1 = .ok (.iload_n 1, 1) := by decide +kernel
theorem dX7_isDigit_2 : decode cX7_isDigit 2 = .ok (.invokevirtual 110, 3) := by decide +kernel
theorem dX7_isDigit_5 : decode cX7_isDigit 5 = .ok (.bipush 48, 2) := by decide +kernel
theorem dX7_isDigit_7 : decode cX7_isDigit 7 = .ok (.bipush 57, 2) := by decide +kernel
theorem dX7_isDigit_9 : decode cX7_isDigit 9 = .ok (.invokestatic 76, 3) := by decide +kernel
theorem dX7_isDigit_12 : decode cX7_isDigit 12 = .ok (.ireturn, 1) := by decide +kernel
theorem dX7_byteAt_0 : decode cX7_byteAt 0 = .ok (.iload_n 1, 1) := by decide +kernel
theorem dX7_byteAt_1 : decode cX7_byteAt 1 = .ok (.iconst 0, 1) := by decide +kernel
theorem dX7_byteAt_2 : decode cX7_byteAt 2 = .ok (.bipush 119, 2) := by decide +kernel
theorem dX7_byteAt_4 : decode cX7_byteAt 4 = .ok (.invokestatic 76, 3) := by decide +kernel
theorem dX7_byteAt_7 : decode cX7_byteAt 7 = .ok (.ifCond .eq 12, 3) := by decide +kernel
theorem dX7_byteAt_10 : decode cX7_byteAt 10 = .ok (.aload_n 0, 1) := by decide +kernel
theorem dX7_byteAt_11 : decode cX7_byteAt 11 = .ok (.getfield 18, 3) := by decide +kernel
theorem dX7_byteAt_14 : decode cX7_byteAt 14 = .ok (.iload_n 1, 1) := by decide +kernel
theorem dX7_byteAt_15 : decode cX7_byteAt 15 = .ok (.iaload, 1) := by decide +kernel
theorem dX7_byteAt_16 : decode cX7_byteAt 16 = .ok (.goto 4, 3) := by decide +kernel
theorem dX7_byteAt_19 : decode cX7_byteAt 19 = .ok (.iconst 0, 1) := by decide +kernel
theorem dX7_byteAt_20 : decode cX7_byteAt 20 = .ok (.ireturn, 1) := by decide +kernel
theorem dX8_init_0 : decode cX8_init 0 = .ok (.aload_n 0, 1) := by decide +kernel
theorem dX8_init_1 : decode cX8_init 1 = .ok (.invokespecial 1, 3) := by decide +kernel
theorem dX8_init_4 : decode cX8_init 4 = .ok (.aload_n 0, 1) := by decide +kernel
theorem dX8_init_5 : decode cX8_init 5 = .ok (.new 7, 3) := by decide +kernel
theorem dX8_init_8 : decode cX8_init 8 = .ok (.dup, 1) := by decide +kernel
theorem dX8_init_9 : decode cX8_init 9 = .ok (.invokespecial 9, 3) := by decide +kernel
theorem dX8_init_12 : decode cX8_init 12 = .ok (.putfield 10, 3) := by decide +kernel
theorem dX8_init_15 : decode cX8_init 15 = .ok (.aload_n 0, 1) := by decide +kernel
theorem dX8_init_16 : decode cX8_init 16 = .ok (.new 16, 3) := by decide +kernel
theorem dX8_init_19 : decode cX8_init 19 = .ok (.dup, 1) := by decide +kernel
theorem dX8_init_20 : decode cX8_init 20 = .ok (.invokespecial 18, 3) := by decide +kernel
theorem dX8_init_23 : decode cX8_init 23 = .ok (.putfield 19, 3) := by decide +kernel
theorem dX8_init_26 : decode cX8_init 26 = .ok (.aload_n 0, 1) := by decide +kernel
theorem dX8_init_27 : decode cX8_init 27 = .ok (.new 23, 3) := by decide +kernel
theorem dX8_init_30 : decode cX8_init 30 = .ok (.dup, 1) := by decide +kernel
theorem dX8_init_31 : decode cX8_init 31 = .ok (.invokespecial 25, 3) := by decide +kernel
theorem dX8_init_34 : decode cX8_init 34 = .ok (.putfield 26, 3) := by decide +kernel
theorem dX8_init_37 : decode cX8_init 37 = .ok (.aload_n 0, 1) := by decide +kernel
theorem dX8_init_38 : decode cX8_init 38 = .ok (.new 30, 3) := by decide +kernel
theorem dX8_init_41 : decode cX8_init 41 = .ok (.dup, 1) := by decide +kernel
theorem dX8_init_42 : decode cX8_init 42 = .ok (.aload_n 0, 1) := by decide +kernel
theorem dX8_init_43 : decode cX8_init 43 = .ok (.getfield 10, 3) := by decide +kernel
theorem dX8_init_46 : decode cX8_init 46 = .ok (.aload_n 0, 1) := by decide +kernel
theorem dX8_init_47 : decode cX8_init 47 = .ok (.getfield 26, 3) := by decide +kernel
theorem dX8_init_50 : decode cX8_init 50 = .ok (.invokespecial 32, 3) := by decide +kernel
theorem dX8_init_53 : decode cX8_init 53 = .ok (.putfield 35, 3) := by decide +kernel
theorem dX8_init_56 : decode cX8_init 56 = .ok (.aload_n 0, 1) := by decide +kernel
theorem dX8_init_57 : decode cX8_init 57 = .ok (.new 39, 3) := by decide +kernel
theorem dX8_init_60 : decode cX8_init 60 = .ok (.dup, 1) := by decide +kernel
theorem dX8_init_61 : decode cX8_init 61 = .ok (.aload_n 0, 1) := by decide +kernel
theorem dX8_init_62 : decode cX8_init 62 = .ok (.getfield 35, 3) := by decide +kernel
theorem dX8_init_65 : decode cX8_init 65 = .ok (.invokespecial 41, 3) := by decide +kernel
theorem dX8_init_68 : decode cX8_init 68 = .ok (.putfield 44, 3) := by decide +kernel
theorem dX8_init_71 : decode cX8_init 71 = .ok (.aload_n 0, 1) := by decide +kernel
theorem dX8_init_72 : decode cX8_init 72 = .ok (.new 48, 3) := by decide +kernel
theorem dX8_init_75 : decode cX8_init 75 = .ok (.dup, 1) := by decide +kernel
theorem dX8_init_76 : decode cX8_init 76 = .ok (.aload_n 0, 1) := by decide +kernel
theorem dX8_init_77 : decode cX8_init 77 = .ok (.getfield 35, 3) := by decide +kernel
theorem dX8_init_80 : decode cX8_init 80 = .ok (.invokespecial 50, 3) := by decide +kernel
theorem dX8_init_83 : decode cX8_init 83 = .ok (.putfield 51, 3) := by decide +kernel
theorem dX8_init_86 : decode cX8_init 86 = .ok (.aload_n 0, 1) := by decide +kernel
theorem dX8_init_87 : decode cX8_init 87 = .ok (.new 55, 3) := by decide +kernel
theorem dX8_init_90 : decode cX8_init 90 = .ok (.dup, 1) := by decide +kernel
theorem dX8_init_91 : decode cX8_init 91 = .ok (.aload_n 0, 1) := by decide +kernel
theorem dX8_init_92 : decode cX8_init 92 = .ok (.getfield 35, 3) := by decide +kernel
theorem dX8_init_95 : decode cX8_init 95 = .ok (.invokespecial 57, 3) := by decide +kernel
theorem dX8_init_98 : decode cX8_init 98 = .ok (.putfield 58, 3) := by decide +kernel
theorem dX8_init_101 : decode cX8_init 101 = .ok (.aload_n 0, 1) := by decide +kernel
theorem dX8_init_102 : decode cX8_init 102 = .ok (.new 62, 3) := by decide +kernel
theorem dX8_init_105 : decode cX8_init 105 = .ok (.dup, 1) := by decide +kernel
theorem dX8_init_106 : decode cX8_init 106 = .ok (.aload_n 0, 1) := by decide +kernel
theorem dX8_init_107 : decode cX8_init 107 = .ok (.getfield 35, 3) := by decide +kernel
theorem dX8_init_110 : decode cX8_init 110 = .ok (.invokespecial 64, 3) := by decide +kernel
theorem dX8_init_113 : decode cX8_init 113 = .ok (.putfield 65, 3) := by decide +kernel
theorem dX8_init_116 : decode cX8_init 116 = .ok (.aload_n 0, 1) := by decide +kernel
theorem dX8_init_117 : decode cX8_init 117 = .ok (.new 23, 3) := by decide +kernel
theorem dX8_init_120 : decode cX8_init 120 = .ok (.dup, 1) := by decide +kernel
theorem dX8_init_121 : decode cX8_init 121 = .ok (.invokespecial 25, 3) := by decide +kernel
theorem dX8_init_124 : decode cX8_init 124 = .ok (.putfield 69, 3) := by decide +kernel
theorem dX8_init_127 : decode cX8_init 127 = .ok (.aload_n 0, 1) := by decide +kernel
theorem dX8_init_128 : decode cX8_init 128 = .ok (.new 23, 3) := by decide +kernel
theorem dX8_init_131 : decode cX8_init 131 = .ok (.dup, 1) := by decide +kernel
theorem dX8_init_132 : decode cX8_init 132 = .ok (.invokespecial 25, 3) := by decide +kernel
theorem dX8_init_135 : decode cX8_init 135 = .ok (.putfield 72, 3) := by decide +kernel
theorem dX8_init_138 : decode cX8_init 138 = .ok (.aload_n 0, 1) := by decide +kernel
theorem dX8_init_139 : decode cX8_init 139 = .ok (.bipush 7, 2) := by decide +kernel
theorem dX8_init_141 : decode cX8_init 141 = .ok (.newarray .int, 2) := by decide +kernel
theorem dX8_init_143 : decode cX8_init 143 = .ok (.putfield 75, 3) := by decide +kernel
theorem dX8_init_146 : decode cX8_init 146 = .ok (.aload_n 0, 1) := by decide +kernel
theorem dX8_init_147 : decode cX8_init 147 = .ok (.getfield 26, 3) := by decide +kernel
theorem dX8_init_150 : decode cX8_init 150 = .ok (.aload_n 0, 1) := by decide +kernel
theorem dX8_init_151 : decode cX8_init 151 = .ok (.getfield 10, 3) := by decide +kernel
theorem dX8_init_154 : decode cX8_init 154 = .ok (.invokevirtual 79, 3) := by decide +kernel
theorem dX8_init_157 : decode cX8_init 157 = .ok (.return_, 1) := by decide +kernel
theorem dX8_type_0 : decode cX8_type 0 = .ok (.iload_n 1, 1) := by decide +kernel
theorem dX8_type_1 : decode cX8_type 1 = .ok (.iconst 0, 1) := by decide +kernel
theorem dX8_type_2 : decode cX8_type 2 = .ok (.sipush 255, 3) := by decide +kernel
theorem dX8_type_5 : decode cX8_type 5 = .ok (.invokestatic 83, 3) := by decide +kernel
theorem dX8_type_8 : decode cX8_type 8 = .ok (.ifCond .ne 5, 3) := by decide +kernel
theorem dX8_type_11 : decode cX8_type 11 = .ok (.iconst (-1), 1) := by decide +kernel
theorem dX8_type_12 : decode cX8_type 12 = .ok (.ireturn, 1) := by decide +kernel
theorem dX8_type_13 : decode cX8_type 13 = .ok (.aload_n 0, 1) := by decide +kernel
theorem dX8_type_14 : decode cX8_type 14 = .ok (.getfield 19, 3) := by decide +kernel
theorem dX8_type_17 : decode cX8_type 17 = .ok (.iload_n 1, 1) := by decide +kernel
theorem dX8_type_18 : decode cX8_type 18 = .ok (.invokevirtual 87, 3) := by decide +kernel
theorem dX8_type_21 : decode cX8_type 21 = .ok (.ifCond .eq 13, 3) := by decide +kernel
theorem dX8_type_24 : decode cX8_type 24 = .ok (.aload_n 0, 1) := by decide +kernel
theorem dX8_type_25 : decode cX8_type 25 = .ok (.getfield 19, 3) := by decide +kernel
theorem dX8_type_28 : decode cX8_type 28 = .ok (.getfield 91, 3) := by decide +kernel
theorem dX8_type_31 : decode cX8_type 31 = .ok (.goto 5, 3) := by decide +kernel
theorem dX8_type_34 : decode cX8_type 34 = .ok (.bipush (-3), 2) := by decide +kernel
theorem dX8_type_36 : decode cX8_type 36 = .ok (.ireturn, 1) := by decide +kernel
theorem dX8_clear_0 : decode cX8_clear 0 = .ok (.aload_n 0, 1) := by decide +kernel
theorem dX8_clear_1 : decode cX8_clear 1 = .ok (.getfield 19, 3) := by decide +kernel
theorem dX8_clear_4 : decode cX8_clear 4 = .ok (.invokevirtual 95, 3) := by decide +kernel
theorem dX8_clear_7 : decode cX8_clear 7 = .ok (.ireturn, 1) := by decide +kernel
theorem dX8_hill_0 : decode cX8_hill 0 = .ok (.aload_n 0, 1) := by decide +kernel
theorem dX8_hill_1 : decode cX8_hill 1 = .ok (.getfield 19, 3) := by decide +kernel
theorem dX8_hill_4 : decode cX8_hill 4 = .ok (.invokevirtual 99, 3) := by decide +kernel
theorem dX8_hill_7 : decode cX8_hill 7 = .ok (.istore_n 1, 1) := by decide +kernel
theorem dX8_hill_8 : decode cX8_hill 8 = .ok (.iload_n 1, 1) := by decide +kernel
theorem dX8_hill_9 : decode cX8_hill 9 = .ok (.ifCond .ge 5, 3) := by decide +kernel
theorem dX8_hill_12 : decode cX8_hill 12 = .ok (.iload_n 1, 1) := by decide +kernel
theorem dX8_hill_13 : decode cX8_hill 13 = .ok (.ireturn, 1) := by decide +kernel
theorem dX8_hill_14 : decode cX8_hill 14 = .ok (.aload_n 0, 1) := by decide +kernel
theorem dX8_hill_15 : decode cX8_hill 15 = .ok (.getfield 10, 3) := by decide +kernel
theorem dX8_hill_18 : decode cX8_hill 18 = .ok (.aload_n 0, 1) := by decide +kernel
theorem dX8_hill_19 : decode cX8_hill 19 = .ok (.getfield 19, 3) := by decide +kernel
theorem dX8_hill_22 : decode cX8_hill 22 = .ok (.getfield 102, 3) := by decide +kernel
theorem dX8_hill_25 : decode cX8_hill 25 = .ok (.invokevirtual 105, 3) := by decide +kernel
theorem dX8_hill_28 : decode cX8_hill 28 = .ok (.aload_n 0, 1) := by decide +kernel
theorem dX8_hill_29 : decode cX8_hill 29 = .ok (.getfield 26, 3) := by decide +kernel
theorem dX8_hill_32 : decode cX8_hill 32 = .ok (.aload_n 0, 1) := by decide +kernel
theorem dX8_hill_33 : decode cX8_hill 33 = .ok (.getfield 10, 3) := by decide +kernel
theorem dX8_hill_36 : decode cX8_hill 36 = .ok (.invokevirtual 79, 3) := by decide +kernel
theorem dX8_hill_39 : decode cX8_hill 39 = .ok (.aload_n 0, 1) := by decide +kernel
theorem dX8_hill_40 : decode cX8_hill 40 = .ok (.getfield 58, 3) := by decide +kernel
theorem dX8_hill_43 : decode cX8_hill 43 = .ok (.invokevirtual 108, 3) := by decide +kernel
theorem dX8_hill_46 : decode cX8_hill 46 = .ok (.pop, 1) := by decide +kernel
theorem dX8_hill_47 : decode cX8_hill 47 = .ok (.aload_n 0, 1) := by decide +kernel
theorem dX8_hill_48 : decode cX8_hill 48 = .ok (.iconst 0, 1) := by decide +kernel
theorem dX8_hill_49 : decode cX8_hill 49 = .ok (.putfield 109, 3) := by decide +kernel
theorem dX8_hill_52 : decode cX8_hill 52 = .ok (.aload_n 0, 1) := by decide +kernel
theorem dX8_hill_53 : decode cX8_hill 53 = .ok (.getfield 19, 3) := by decide +kernel
theorem dX8_hill_56 : decode cX8_hill 56 = .ok (.invokevirtual 95, 3) := by decide +kernel
theorem dX8_hill_59 : decode cX8_hill 59 = .ok (.pop, 1) := by decide +kernel
theorem dX8_hill_60 : decode cX8_hill 60 = .ok (.iload_n 1, 1) := by decide +kernel
theorem dX8_hill_61 : decode cX8_hill 61 = .ok (.ireturn, 1) := by decide +kernel
theorem dX8_temper_0 : decode cX8_temper 0 = .ok (.aload_n 0, 1) := by decide +kernel
theorem dX8_temper_1 : decode cX8_temper 1 = .ok (.getfield 10, 3) := by decide +kernel
theorem dX8_temper_4 : decode cX8_temper 4 = .ok (.iload_n 1, 1) := by decide +kernel
theorem dX8_temper_5 : decode cX8_temper 5 = .ok (.invokevirtual 112, 3) := by decide +kernel
theorem dX8_temper_8 : decode cX8_temper 8 = .ok (.ifCond .ne 5, 3) := by decide +kernel
theorem dX8_temper_11 : decode cX8_temper 11 = .ok (.iconst (-1), 1) := by decide +kernel
theorem dX8_temper_12 : decode cX8_temper 12 = .ok (.ireturn, 1) := by decide +kernel
theorem dX8_temper_13 : decode cX8_temper 13 = .ok (.iload_n 2, 1) := by decide +kernel
theorem dX8_temper_14 : decode cX8_temper 14 = .ok (.tableswitch 108 0 6 #[42, 51, 61, 71, 80, 89, 99], 42) := by decide +kernel
theorem dX8_temper_56 : decode cX8_temper 56 = .ok (.aload_n 0, 1) := by decide +kernel
theorem dX8_temper_57 : decode cX8_temper 57 = .ok (.getfield 26, 3) := by decide +kernel
theorem dX8_temper_60 : decode cX8_temper 60 = .ok (.iload_n 1, 1) := by decide +kernel
theorem dX8_temper_61 : decode cX8_temper 61 = .ok (.invokevirtual 115, 3) := by decide +kernel
theorem dX8_temper_64 : decode cX8_temper 64 = .ok (.ireturn, 1) := by decide +kernel
theorem dX8_temper_65 : decode cX8_temper 65 = .ok (.aload_n 0, 1) := by decide +kernel
theorem dX8_temper_66 : decode cX8_temper 66 = .ok (.getfield 10, 3) := by decide +kernel
theorem dX8_temper_69 : decode cX8_temper 69 = .ok (.getfield 119, 3) := by decide +kernel
theorem dX8_temper_72 : decode cX8_temper 72 = .ok (.iload_n 1, 1) := by decide +kernel
theorem dX8_temper_73 : decode cX8_temper 73 = .ok (.iaload, 1) := by decide +kernel
theorem dX8_temper_74 : decode cX8_temper 74 = .ok (.ireturn, 1) := by decide +kernel
theorem dX8_temper_75 : decode cX8_temper 75 = .ok (.aload_n 0, 1) := by decide +kernel
theorem dX8_temper_76 : decode cX8_temper 76 = .ok (.getfield 10, 3) := by decide +kernel
theorem dX8_temper_79 : decode cX8_temper 79 = .ok (.getfield 122, 3) := by decide +kernel
theorem dX8_temper_82 : decode cX8_temper 82 = .ok (.iload_n 1, 1) := by decide +kernel
theorem dX8_temper_83 : decode cX8_temper 83 = .ok (.iaload, 1) := by decide +kernel
theorem dX8_temper_84 : decode cX8_temper 84 = .ok (.ireturn, 1) := by decide +kernel
theorem dX8_temper_85 : decode cX8_temper 85 = .ok (.aload_n 0, 1) := by decide +kernel
theorem dX8_temper_86 : decode cX8_temper 86 = .ok (.getfield 26, 3) := by decide +kernel
theorem dX8_temper_89 : decode cX8_temper 89 = .ok (.iload_n 1, 1) := by decide +kernel
theorem dX8_temper_90 : decode cX8_temper 90 = .ok (.invokevirtual 125, 3) := by decide +kernel
theorem dX8_temper_93 : decode cX8_temper 93 = .ok (.ireturn, 1) := by decide +kernel
theorem dX8_temper_94 : decode cX8_temper 94 = .ok (.aload_n 0, 1) := by decide +kernel
theorem dX8_temper_95 : decode cX8_temper 95 = .ok (.getfield 26, 3) := by decide +kernel
theorem dX8_temper_98 : decode cX8_temper 98 = .ok (.iload_n 1, 1) := by decide +kernel
theorem dX8_temper_99 : decode cX8_temper 99 = .ok (.invokevirtual 128, 3) := by decide +kernel
theorem dX8_temper_102 : decode cX8_temper 102 = .ok (.ireturn, 1) := by decide +kernel
theorem dX8_temper_103 : decode cX8_temper 103 = .ok (.aload_n 0, 1) := by decide +kernel
theorem dX8_temper_104 : decode cX8_temper 104 = .ok (.getfield 10, 3) := by decide +kernel
theorem dX8_temper_107 : decode cX8_temper 107 = .ok (.getfield 131, 3) := by decide +kernel
theorem dX8_temper_110 : decode cX8_temper 110 = .ok (.iload_n 1, 1) := by decide +kernel
theorem dX8_temper_111 : decode cX8_temper 111 = .ok (.iaload, 1) := by decide +kernel
theorem dX8_temper_112 : decode cX8_temper 112 = .ok (.ireturn, 1) := by decide +kernel
theorem dX8_temper_113 : decode cX8_temper 113 = .ok (.aload_n 0, 1) := by decide +kernel
theorem dX8_temper_114 : decode cX8_temper 114 = .ok (.getfield 26, 3) := by decide +kernel
theorem dX8_temper_117 : decode cX8_temper 117 = .ok (.iload_n 1, 1) := by decide +kernel
theorem dX8_temper_118 : decode cX8_temper 118 = .ok (.invokevirtual 134, 3) := by decide +kernel
theorem dX8_temper_121 : decode cX8_temper 121 = .ok (.ireturn, 1) := by decide +kernel
theorem dX8_temper_122 : decode cX8_temper 122 = .ok (.iconst (-1), 1) := by decide +kernel
theorem dX8_temper_123 : decode cX8_temper 123 = .ok (.ireturn, 1) := by decide +kernel
theorem dX8_nurse_0 : decode cX8_nurse 0 = .ok (.aload_n 0, 1) := by decide +kernel
theorem dX8_nurse_1 : decode cX8_nurse 1 = .ok (.getfield 10, 3) := by decide +kernel
theorem dX8_nurse_4 : decode cX8_nurse 4 = .ok (.iload_n 1, 1) := by decide +kernel
theorem dX8_nurse_5 : decode cX8_nurse 5 = .ok (.invokevirtual 137, 3) := by decide +kernel
theorem dX8_nurse_8 : decode cX8_nurse 8 = .ok (.ifCond .ne 5, 3) := by decide +kernel
theorem dX8_nurse_11 : decode cX8_nurse 11 = .ok (.iconst (-1), 1) := by decide +kernel
theorem dX8_nurse_12 : decode cX8_nurse 12 = .ok (.ireturn, 1) := by decide +kernel
theorem dX8_nurse_13 : decode cX8_nurse 13 = .ok (.iload_n 2, 1) := by decide +kernel
theorem dX8_nurse_14 : decode cX8_nurse 14 = .ok (.tableswitch 82 0 4 #[34, 44, 54, 64, 73], 34) := by decide +kernel
theorem dX8_nurse_48 : decode cX8_nurse 48 = .ok (.aload_n 0, 1) := by decide +kernel
theorem dX8_nurse_49 : decode cX8_nurse 49 = .ok (.getfield 10, 3) := by decide +kernel
theorem dX8_nurse_52 : decode cX8_nurse 52 = .ok (.getfield 140, 3) := by decide +kernel
theorem dX8_nurse_55 : decode cX8_nurse 55 = .ok (.iload_n 1, 1) := by decide +kernel
theorem dX8_nurse_56 : decode cX8_nurse 56 = .ok (.iaload, 1) := by decide +kernel
theorem dX8_nurse_57 : decode cX8_nurse 57 = .ok (.ireturn, 1) := by decide +kernel
theorem dX8_nurse_58 : decode cX8_nurse 58 = .ok (.aload_n 0, 1) := by decide +kernel
theorem dX8_nurse_59 : decode cX8_nurse 59 = .ok (.getfield 10, 3) := by decide +kernel
theorem dX8_nurse_62 : decode cX8_nurse 62 = .ok (.getfield 143, 3) := by decide +kernel
theorem dX8_nurse_65 : decode cX8_nurse 65 = .ok (.iload_n 1, 1) := by decide +kernel
theorem dX8_nurse_66 : decode cX8_nurse 66 = .ok (.iaload, 1) := by decide +kernel
theorem dX8_nurse_67 : decode cX8_nurse 67 = .ok (.ireturn, 1) := by decide +kernel
theorem dX8_nurse_68 : decode cX8_nurse 68 = .ok (.aload_n 0, 1) := by decide +kernel
theorem dX8_nurse_69 : decode cX8_nurse 69 = .ok (.getfield 10, 3) := by decide +kernel
theorem dX8_nurse_72 : decode cX8_nurse 72 = .ok (.getfield 146, 3) := by decide +kernel
theorem dX8_nurse_75 : decode cX8_nurse 75 = .ok (.iload_n 1, 1) := by decide +kernel
theorem dX8_nurse_76 : decode cX8_nurse 76 = .ok (.iaload, 1) := by decide +kernel
theorem dX8_nurse_77 : decode cX8_nurse 77 = .ok (.ireturn, 1) := by decide +kernel
theorem dX8_nurse_78 : decode cX8_nurse 78 = .ok (.aload_n 0, 1) := by decide +kernel
theorem dX8_nurse_79 : decode cX8_nurse 79 = .ok (.getfield 35, 3) := by decide +kernel
theorem dX8_nurse_82 : decode cX8_nurse 82 = .ok (.iload_n 1, 1) := by decide +kernel
theorem dX8_nurse_83 : decode cX8_nurse 83 = .ok (.invokevirtual 149, 3) := by decide +kernel
theorem dX8_nurse_86 : decode cX8_nurse 86 = .ok (.ireturn, 1) := by decide +kernel
theorem dX8_nurse_87 : decode cX8_nurse 87 = .ok (.aload_n 0, 1) := by decide +kernel
theorem dX8_nurse_88 : decode cX8_nurse 88 = .ok (.getfield 35, 3) := by decide +kernel
theorem dX8_nurse_91 : decode cX8_nurse 91 = .ok (.iload_n 1, 1) := by decide +kernel
theorem dX8_nurse_92 : decode cX8_nurse 92 = .ok (.invokevirtual 152, 3) := by decide +kernel
theorem dX8_nurse_95 : decode cX8_nurse 95 = .ok (.ireturn, 1) := by decide +kernel
theorem dX8_nurse_96 : decode cX8_nurse 96 = .ok (.iconst (-1), 1) := by decide +kernel
theorem dX8_nurse_97 : decode cX8_nurse 97 = .ok (.ireturn, 1) := by decide +kernel
theorem dX8_sends_0 : decode cX8_sends 0 = .ok (.aload_n 0, 1) := by decide +kernel
theorem dX8_sends_1 : decode cX8_sends 1 = .ok (.getfield 10, 3) := by decide +kernel
theorem dX8_sends_4 : decode cX8_sends 4 = .ok (.iload_n 1, 1) := by decide +kernel
theorem dX8_sends_5 : decode cX8_sends 5 = .ok (.invokevirtual 112, 3) := by decide +kernel
theorem dX8_sends_8 : decode cX8_sends 8 = .ok (.ifCond .eq 14, 3) := by decide +kernel
theorem dX8_sends_11 : decode cX8_sends 11 = .ok (.aload_n 0, 1) := by decide +kernel
theorem dX8_sends_12 : decode cX8_sends 12 = .ok (.getfield 10, 3) := by decide +kernel
theorem dX8_sends_15 : decode cX8_sends 15 = .ok (.iload_n 2, 1) := by decide +kernel
theorem dX8_sends_16 : decode cX8_sends 16 = .ok (.invokevirtual 137, 3) := by decide +kernel
theorem dX8_sends_19 : decode cX8_sends 19 = .ok (.ifCond .ne 5, 3) := by decide +kernel
theorem dX8_sends_22 : decode cX8_sends 22 = .ok (.iconst (-1), 1) := by decide +kernel
theorem dX8_sends_23 : decode cX8_sends 23 = .ok (.ireturn, 1) := by decide +kernel
theorem dX8_sends_24 : decode cX8_sends 24 = .ok (.aload_n 0, 1) := by decide +kernel
theorem dX8_sends_25 : decode cX8_sends 25 = .ok (.getfield 35, 3) := by decide +kernel
theorem dX8_sends_28 : decode cX8_sends 28 = .ok (.iload_n 1, 1) := by decide +kernel
theorem dX8_sends_29 : decode cX8_sends 29 = .ok (.iload_n 2, 1) := by decide +kernel
theorem dX8_sends_30 : decode cX8_sends 30 = .ok (.invokevirtual 155, 3) := by decide +kernel
theorem dX8_sends_33 : decode cX8_sends 33 = .ok (.ifCond .ne 6, 3) := by decide +kernel
theorem dX8_sends_36 : decode cX8_sends 36 = .ok (.bipush (-2), 2) := by decide +kernel
theorem dX8_sends_38 : decode cX8_sends 38 = .ok (.ireturn, 1) := by decide +kernel
theorem dX8_sends_39 : decode cX8_sends 39 = .ok (.aload_n 0, 1) := by decide +kernel
theorem dX8_sends_40 : decode cX8_sends 40 = .ok (.getfield 26, 3) := by decide +kernel
theorem dX8_sends_43 : decode cX8_sends 43 = .ok (.invokevirtual 159, 3) := by decide +kernel
theorem dX8_sends_46 : decode cX8_sends 46 = .ok (.aload_n 0, 1) := by decide +kernel
theorem dX8_sends_47 : decode cX8_sends 47 = .ok (.getfield 26, 3) := by decide +kernel
theorem dX8_sends_50 : decode cX8_sends 50 = .ok (.iload_n 1, 1) := by decide +kernel
theorem dX8_sends_51 : decode cX8_sends 51 = .ok (.iload_n 2, 1) := by decide +kernel
theorem dX8_sends_52 : decode cX8_sends 52 = .ok (.invokevirtual 162, 3) := by decide +kernel
theorem dX8_sends_55 : decode cX8_sends 55 = .ok (.aload_n 0, 1) := by decide +kernel
theorem dX8_sends_56 : decode cX8_sends 56 = .ok (.getfield 35, 3) := by decide +kernel
theorem dX8_sends_59 : decode cX8_sends 59 = .ok (.iload_n 2, 1) := by decide +kernel
theorem dX8_sends_60 : decode cX8_sends 60 = .ok (.invokevirtual 149, 3) := by decide +kernel
theorem dX8_sends_63 : decode cX8_sends 63 = .ok (.invokestatic 166, 3) := by decide +kernel
theorem dX8_sends_66 : decode cX8_sends 66 = .ok (.ireturn, 1) := by decide +kernel
theorem dX8_fetches_0 : decode cX8_fetches 0 = .ok (.aload_n 0, 1) := by decide +kernel
theorem dX8_fetches_1 : decode cX8_fetches 1 = .ok (.getfield 10, 3) := by decide +kernel
theorem dX8_fetches_4 : decode cX8_fetches 4 = .ok (.iload_n 1, 1) := by decide +kernel
theorem dX8_fetches_5 : decode cX8_fetches 5 = .ok (.invokevirtual 112, 3) := by decide +kernel
theorem dX8_fetches_8 : decode cX8_fetches 8 = .ok (.ifCond .ne 5, 3) := by decide +kernel
theorem dX8_fetches_11 : decode cX8_fetches 11 = .ok (.iconst (-1), 1) := by decide +kernel
theorem dX8_fetches_12 : decode cX8_fetches 12 = .ok (.ireturn, 1) := by decide +kernel
theorem dX8_fetches_13 : decode cX8_fetches 13 = .ok (.aload_n 0, 1) := by decide +kernel
theorem dX8_fetches_14 : decode cX8_fetches 14 = .ok (.getfield 26, 3) := by decide +kernel
theorem dX8_fetches_17 : decode cX8_fetches 17 = .ok (.iload_n 1, 1) := by decide +kernel
theorem dX8_fetches_18 : decode cX8_fetches 18 = .ok (.invokevirtual 125, 3) := by decide +kernel
theorem dX8_fetches_21 : decode cX8_fetches 21 = .ok (.istore_n 2, 1) := by decide +kernel
theorem dX8_fetches_22 : decode cX8_fetches 22 = .ok (.iload_n 2, 1) := by decide +kernel
theorem dX8_fetches_23 : decode cX8_fetches 23 = .ok (.bipush (-9), 2) := by decide +kernel
theorem dX8_fetches_25 : decode cX8_fetches 25 = .ok (.if_icmp .ne 6, 3) := by decide +kernel
theorem dX8_fetches_28 : decode cX8_fetches 28 = .ok (.bipush (-2), 2) := by decide +kernel
theorem dX8_fetches_30 : decode cX8_fetches 30 = .ok (.ireturn, 1) := by decide +kernel
theorem dX8_fetches_31 : decode cX8_fetches 31 = .ok (.aload_n 0, 1) := by decide +kernel
theorem dX8_fetches_32 : decode cX8_fetches 32 = .ok (.getfield 26, 3) := by decide +kernel
theorem dX8_fetches_35 : decode cX8_fetches 35 = .ok (.invokevirtual 159, 3) := by decide +kernel
theorem dX8_fetches_38 : decode cX8_fetches 38 = .ok (.aload_n 0, 1) := by decide +kernel
theorem dX8_fetches_39 : decode cX8_fetches 39 = .ok (.getfield 26, 3) := by decide +kernel
theorem dX8_fetches_42 : decode cX8_fetches 42 = .ok (.iload_n 1, 1) := by decide +kernel
theorem dX8_fetches_43 : decode cX8_fetches 43 = .ok (.bipush (-9), 2) := by decide +kernel
theorem dX8_fetches_45 : decode cX8_fetches 45 = .ok (.invokevirtual 162, 3) := by decide +kernel
theorem dX8_fetches_48 : decode cX8_fetches 48 = .ok (.iload_n 2, 1) := by decide +kernel
theorem dX8_fetches_49 : decode cX8_fetches 49 = .ok (.ireturn, 1) := by decide +kernel
theorem dX8_visits_0 : decode cX8_visits 0 = .ok (.aload_n 0, 1) := by decide +kernel
theorem dX8_visits_1 : decode cX8_visits 1 = .ok (.getfield 10, 3) := by decide +kernel
theorem dX8_visits_4 : decode cX8_visits 4 = .ok (.iload_n 1, 1) := by decide +kernel
theorem dX8_visits_5 : decode cX8_visits 5 = .ok (.invokevirtual 112, 3) := by decide +kernel
theorem dX8_visits_8 : decode cX8_visits 8 = .ok (.ifCond .ne 5, 3) := by decide +kernel
theorem dX8_visits_11 : decode cX8_visits 11 = .ok (.iconst (-1), 1) := by decide +kernel
theorem dX8_visits_12 : decode cX8_visits 12 = .ok (.ireturn, 1) := by decide +kernel
theorem dX8_visits_13 : decode cX8_visits 13 = .ok (.aload_n 0, 1) := by decide +kernel
theorem dX8_visits_14 : decode cX8_visits 14 = .ok (.getfield 26, 3) := by decide +kernel
theorem dX8_visits_17 : decode cX8_visits 17 = .ok (.iload_n 1, 1) := by decide +kernel
theorem dX8_visits_18 : decode cX8_visits 18 = .ok (.invokevirtual 115, 3) := by decide +kernel
theorem dX8_visits_21 : decode cX8_visits 21 = .ok (.istore_n 2, 1) := by decide +kernel
theorem dX8_visits_22 : decode cX8_visits 22 = .ok (.aload_n 0, 1) := by decide +kernel
theorem dX8_visits_23 : decode cX8_visits 23 = .ok (.getfield 26, 3) := by decide +kernel
theorem dX8_visits_26 : decode cX8_visits 26 = .ok (.iload_n 1, 1) := by decide +kernel
theorem dX8_visits_27 : decode cX8_visits 27 = .ok (.invokevirtual 125, 3) := by decide +kernel
theorem dX8_visits_30 : decode cX8_visits 30 = .ok (.bipush (-9), 2) := by decide +kernel
theorem dX8_visits_32 : decode cX8_visits 32 = .ok (.if_icmp .eq 7, 3) := by decide +kernel
theorem dX8_visits_35 : decode cX8_visits 35 = .ok (.iload_n 2, 1) := by decide +kernel
theorem dX8_visits_36 : decode cX8_visits 36 = .ok (.ifCond .ne 6, 3) := by decide +kernel
theorem dX8_visits_39 : decode cX8_visits 39 = .ok (.bipush (-2), 2) := by decide +kernel
theorem dX8_visits_41 : decode cX8_visits 41 = .ok (.ireturn, 1) := by decide +kernel
theorem dX8_visits_42 : decode cX8_visits 42 = .ok (.aload_n 0, 1) := by decide +kernel
theorem dX8_visits_43 : decode cX8_visits 43 = .ok (.getfield 26, 3) := by decide +kernel
theorem dX8_visits_46 : decode cX8_visits 46 = .ok (.invokevirtual 159, 3) := by decide +kernel
theorem dX8_visits_49 : decode cX8_visits 49 = .ok (.aload_n 0, 1) := by decide +kernel
theorem dX8_visits_50 : decode cX8_visits 50 = .ok (.getfield 26, 3) := by decide +kernel
theorem dX8_visits_53 : decode cX8_visits 53 = .ok (.iload_n 1, 1) := by decide +kernel
theorem dX8_visits_54 : decode cX8_visits 54 = .ok (.iload_n 2, 1) := by decide +kernel
theorem dX8_visits_55 : decode cX8_visits 55 = .ok (.iconst 1, 1) := by decide +kernel
theorem dX8_visits_56 : decode cX8_visits 56 = .ok (.isub, 1) := by decide +kernel
theorem dX8_visits_57 : decode cX8_visits 57 = .ok (.invokevirtual 171, 3) := by decide +kernel
theorem dX8_visits_60 : decode cX8_visits 60 = .ok (.iload_n 2, 1) := by decide +kernel
theorem dX8_visits_61 : decode cX8_visits 61 = .ok (.iconst 1, 1) := by decide +kernel
theorem dX8_visits_62 : decode cX8_visits 62 = .ok (.isub, 1) := by decide +kernel
theorem dX8_visits_63 : decode cX8_visits 63 = .ok (.ireturn, 1) := by decide +kernel
theorem dX8_mixes_0 : decode cX8_mixes 0 = .ok (.aload_n 0, 1) := by decide +kernel
theorem dX8_mixes_1 : decode cX8_mixes 1 = .ok (.getfield 10, 3) := by decide +kernel
theorem dX8_mixes_4 : decode cX8_mixes 4 = .ok (.iload_n 1, 1) := by decide +kernel
theorem dX8_mixes_5 : decode cX8_mixes 5 = .ok (.invokevirtual 112, 3) := by decide +kernel
theorem dX8_mixes_8 : decode cX8_mixes 8 = .ok (.ifCond .eq 19, 3) := by decide +kernel
theorem dX8_mixes_11 : decode cX8_mixes 11 = .ok (.aload_n 0, 1) := by decide +kernel
theorem dX8_mixes_12 : decode cX8_mixes 12 = .ok (.getfield 10, 3) := by decide +kernel
theorem dX8_mixes_15 : decode cX8_mixes 15 = .ok (.iload_n 2, 1) := by decide +kernel
theorem dX8_mixes_16 : decode cX8_mixes 16 = .ok (.invokevirtual 112, 3) := by decide +kernel
theorem dX8_mixes_19 : decode cX8_mixes 19 = .ok (.ifCond .eq 8, 3) := by decide +kernel
theorem dX8_mixes_22 : decode cX8_mixes 22 = .ok (.iload_n 1, 1) := by decide +kernel
theorem dX8_mixes_23 : decode cX8_mixes 23 = .ok (.iload_n 2, 1) := by decide +kernel
theorem dX8_mixes_24 : decode cX8_mixes 24 = .ok (.if_icmp .ne 5, 3) := by decide +kernel
theorem dX8_mixes_27 : decode cX8_mixes 27 = .ok (.iconst (-1), 1) := by decide +kernel
theorem dX8_mixes_28 : decode cX8_mixes 28 = .ok (.ireturn, 1) := by decide +kernel
theorem dX8_mixes_29 : decode cX8_mixes 29 = .ok (.aload_n 0, 1) := by decide +kernel
theorem dX8_mixes_30 : decode cX8_mixes 30 = .ok (.getfield 26, 3) := by decide +kernel
theorem dX8_mixes_33 : decode cX8_mixes 33 = .ok (.invokevirtual 159, 3) := by decide +kernel
theorem dX8_mixes_36 : decode cX8_mixes 36 = .ok (.aload_n 0, 1) := by decide +kernel
theorem dX8_mixes_37 : decode cX8_mixes 37 = .ok (.getfield 26, 3) := by decide +kernel
theorem dX8_mixes_40 : decode cX8_mixes 40 = .ok (.iload_n 1, 1) := by decide +kernel
theorem dX8_mixes_41 : decode cX8_mixes 41 = .ok (.invokevirtual 128, 3) := by decide +kernel
theorem dX8_mixes_44 : decode cX8_mixes 44 = .ok (.istore_n 3, 1) := by decide +kernel
theorem dX8_mixes_45 : decode cX8_mixes 45 = .ok (.aload_n 0, 1) := by decide +kernel
theorem dX8_mixes_46 : decode cX8_mixes 46 = .ok (.getfield 26, 3) := by decide +kernel
theorem dX8_mixes_49 : decode cX8_mixes 49 = .ok (.iload_n 1, 1) := by decide +kernel
theorem dX8_mixes_50 : decode cX8_mixes 50 = .ok (.aload_n 0, 1) := by decide +kernel
theorem dX8_mixes_51 : decode cX8_mixes 51 = .ok (.getfield 26, 3) := by decide +kernel
theorem dX8_mixes_54 : decode cX8_mixes 54 = .ok (.iload_n 2, 1) := by decide +kernel
theorem dX8_mixes_55 : decode cX8_mixes 55 = .ok (.invokevirtual 128, 3) := by decide +kernel
theorem dX8_mixes_58 : decode cX8_mixes 58 = .ok (.invokevirtual 174, 3) := by decide +kernel
theorem dX8_mixes_61 : decode cX8_mixes 61 = .ok (.aload_n 0, 1) := by decide +kernel
theorem dX8_mixes_62 : decode cX8_mixes 62 = .ok (.getfield 26, 3) := by decide +kernel
theorem dX8_mixes_65 : decode cX8_mixes 65 = .ok (.iload_n 2, 1) := by decide +kernel
theorem dX8_mixes_66 : decode cX8_mixes 66 = .ok (.iload_n 3, 1) := by decide +kernel
theorem dX8_mixes_67 : decode cX8_mixes 67 = .ok (.invokevirtual 174, 3) := by decide +kernel
theorem dX8_mixes_70 : decode cX8_mixes 70 = .ok (.aload_n 0, 1) := by decide +kernel
theorem dX8_mixes_71 : decode cX8_mixes 71 = .ok (.getfield 26, 3) := by decide +kernel
theorem dX8_mixes_74 : decode cX8_mixes 74 = .ok (.aload_n 0, 1) := by decide +kernel
theorem dX8_mixes_75 : decode cX8_mixes 75 = .ok (.getfield 10, 3) := by decide +kernel
theorem dX8_mixes_78 : decode cX8_mixes 78 = .ok (.getfield 177, 3) := by decide +kernel
theorem dX8_mixes_81 : decode cX8_mixes 81 = .ok (.invokevirtual 180, 3) := by decide +kernel
theorem dX8_mixes_84 : decode cX8_mixes 84 = .ok (.ireturn, 1) := by decide +kernel
theorem dX8_years_0 : decode cX8_years 0 = .ok (.iload_n 1, 1) := by decide +kernel
theorem dX8_years_1 : decode cX8_years 1 = .ok (.iconst 1, 1) := by decide +kernel
theorem dX8_years_2 : decode cX8_years 2 = .ok (.bipush 9, 2) := by decide +kernel
theorem dX8_years_4 : decode cX8_years 4 = .ok (.invokestatic 83, 3) := by decide +kernel
theorem dX8_years_7 : decode cX8_years 7 = .ok (.ifCond .ne 5, 3) := by decide +kernel
theorem dX8_years_10 : decode cX8_years 10 = .ok (.iconst (-1), 1) := by decide +kernel
theorem dX8_years_11 : decode cX8_years 11 = .ok (.ireturn, 1) := by decide +kernel
theorem dX8_years_12 : decode cX8_years 12 = .ok (.aload_n 0, 1) := by decide +kernel
theorem dX8_years_13 : decode cX8_years 13 = .ok (.getfield 26, 3) := by decide +kernel
theorem dX8_years_16 : decode cX8_years 16 = .ok (.invokevirtual 183, 3) := by decide +kernel
theorem dX8_years_19 : decode cX8_years 19 = .ok (.iload_n 1, 1) := by decide +kernel
theorem dX8_years_20 : decode cX8_years 20 = .ok (.iadd, 1) := by decide +kernel
theorem dX8_years_21 : decode cX8_years 21 = .ok (.bipush 99, 2) := by decide +kernel
theorem dX8_years_23 : decode cX8_years 23 = .ok (.if_icmp .le 6, 3) := by decide +kernel
theorem dX8_years_26 : decode cX8_years 26 = .ok (.bipush (-2), 2) := by decide +kernel
theorem dX8_years_28 : decode cX8_years 28 = .ok (.ireturn, 1) := by decide +kernel
theorem dX8_years_29 : decode cX8_years 29 = .ok (.aload_n 0, 1) := by decide +kernel
theorem dX8_years_30 : decode cX8_years 30 = .ok (.getfield 26, 3) := by decide +kernel
theorem dX8_years_33 : decode cX8_years 33 = .ok (.invokevirtual 159, 3) := by decide +kernel
theorem dX8_years_36 : decode cX8_years 36 = .ok (.iconst 0, 1) := by decide +kernel
theorem dX8_years_37 : decode cX8_years 37 = .ok (.istore_n 2, 1) := by decide +kernel
theorem dX8_years_38 : decode cX8_years 38 = .ok (.iload_n 2, 1) := by decide +kernel
theorem dX8_years_39 : decode cX8_years 39 = .ok (.aload_n 0, 1) := by decide +kernel
theorem dX8_years_40 : decode cX8_years 40 = .ok (.getfield 10, 3) := by decide +kernel
theorem dX8_years_43 : decode cX8_years 43 = .ok (.getfield 177, 3) := by decide +kernel
theorem dX8_years_46 : decode cX8_years 46 = .ok (.if_icmp .ge 26, 3) := by decide +kernel
theorem dX8_years_49 : decode cX8_years 49 = .ok (.aload_n 0, 1) := by decide +kernel
theorem dX8_years_50 : decode cX8_years 50 = .ok (.getfield 26, 3) := by decide +kernel
theorem dX8_years_53 : decode cX8_years 53 = .ok (.iload_n 2, 1) := by decide +kernel
theorem dX8_years_54 : decode cX8_years 54 = .ok (.aload_n 0, 1) := by decide +kernel
theorem dX8_years_55 : decode cX8_years 55 = .ok (.getfield 35, 3) := by decide +kernel
theorem dX8_years_58 : decode cX8_years 58 = .ok (.iload_n 2, 1) := by decide +kernel
theorem dX8_years_59 : decode cX8_years 59 = .ok (.iload_n 1, 1) := by decide +kernel
theorem dX8_years_60 : decode cX8_years 60 = .ok (.invokevirtual 186, 3) := by decide +kernel
theorem dX8_years_63 : decode cX8_years 63 = .ok (.invokevirtual 171, 3) := by decide +kernel
theorem dX8_years_66 : decode cX8_years 66 = .ok (.iinc 2 1, 3) := by decide +kernel
theorem dX8_years_69 : decode cX8_years 69 = .ok (.goto (-31), 3) := by decide +kernel
theorem dX8_years_72 : decode cX8_years 72 = .ok (.aload_n 0, 1) := by decide +kernel
theorem dX8_years_73 : decode cX8_years 73 = .ok (.getfield 26, 3) := by decide +kernel
theorem dX8_years_76 : decode cX8_years 76 = .ok (.aload_n 0, 1) := by decide +kernel
theorem dX8_years_77 : decode cX8_years 77 = .ok (.getfield 26, 3) := by decide +kernel
theorem dX8_years_80 : decode cX8_years 80 = .ok (.invokevirtual 183, 3) := by decide +kernel
theorem dX8_years_83 : decode cX8_years 83 = .ok (.iload_n 1, 1) := by decide +kernel
theorem dX8_years_84 : decode cX8_years 84 = .ok (.iadd, 1) := by decide +kernel
theorem dX8_years_85 : decode cX8_years 85 = .ok (.invokevirtual 190, 3) := by decide +kernel
theorem dX8_years_88 : decode cX8_years 88 = .ok (.aload_n 0, 1) := by decide +kernel
theorem dX8_years_89 : decode cX8_years 89 = .ok (.getfield 35, 3) := by decide +kernel
theorem dX8_years_92 : decode cX8_years 92 = .ok (.invokevirtual 194, 3) := by decide +kernel
theorem dX8_years_95 : decode cX8_years 95 = .ok (.invokestatic 166, 3) := by decide +kernel
theorem dX8_years_98 : decode cX8_years 98 = .ok (.ireturn, 1) := by decide +kernel
theorem dX8_undo_0 : decode cX8_undo 0 = .ok (.aload_n 0, 1) := by decide +kernel
theorem dX8_undo_1 : decode cX8_undo 1 = .ok (.getfield 26, 3) := by decide +kernel
theorem dX8_undo_4 : decode cX8_undo 4 = .ok (.invokevirtual 197, 3) := by decide +kernel
theorem dX8_undo_7 : decode cX8_undo 7 = .ok (.ifCond .eq 13, 3) := by decide +kernel
theorem dX8_undo_10 : decode cX8_undo 10 = .ok (.aload_n 0, 1) := by decide +kernel
theorem dX8_undo_11 : decode cX8_undo 11 = .ok (.getfield 26, 3) := by decide +kernel
theorem dX8_undo_14 : decode cX8_undo 14 = .ok (.getfield 201, 3) := by decide +kernel
theorem dX8_undo_17 : decode cX8_undo 17 = .ok (.goto 5, 3) := by decide +kernel
theorem dX8_undo_20 : decode cX8_undo 20 = .ok (.bipush (-2), 2) := by decide +kernel
theorem dX8_undo_22 : decode cX8_undo 22 = .ok (.ireturn, 1) := by decide +kernel
theorem dX8_now_0 : decode cX8_now 0 = .ok (.iload_n 1, 1) := by decide +kernel
theorem dX8_now_1 : decode cX8_now 1 = .ok (.tableswitch 82 0 4 #[35, 43, 51, 66, 74], 35) := by decide +kernel
theorem dX8_now_36 : decode cX8_now 36 = .ok (.aload_n 0, 1) := by decide +kernel
theorem dX8_now_37 : decode cX8_now 37 = .ok (.getfield 26, 3) := by decide +kernel
theorem dX8_now_40 : decode cX8_now 40 = .ok (.invokevirtual 183, 3) := by decide +kernel
theorem dX8_now_43 : decode cX8_now 43 = .ok (.ireturn, 1) := by decide +kernel
theorem dX8_now_44 : decode cX8_now 44 = .ok (.aload_n 0, 1) := by decide +kernel
theorem dX8_now_45 : decode cX8_now 45 = .ok (.getfield 35, 3) := by decide +kernel
theorem dX8_now_48 : decode cX8_now 48 = .ok (.invokevirtual 194, 3) := by decide +kernel
theorem dX8_now_51 : decode cX8_now 51 = .ok (.ireturn, 1) := by decide +kernel
theorem dX8_now_52 : decode cX8_now 52 = .ok (.aload_n 0, 1) := by decide +kernel
theorem dX8_now_53 : decode cX8_now 53 = .ok (.getfield 26, 3) := by decide +kernel
theorem dX8_now_56 : decode cX8_now 56 = .ok (.aload_n 0, 1) := by decide +kernel
theorem dX8_now_57 : decode cX8_now 57 = .ok (.getfield 10, 3) := by decide +kernel
theorem dX8_now_60 : decode cX8_now 60 = .ok (.getfield 177, 3) := by decide +kernel
theorem dX8_now_63 : decode cX8_now 63 = .ok (.invokevirtual 180, 3) := by decide +kernel
theorem dX8_now_66 : decode cX8_now 66 = .ok (.ireturn, 1) := by decide +kernel
theorem dX8_now_67 : decode cX8_now 67 = .ok (.aload_n 0, 1) := by decide +kernel
theorem dX8_now_68 : decode cX8_now 68 = .ok (.getfield 44, 3) := by decide +kernel
theorem dX8_now_71 : decode cX8_now 71 = .ok (.invokevirtual 204, 3) := by decide +kernel
theorem dX8_now_74 : decode cX8_now 74 = .ok (.ireturn, 1) := by decide +kernel
theorem dX8_now_75 : decode cX8_now 75 = .ok (.aload_n 0, 1) := by decide +kernel
theorem dX8_now_76 : decode cX8_now 76 = .ok (.getfield 35, 3) := by decide +kernel
theorem dX8_now_79 : decode cX8_now 79 = .ok (.invokevirtual 207, 3) := by decide +kernel
theorem dX8_now_82 : decode cX8_now 82 = .ok (.ireturn, 1) := by decide +kernel
theorem dX8_now_83 : decode cX8_now 83 = .ok (.iconst (-1), 1) := by decide +kernel
theorem dX8_now_84 : decode cX8_now 84 = .ok (.ireturn, 1) := by decide +kernel
theorem dX8_when_0 : decode cX8_when 0 = .ok (.aload_n 0, 1) := by decide +kernel
theorem dX8_when_1 : decode cX8_when 1 = .ok (.getfield 10, 3) := by decide +kernel
theorem dX8_when_4 : decode cX8_when 4 = .ok (.iload_n 1, 1) := by decide +kernel
theorem dX8_when_5 : decode cX8_when 5 = .ok (.invokevirtual 112, 3) := by decide +kernel
theorem dX8_when_8 : decode cX8_when 8 = .ok (.ifCond .eq 14, 3) := by decide +kernel
theorem dX8_when_11 : decode cX8_when 11 = .ok (.aload_n 0, 1) := by decide +kernel
theorem dX8_when_12 : decode cX8_when 12 = .ok (.getfield 10, 3) := by decide +kernel
theorem dX8_when_15 : decode cX8_when 15 = .ok (.iload_n 2, 1) := by decide +kernel
theorem dX8_when_16 : decode cX8_when 16 = .ok (.invokevirtual 137, 3) := by decide +kernel
theorem dX8_when_19 : decode cX8_when 19 = .ok (.ifCond .ne 5, 3) := by decide +kernel
theorem dX8_when_22 : decode cX8_when 22 = .ok (.iconst (-1), 1) := by decide +kernel
theorem dX8_when_23 : decode cX8_when 23 = .ok (.ireturn, 1) := by decide +kernel
theorem dX8_when_24 : decode cX8_when 24 = .ok (.aload_n 0, 1) := by decide +kernel
theorem dX8_when_25 : decode cX8_when 25 = .ok (.getfield 35, 3) := by decide +kernel
theorem dX8_when_28 : decode cX8_when 28 = .ok (.iload_n 1, 1) := by decide +kernel
theorem dX8_when_29 : decode cX8_when 29 = .ok (.iload_n 2, 1) := by decide +kernel
theorem dX8_when_30 : decode cX8_when 30 = .ok (.invokevirtual 210, 3) := by decide +kernel
theorem dX8_when_33 : decode cX8_when 33 = .ok (.ireturn, 1) := by decide +kernel
theorem dX8_hot_0 : decode cX8_hot 0 = .ok (.aload_n 0, 1) := by decide +kernel
theorem dX8_hot_1 : decode cX8_hot 1 = .ok (.getfield 10, 3) := by decide +kernel
theorem dX8_hot_4 : decode cX8_hot 4 = .ok (.iload_n 1, 1) := by decide +kernel
theorem dX8_hot_5 : decode cX8_hot 5 = .ok (.invokevirtual 112, 3) := by decide +kernel
theorem dX8_hot_8 : decode cX8_hot 8 = .ok (.ifCond .eq 13, 3) := by decide +kernel
theorem dX8_hot_11 : decode cX8_hot 11 = .ok (.iload_n 2, 1) := by decide +kernel
theorem dX8_hot_12 : decode cX8_hot 12 = .ok (.iconst 0, 1) := by decide +kernel
theorem dX8_hot_13 : decode cX8_hot 13 = .ok (.bipush 99, 2) := by decide +kernel
theorem dX8_hot_15 : decode cX8_hot 15 = .ok (.invokestatic 83, 3) := by decide +kernel
theorem dX8_hot_18 : decode cX8_hot 18 = .ok (.ifCond .ne 5, 3) := by decide +kernel
theorem dX8_hot_21 : decode cX8_hot 21 = .ok (.iconst (-1), 1) := by decide +kernel
theorem dX8_hot_22 : decode cX8_hot 22 = .ok (.ireturn, 1) := by decide +kernel
theorem dX8_hot_23 : decode cX8_hot 23 = .ok (.aload_n 0, 1) := by decide +kernel
theorem dX8_hot_24 : decode cX8_hot 24 = .ok (.getfield 35, 3) := by decide +kernel
theorem dX8_hot_27 : decode cX8_hot 27 = .ok (.iload_n 1, 1) := by decide +kernel
theorem dX8_hot_28 : decode cX8_hot 28 = .ok (.iload_n 2, 1) := by decide +kernel
theorem dX8_hot_29 : decode cX8_hot 29 = .ok (.invokevirtual 186, 3) := by decide +kernel
theorem dX8_hot_32 : decode cX8_hot 32 = .ok (.ireturn, 1) := by decide +kernel
theorem dX8_plan_0 : decode cX8_plan 0 = .ok (.iload_n 1, 1) := by decide +kernel
theorem dX8_plan_1 : decode cX8_plan 1 = .ok (.iconst (-1), 1) := by decide +kernel
theorem dX8_plan_2 : decode cX8_plan 2 = .ok (.if_icmp .eq 16, 3) := by decide +kernel
theorem dX8_plan_5 : decode cX8_plan 5 = .ok (.aload_n 0, 1) := by decide +kernel
theorem dX8_plan_6 : decode cX8_plan 6 = .ok (.getfield 10, 3) := by decide +kernel
theorem dX8_plan_9 : decode cX8_plan 9 = .ok (.iload_n 1, 1) := by decide +kernel
theorem dX8_plan_10 : decode cX8_plan 10 = .ok (.invokevirtual 112, 3) := by decide +kernel
theorem dX8_plan_13 : decode cX8_plan 13 = .ok (.ifCond .ne 5, 3) := by decide +kernel
theorem dX8_plan_16 : decode cX8_plan 16 = .ok (.iconst (-1), 1) := by decide +kernel
theorem dX8_plan_17 : decode cX8_plan 17 = .ok (.ireturn, 1) := by decide +kernel
theorem dX8_plan_18 : decode cX8_plan 18 = .ok (.aload_n 0, 1) := by decide +kernel
theorem dX8_plan_19 : decode cX8_plan 19 = .ok (.getfield 44, 3) := by decide +kernel
theorem dX8_plan_22 : decode cX8_plan 22 = .ok (.invokevirtual 213, 3) := by decide +kernel
theorem dX8_plan_25 : decode cX8_plan 25 = .ok (.iload_n 1, 1) := by decide +kernel
theorem dX8_plan_26 : decode cX8_plan 26 = .ok (.iconst (-1), 1) := by decide +kernel
theorem dX8_plan_27 : decode cX8_plan 27 = .ok (.if_icmp .ne 13, 3) := by decide +kernel
theorem dX8_plan_30 : decode cX8_plan 30 = .ok (.aload_n 0, 1) := by decide +kernel
theorem dX8_plan_31 : decode cX8_plan 31 = .ok (.getfield 44, 3) := by decide +kernel
theorem dX8_plan_34 : decode cX8_plan 34 = .ok (.getfield 216, 3) := by decide +kernel
theorem dX8_plan_37 : decode cX8_plan 37 = .ok (.goto 12, 3) := by decide +kernel
theorem dX8_plan_40 : decode cX8_plan 40 = .ok (.aload_n 0, 1) := by decide +kernel
theorem dX8_plan_41 : decode cX8_plan 41 = .ok (.getfield 44, 3) := by decide +kernel
theorem dX8_plan_44 : decode cX8_plan 44 = .ok (.getfield 219, 3) := by decide +kernel
theorem dX8_plan_47 : decode cX8_plan 47 = .ok (.iload_n 1, 1) := by decide +kernel
theorem dX8_plan_48 : decode cX8_plan 48 = .ok (.iaload, 1) := by decide +kernel
theorem dX8_plan_49 : decode cX8_plan 49 = .ok (.ireturn, 1) := by decide +kernel
theorem dX8_best_0 : decode cX8_best 0 = .ok (.aload_n 0, 1) := by decide +kernel
theorem dX8_best_1 : decode cX8_best 1 = .ok (.getfield 10, 3) := by decide +kernel
theorem dX8_best_4 : decode cX8_best 4 = .ok (.iload_n 1, 1) := by decide +kernel
theorem dX8_best_5 : decode cX8_best 5 = .ok (.invokevirtual 112, 3) := by decide +kernel
theorem dX8_best_8 : decode cX8_best 8 = .ok (.ifCond .eq 12, 3) := by decide +kernel
theorem dX8_best_11 : decode cX8_best 11 = .ok (.iload_n 2, 1) := by decide +kernel
theorem dX8_best_12 : decode cX8_best 12 = .ok (.iconst 0, 1) := by decide +kernel
theorem dX8_best_13 : decode cX8_best 13 = .ok (.iconst 1, 1) := by decide +kernel
theorem dX8_best_14 : decode cX8_best 14 = .ok (.invokestatic 83, 3) := by decide +kernel
theorem dX8_best_17 : decode cX8_best 17 = .ok (.ifCond .ne 6, 3) := by decide +kernel
theorem dX8_best_20 : decode cX8_best 20 = .ok (.ldc 222, 2) := by decide +kernel
theorem dX8_best_22 : decode cX8_best 22 = .ok (.ireturn, 1) := by decide +kernel
theorem dX8_best_23 : decode cX8_best 23 = .ok (.iconst 0, 1) := by decide +kernel
theorem dX8_best_24 : decode cX8_best 24 = .ok (.istore_n 3, 1) := by decide +kernel
theorem dX8_best_25 : decode cX8_best 25 = .ok (.aload_n 0, 1) := by decide +kernel
theorem dX8_best_26 : decode cX8_best 26 = .ok (.getfield 35, 3) := by decide +kernel
theorem dX8_best_29 : decode cX8_best 29 = .ok (.iload_n 1, 1) := by decide +kernel
theorem dX8_best_30 : decode cX8_best 30 = .ok (.iconst 0, 1) := by decide +kernel
theorem dX8_best_31 : decode cX8_best 31 = .ok (.invokevirtual 223, 3) := by decide +kernel
theorem dX8_best_34 : decode cX8_best 34 = .ok (.istore 4, 2) := by decide +kernel
theorem dX8_best_36 : decode cX8_best 36 = .ok (.iconst 1, 1) := by decide +kernel
theorem dX8_best_37 : decode cX8_best 37 = .ok (.istore 5, 2) := by decide +kernel
theorem dX8_best_39 : decode cX8_best 39 = .ok (.iload 5, 2) := by decide +kernel
theorem dX8_best_41 : decode cX8_best 41 = .ok (.bipush 20, 2) := by decide +kernel
theorem dX8_best_43 : decode cX8_best 43 = .ok (.if_icmp .gt 35, 3) := by decide +kernel
theorem dX8_best_46 : decode cX8_best 46 = .ok (.aload_n 0, 1) := by decide +kernel
theorem dX8_best_47 : decode cX8_best 47 = .ok (.getfield 35, 3) := by decide +kernel
theorem dX8_best_50 : decode cX8_best 50 = .ok (.iload_n 1, 1) := by decide +kernel
theorem dX8_best_51 : decode cX8_best 51 = .ok (.iload 5, 2) := by decide +kernel
theorem dX8_best_53 : decode cX8_best 53 = .ok (.invokevirtual 223, 3) := by decide +kernel
theorem dX8_best_56 : decode cX8_best 56 = .ok (.istore 6, 2) := by decide +kernel
theorem dX8_best_58 : decode cX8_best 58 = .ok (.iload 6, 2) := by decide +kernel
theorem dX8_best_60 : decode cX8_best 60 = .ok (.iload 4, 2) := by decide +kernel
theorem dX8_best_62 : decode cX8_best 62 = .ok (.if_icmp .le 10, 3) := by decide +kernel
theorem dX8_best_65 : decode cX8_best 65 = .ok (.iload 6, 2) := by decide +kernel
theorem dX8_best_67 : decode cX8_best 67 = .ok (.istore 4, 2) := by decide +kernel
theorem dX8_best_69 : decode cX8_best 69 = .ok (.iload 5, 2) := by decide +kernel
theorem dX8_best_71 : decode cX8_best 71 = .ok (.istore_n 3, 1) := by decide +kernel
theorem dX8_best_72 : decode cX8_best 72 = .ok (.iinc 5 1, 3) := by decide +kernel
theorem dX8_best_75 : decode cX8_best 75 = .ok (.goto (-36), 3) := by decide +kernel
theorem dX8_best_78 : decode cX8_best 78 = .ok (.iload_n 2, 1) := by decide +kernel
theorem dX8_best_79 : decode cX8_best 79 = .ok (.ifCond .ne 7, 3) := by decide +kernel
theorem dX8_best_82 : decode cX8_best 82 = .ok (.iload_n 3, 1) := by decide +kernel
theorem dX8_best_83 : decode cX8_best 83 = .ok (.goto 5, 3) := by decide +kernel
theorem dX8_best_86 : decode cX8_best 86 = .ok (.iload 4, 2) := by decide +kernel
theorem dX8_best_88 : decode cX8_best 88 = .ok (.ireturn, 1) := by decide +kernel
theorem dX8_beds_0 : decode cX8_beds 0 = .ok (.iload_n 1, 1) := by decide +kernel
theorem dX8_beds_1 : decode cX8_beds 1 = .ok (.iconst 0, 1) := by decide +kernel
theorem dX8_beds_2 : decode cX8_beds 2 = .ok (.sipush 198, 3) := by decide +kernel
theorem dX8_beds_5 : decode cX8_beds 5 = .ok (.invokestatic 83, 3) := by decide +kernel
theorem dX8_beds_8 : decode cX8_beds 8 = .ok (.ifCond .ne 5, 3) := by decide +kernel
theorem dX8_beds_11 : decode cX8_beds 11 = .ok (.iconst (-1), 1) := by decide +kernel
theorem dX8_beds_12 : decode cX8_beds 12 = .ok (.ireturn, 1) := by decide +kernel
theorem dX8_beds_13 : decode cX8_beds 13 = .ok (.iload_n 2, 1) := by decide +kernel
theorem dX8_beds_14 : decode cX8_beds 14 = .ok (.iconst (-1), 1) := by decide +kernel
theorem dX8_beds_15 : decode cX8_beds 15 = .ok (.if_icmp .eq 16, 3) := by decide +kernel
theorem dX8_beds_18 : decode cX8_beds 18 = .ok (.aload_n 0, 1) := by decide +kernel
theorem dX8_beds_19 : decode cX8_beds 19 = .ok (.getfield 10, 3) := by decide +kernel
theorem dX8_beds_22 : decode cX8_beds 22 = .ok (.iload_n 2, 1) := by decide +kernel
theorem dX8_beds_23 : decode cX8_beds 23 = .ok (.invokevirtual 112, 3) := by decide +kernel
theorem dX8_beds_26 : decode cX8_beds 26 = .ok (.ifCond .ne 5, 3) := by decide +kernel
theorem dX8_beds_29 : decode cX8_beds 29 = .ok (.iconst (-1), 1) := by decide +kernel
theorem dX8_beds_30 : decode cX8_beds 30 = .ok (.ireturn, 1) := by decide +kernel
theorem dX8_beds_31 : decode cX8_beds 31 = .ok (.aload_n 0, 1) := by decide +kernel
theorem dX8_beds_32 : decode cX8_beds 32 = .ok (.getfield 51, 3) := by decide +kernel
theorem dX8_beds_35 : decode cX8_beds 35 = .ok (.iload_n 1, 1) := by decide +kernel
theorem dX8_beds_36 : decode cX8_beds 36 = .ok (.invokevirtual 226, 3) := by decide +kernel
theorem dX8_beds_39 : decode cX8_beds 39 = .ok (.iload_n 2, 1) := by decide +kernel
theorem dX8_beds_40 : decode cX8_beds 40 = .ok (.iconst (-1), 1) := by decide +kernel
theorem dX8_beds_41 : decode cX8_beds 41 = .ok (.if_icmp .ne 13, 3) := by decide +kernel
theorem dX8_beds_44 : decode cX8_beds 44 = .ok (.aload_n 0, 1) := by decide +kernel
theorem dX8_beds_45 : decode cX8_beds 45 = .ok (.getfield 51, 3) := by decide +kernel
theorem dX8_beds_48 : decode cX8_beds 48 = .ok (.getfield 229, 3) := by decide +kernel
theorem dX8_beds_51 : decode cX8_beds 51 = .ok (.goto 12, 3) := by decide +kernel
theorem dX8_beds_54 : decode cX8_beds 54 = .ok (.aload_n 0, 1) := by decide +kernel
theorem dX8_beds_55 : decode cX8_beds 55 = .ok (.getfield 51, 3) := by decide +kernel
theorem dX8_beds_58 : decode cX8_beds 58 = .ok (.getfield 230, 3) := by decide +kernel
theorem dX8_beds_61 : decode cX8_beds 61 = .ok (.iload_n 2, 1) := by decide +kernel
theorem dX8_beds_62 : decode cX8_beds 62 = .ok (.iaload, 1) := by decide +kernel
theorem dX8_beds_63 : decode cX8_beds 63 = .ok (.ireturn, 1) := by decide +kernel
theorem dX8_odds_0 : decode cX8_odds 0 = .ok (.iload_n 1, 1) := by decide +kernel
theorem dX8_odds_1 : decode cX8_odds 1 = .ok (.iconst 0, 1) := by decide +kernel
theorem dX8_odds_2 : decode cX8_odds 2 = .ok (.bipush 10, 2) := by decide +kernel
theorem dX8_odds_4 : decode cX8_odds 4 = .ok (.invokestatic 83, 3) := by decide +kernel
theorem dX8_odds_7 : decode cX8_odds 7 = .ok (.ifCond .eq 22, 3) := by decide +kernel
theorem dX8_odds_10 : decode cX8_odds 10 = .ok (.iload_n 2, 1) := by decide +kernel
theorem dX8_odds_11 : decode cX8_odds 11 = .ok (.iconst 0, 1) := by decide +kernel
theorem dX8_odds_12 : decode cX8_odds 12 = .ok (.bipush 6, 2) := by decide +kernel
theorem dX8_odds_14 : decode cX8_odds 14 = .ok (.invokestatic 83, 3) := by decide +kernel
theorem dX8_odds_17 : decode cX8_odds 17 = .ok (.ifCond .eq 12, 3) := by decide +kernel
theorem dX8_odds_20 : decode cX8_odds 20 = .ok (.iload_n 3, 1) := by decide +kernel
theorem dX8_odds_21 : decode cX8_odds 21 = .ok (.iconst 0, 1) := by decide +kernel
theorem dX8_odds_22 : decode cX8_odds 22 = .ok (.iconst 1, 1) := by decide +kernel
theorem dX8_odds_23 : decode cX8_odds 23 = .ok (.invokestatic 83, 3) := by decide +kernel
theorem dX8_odds_26 : decode cX8_odds 26 = .ok (.ifCond .ne 5, 3) := by decide +kernel
theorem dX8_odds_29 : decode cX8_odds 29 = .ok (.iconst (-1), 1) := by decide +kernel
theorem dX8_odds_30 : decode cX8_odds 30 = .ok (.ireturn, 1) := by decide +kernel
theorem dX8_odds_31 : decode cX8_odds 31 = .ok (.aload_n 0, 1) := by decide +kernel
theorem dX8_odds_32 : decode cX8_odds 32 = .ok (.iload_n 1, 1) := by decide +kernel
theorem dX8_odds_33 : decode cX8_odds 33 = .ok (.iload_n 2, 1) := by decide +kernel
theorem dX8_odds_34 : decode cX8_odds 34 = .ok (.invokevirtual 231, 3) := by decide +kernel
theorem dX8_odds_37 : decode cX8_odds 37 = .ok (.istore 4, 2) := by decide +kernel
theorem dX8_odds_39 : decode cX8_odds 39 = .ok (.aload_n 0, 1) := by decide +kernel
theorem dX8_odds_40 : decode cX8_odds 40 = .ok (.iload_n 1, 1) := by decide +kernel
theorem dX8_odds_41 : decode cX8_odds 41 = .ok (.bipush 6, 2) := by decide +kernel
theorem dX8_odds_43 : decode cX8_odds 43 = .ok (.invokevirtual 231, 3) := by decide +kernel
theorem dX8_odds_46 : decode cX8_odds 46 = .ok (.istore 5, 2) := by decide +kernel
theorem dX8_odds_48 : decode cX8_odds 48 = .ok (.iload 4, 2) := by decide +kernel
theorem dX8_odds_50 : decode cX8_odds 50 = .ok (.iload 5, 2) := by decide +kernel
theorem dX8_odds_52 : decode cX8_odds 52 = .ok (.invokestatic 234, 3) := by decide +kernel
theorem dX8_odds_55 : decode cX8_odds 55 = .ok (.istore 6, 2) := by decide +kernel
theorem dX8_odds_57 : decode cX8_odds 57 = .ok (.iload 6, 2) := by decide +kernel
theorem dX8_odds_59 : decode cX8_odds 59 = .ok (.ifCond .ne 5, 3) := by decide +kernel
theorem dX8_odds_62 : decode cX8_odds 62 = .ok (.iconst (-1), 1) := by decide +kernel
theorem dX8_odds_63 : decode cX8_odds 63 = .ok (.ireturn, 1) := by decide +kernel
theorem dX8_odds_64 : decode cX8_odds 64 = .ok (.iload_n 3, 1) := by decide +kernel
theorem dX8_odds_65 : decode cX8_odds 65 = .ok (.ifCond .ne 8, 3) := by decide +kernel
theorem dX8_odds_68 : decode cX8_odds 68 = .ok (.iload 4, 2) := by decide +kernel
theorem dX8_odds_70 : decode cX8_odds 70 = .ok (.goto 5, 3) := by decide +kernel
theorem dX8_odds_73 : decode cX8_odds 73 = .ok (.iload 5, 2) := by decide +kernel
theorem dX8_odds_75 : decode cX8_odds 75 = .ok (.iload 6, 2) := by decide +kernel
theorem dX8_odds_77 : decode cX8_odds 77 = .ok (.idiv, 1) := by decide +kernel
theorem dX8_odds_78 : decode cX8_odds 78 = .ok (.ireturn, 1) := by decide +kernel
theorem dX8_hears_0 : decode cX8_hears 0 = .ok (.iload_n 1, 1) := by decide +kernel
theorem dX8_hears_1 : decode cX8_hears 1 = .ok (.iconst 0, 1) := by decide +kernel
theorem dX8_hears_2 : decode cX8_hears 2 = .ok (.bipush 99, 2) := by decide +kernel
theorem dX8_hears_4 : decode cX8_hears 4 = .ok (.invokestatic 83, 3) := by decide +kernel
theorem dX8_hears_7 : decode cX8_hears 7 = .ok (.ifCond .eq 12, 3) := by decide +kernel
theorem dX8_hears_10 : decode cX8_hears 10 = .ok (.iload_n 2, 1) := by decide +kernel
theorem dX8_hears_11 : decode cX8_hears 11 = .ok (.iconst 0, 1) := by decide +kernel
theorem dX8_hears_12 : decode cX8_hears 12 = .ok (.iconst 1, 1) := by decide +kernel
theorem dX8_hears_13 : decode cX8_hears 13 = .ok (.invokestatic 83, 3) := by decide +kernel
theorem dX8_hears_16 : decode cX8_hears 16 = .ok (.ifCond .ne 5, 3) := by decide +kernel
theorem dX8_hears_19 : decode cX8_hears 19 = .ok (.iconst (-1), 1) := by decide +kernel
theorem dX8_hears_20 : decode cX8_hears 20 = .ok (.ireturn, 1) := by decide +kernel
theorem dX8_hears_21 : decode cX8_hears 21 = .ok (.aload_n 0, 1) := by decide +kernel
theorem dX8_hears_22 : decode cX8_hears 22 = .ok (.getfield 58, 3) := by decide +kernel
theorem dX8_hears_25 : decode cX8_hears 25 = .ok (.iload_n 1, 1) := by decide +kernel
theorem dX8_hears_26 : decode cX8_hears 26 = .ok (.iload_n 2, 1) := by decide +kernel
theorem dX8_hears_27 : decode cX8_hears 27 = .ok (.invokevirtual 237, 3) := by decide +kernel
theorem dX8_hears_30 : decode cX8_hears 30 = .ok (.ifCond .eq 13, 3) := by decide +kernel
theorem dX8_hears_33 : decode cX8_hears 33 = .ok (.aload_n 0, 1) := by decide +kernel
theorem dX8_hears_34 : decode cX8_hears 34 = .ok (.getfield 58, 3) := by decide +kernel
theorem dX8_hears_37 : decode cX8_hears 37 = .ok (.getfield 239, 3) := by decide +kernel
theorem dX8_hears_40 : decode cX8_hears 40 = .ok (.goto 5, 3) := by decide +kernel
theorem dX8_hears_43 : decode cX8_hears 43 = .ok (.bipush (-3), 2) := by decide +kernel
theorem dX8_hears_45 : decode cX8_hears 45 = .ok (.ireturn, 1) := by decide +kernel
theorem dX8_forget_0 : decode cX8_forget 0 = .ok (.aload_n 0, 1) := by decide +kernel
theorem dX8_forget_1 : decode cX8_forget 1 = .ok (.getfield 58, 3) := by decide +kernel
theorem dX8_forget_4 : decode cX8_forget 4 = .ok (.invokevirtual 108, 3) := by decide +kernel
theorem dX8_forget_7 : decode cX8_forget 7 = .ok (.ireturn, 1) := by decide +kernel
theorem dX8_whose_0 : decode cX8_whose 0 = .ok (.aload_n 0, 1) := by decide +kernel
theorem dX8_whose_1 : decode cX8_whose 1 = .ok (.getfield 58, 3) := by decide +kernel
theorem dX8_whose_4 : decode cX8_whose 4 = .ok (.invokevirtual 242, 3) := by decide +kernel
theorem dX8_whose_7 : decode cX8_whose 7 = .ok (.ireturn, 1) := by decide +kernel
theorem dX8_ask_0 : decode cX8_ask 0 = .ok (.aload_n 0, 1) := by decide +kernel
theorem dX8_ask_1 : decode cX8_ask 1 = .ok (.getfield 58, 3) := by decide +kernel
theorem dX8_ask_4 : decode cX8_ask 4 = .ok (.invokevirtual 245, 3) := by decide +kernel
theorem dX8_ask_7 : decode cX8_ask 7 = .ok (.ireturn, 1) := by decide +kernel
theorem dX8_mark_0 : decode cX8_mark 0 = .ok (.aload_n 0, 1) := by decide +kernel
theorem dX8_mark_1 : decode cX8_mark 1 = .ok (.getfield 10, 3) := by decide +kernel
theorem dX8_mark_4 : decode cX8_mark 4 = .ok (.iload_n 2, 1) := by decide +kernel
theorem dX8_mark_5 : decode cX8_mark 5 = .ok (.invokevirtual 112, 3) := by decide +kernel
theorem dX8_mark_8 : decode cX8_mark 8 = .ok (.ifCond .ne 6, 3) := by decide +kernel
theorem dX8_mark_11 : decode cX8_mark 11 = .ok (.ldc 222, 2) := by decide +kernel
theorem dX8_mark_13 : decode cX8_mark 13 = .ok (.ireturn, 1) := by decide +kernel
theorem dX8_mark_14 : decode cX8_mark 14 = .ok (.iload_n 1, 1) := by decide +kernel
theorem dX8_mark_15 : decode cX8_mark 15 = .ok (.tableswitch 91 0 5 #[37, 46, 55, 64, 73, 82], 37) := by decide +kernel
theorem dX8_mark_52 : decode cX8_mark 52 = .ok (.aload_n 0, 1) := by decide +kernel
theorem dX8_mark_53 : decode cX8_mark 53 = .ok (.getfield 65, 3) := by decide +kernel
theorem dX8_mark_56 : decode cX8_mark 56 = .ok (.iload_n 2, 1) := by decide +kernel
theorem dX8_mark_57 : decode cX8_mark 57 = .ok (.invokevirtual 248, 3) := by decide +kernel
theorem dX8_mark_60 : decode cX8_mark 60 = .ok (.ireturn, 1) := by decide +kernel
theorem dX8_mark_61 : decode cX8_mark 61 = .ok (.aload_n 0, 1) := by decide +kernel
theorem dX8_mark_62 : decode cX8_mark 62 = .ok (.getfield 65, 3) := by decide +kernel
theorem dX8_mark_65 : decode cX8_mark 65 = .ok (.iload_n 2, 1) := by decide +kernel
theorem dX8_mark_66 : decode cX8_mark 66 = .ok (.invokevirtual 251, 3) := by decide +kernel
theorem dX8_mark_69 : decode cX8_mark 69 = .ok (.ireturn, 1) := by decide +kernel
theorem dX8_mark_70 : decode cX8_mark 70 = .ok (.aload_n 0, 1) := by decide +kernel
theorem dX8_mark_71 : decode cX8_mark 71 = .ok (.getfield 65, 3) := by decide +kernel
theorem dX8_mark_74 : decode cX8_mark 74 = .ok (.iload_n 2, 1) := by decide +kernel
theorem dX8_mark_75 : decode cX8_mark 75 = .ok (.invokevirtual 254, 3) := by decide +kernel
theorem dX8_mark_78 : decode cX8_mark 78 = .ok (.ireturn, 1) := by decide +kernel
theorem dX8_mark_79 : decode cX8_mark 79 = .ok (.aload_n 0, 1) := by decide +kernel
theorem dX8_mark_80 : decode cX8_mark 80 = .ok (.getfield 65, 3) := by decide +kernel
theorem dX8_mark_83 : decode cX8_mark 83 = .ok (.iload_n 2, 1) := by decide +kernel
theorem dX8_mark_84 : decode cX8_mark 84 = .ok (.invokevirtual 257, 3) := by decide +kernel
theorem dX8_mark_87 : decode cX8_mark 87 = .ok (.ireturn, 1) := by decide +kernel
theorem dX8_mark_88 : decode cX8_mark 88 = .ok (.aload_n 0, 1) := by decide +kernel
theorem dX8_mark_89 : decode cX8_mark 89 = .ok (.getfield 65, 3) := by decide +kernel
theorem dX8_mark_92 : decode cX8_mark 92 = .ok (.iload_n 2, 1) := by decide +kernel
theorem dX8_mark_93 : decode cX8_mark 93 = .ok (.invokevirtual 260, 3) := by decide +kernel
theorem dX8_mark_96 : decode cX8_mark 96 = .ok (.ireturn, 1) := by decide +kernel
theorem dX8_mark_97 : decode cX8_mark 97 = .ok (.aload_n 0, 1) := by decide +kernel
theorem dX8_mark_98 : decode cX8_mark 98 = .ok (.getfield 65, 3) := by decide +kernel
theorem dX8_mark_101 : decode cX8_mark 101 = .ok (.iload_n 2, 1) := by decide +kernel
theorem dX8_mark_102 : decode cX8_mark 102 = .ok (.invokevirtual 263, 3) := by decide +kernel
theorem dX8_mark_105 : decode cX8_mark 105 = .ok (.ireturn, 1) := by decide +kernel
theorem dX8_mark_106 : decode cX8_mark 106 = .ok (.ldc 222, 2) := by decide +kernel
theorem dX8_mark_108 : decode cX8_mark 108 = .ok (.ireturn, 1) := by decide +kernel
theorem dX8_keep_0 : decode cX8_keep 0 = .ok (.iload_n 1, 1) := by decide +kernel
theorem dX8_keep_1 : decode cX8_keep 1 = .ok (.iconst 0, 1) := by decide +kernel
theorem dX8_keep_2 : decode cX8_keep 2 = .ok (.iconst 1, 1) := by decide +kernel
theorem dX8_keep_3 : decode cX8_keep 3 = .ok (.invokestatic 83, 3) := by decide +kernel
theorem dX8_keep_6 : decode cX8_keep 6 = .ok (.ifCond .ne 5, 3) := by decide +kernel
theorem dX8_keep_9 : decode cX8_keep 9 = .ok (.iconst (-1), 1) := by decide +kernel
theorem dX8_keep_10 : decode cX8_keep 10 = .ok (.ireturn, 1) := by decide +kernel
theorem dX8_keep_11 : decode cX8_keep 11 = .ok (.aload_n 0, 1) := by decide +kernel
theorem dX8_keep_12 : decode cX8_keep 12 = .ok (.iload_n 1, 1) := by decide +kernel
theorem dX8_keep_13 : decode cX8_keep 13 = .ok (.invokevirtual 266, 3) := by decide +kernel
theorem dX8_keep_16 : decode cX8_keep 16 = .ok (.aload_n 0, 1) := by decide +kernel
theorem dX8_keep_17 : decode cX8_keep 17 = .ok (.getfield 26, 3) := by decide +kernel
theorem dX8_keep_20 : decode cX8_keep 20 = .ok (.invokevirtual 270, 3) := by decide +kernel
theorem dX8_keep_23 : decode cX8_keep 23 = .ok (.aload_n 0, 1) := by decide +kernel
theorem dX8_keep_24 : decode cX8_keep 24 = .ok (.dup, 1) := by decide +kernel
theorem dX8_keep_25 : decode cX8_keep 25 = .ok (.getfield 109, 3) := by decide +kernel
theorem dX8_keep_28 : decode cX8_keep 28 = .ok (.iload_n 1, 1) := by decide +kernel
theorem dX8_keep_29 : decode cX8_keep 29 = .ok (.invokestatic 273, 3) := by decide +kernel
theorem dX8_keep_32 : decode cX8_keep 32 = .ok (.ior, 1) := by decide +kernel
theorem dX8_keep_33 : decode cX8_keep 33 = .ok (.putfield 109, 3) := by decide +kernel
theorem dX8_keep_36 : decode cX8_keep 36 = .ok (.aload_n 0, 1) := by decide +kernel
theorem dX8_keep_37 : decode cX8_keep 37 = .ok (.getfield 26, 3) := by decide +kernel
theorem dX8_keep_40 : decode cX8_keep 40 = .ok (.invokevirtual 183, 3) := by decide +kernel
theorem dX8_keep_43 : decode cX8_keep 43 = .ok (.ireturn, 1) := by decide +kernel
theorem dX8_back_0 : decode cX8_back 0 = .ok (.iload_n 1, 1) := by decide +kernel
theorem dX8_back_1 : decode cX8_back 1 = .ok (.iconst 0, 1) := by decide +kernel
theorem dX8_back_2 : decode cX8_back 2 = .ok (.iconst 1, 1) := by decide +kernel
theorem dX8_back_3 : decode cX8_back 3 = .ok (.invokestatic 83, 3) := by decide +kernel
theorem dX8_back_6 : decode cX8_back 6 = .ok (.ifCond .ne 5, 3) := by decide +kernel
theorem dX8_back_9 : decode cX8_back 9 = .ok (.iconst (-1), 1) := by decide +kernel
theorem dX8_back_10 : decode cX8_back 10 = .ok (.ireturn, 1) := by decide +kernel
theorem dX8_back_11 : decode cX8_back 11 = .ok (.aload_n 0, 1) := by decide +kernel
theorem dX8_back_12 : decode cX8_back 12 = .ok (.getfield 109, 3) := by decide +kernel
theorem dX8_back_15 : decode cX8_back 15 = .ok (.iload_n 1, 1) := by decide +kernel
theorem dX8_back_16 : decode cX8_back 16 = .ok (.invokestatic 273, 3) := by decide +kernel
theorem dX8_back_19 : decode cX8_back 19 = .ok (.iand, 1) := by decide +kernel
theorem dX8_back_20 : decode cX8_back 20 = .ok (.ifCond .ne 6, 3) := by decide +kernel
theorem dX8_back_23 : decode cX8_back 23 = .ok (.bipush (-2), 2) := by decide +kernel
theorem dX8_back_25 : decode cX8_back 25 = .ok (.ireturn, 1) := by decide +kernel
theorem dX8_back_26 : decode cX8_back 26 = .ok (.aload_n 0, 1) := by decide +kernel
theorem dX8_back_27 : decode cX8_back 27 = .ok (.getfield 26, 3) := by decide +kernel
theorem dX8_back_30 : decode cX8_back 30 = .ok (.aload_n 0, 1) := by decide +kernel
theorem dX8_back_31 : decode cX8_back 31 = .ok (.iload_n 1, 1) := by decide +kernel
theorem dX8_back_32 : decode cX8_back 32 = .ok (.invokevirtual 266, 3) := by decide +kernel
theorem dX8_back_35 : decode cX8_back 35 = .ok (.invokevirtual 270, 3) := by decide +kernel
theorem dX8_back_38 : decode cX8_back 38 = .ok (.aload_n 0, 1) := by decide +kernel
theorem dX8_back_39 : decode cX8_back 39 = .ok (.getfield 26, 3) := by decide +kernel
theorem dX8_back_42 : decode cX8_back 42 = .ok (.invokevirtual 183, 3) := by decide +kernel
theorem dX8_back_45 : decode cX8_back 45 = .ok (.ireturn, 1) := by decide +kernel
theorem dX8_count_0 : decode cX8_count 0 = .ok (.iload_n 1, 1) := by decide +kernel
theorem dX8_count_1 : decode cX8_count 1 = .ok (.tableswitch 75 0 4 #[35, 43, 51, 59, 67], 35) := by decide +kernel
theorem dX8_count_36 : decode cX8_count 36 = .ok (.aload_n 0, 1) := by decide +kernel
theorem dX8_count_37 : decode cX8_count 37 = .ok (.getfield 10, 3) := by decide +kernel
theorem dX8_count_40 : decode cX8_count 40 = .ok (.getfield 177, 3) := by decide +kernel
theorem dX8_count_43 : decode cX8_count 43 = .ok (.ireturn, 1) := by decide +kernel
theorem dX8_count_44 : decode cX8_count 44 = .ok (.aload_n 0, 1) := by decide +kernel
theorem dX8_count_45 : decode cX8_count 45 = .ok (.getfield 10, 3) := by decide +kernel
theorem dX8_count_48 : decode cX8_count 48 = .ok (.getfield 276, 3) := by decide +kernel
theorem dX8_count_51 : decode cX8_count 51 = .ok (.ireturn, 1) := by decide +kernel
theorem dX8_count_52 : decode cX8_count 52 = .ok (.aload_n 0, 1) := by decide +kernel
theorem dX8_count_53 : decode cX8_count 53 = .ok (.getfield 58, 3) := by decide +kernel
theorem dX8_count_56 : decode cX8_count 56 = .ok (.getfield 239, 3) := by decide +kernel
theorem dX8_count_59 : decode cX8_count 59 = .ok (.ireturn, 1) := by decide +kernel
theorem dX8_count_60 : decode cX8_count 60 = .ok (.aload_n 0, 1) := by decide +kernel
theorem dX8_count_61 : decode cX8_count 61 = .ok (.getfield 26, 3) := by decide +kernel
theorem dX8_count_64 : decode cX8_count 64 = .ok (.getfield 201, 3) := by decide +kernel
theorem dX8_count_67 : decode cX8_count 67 = .ok (.ireturn, 1) := by decide +kernel
theorem dX8_count_68 : decode cX8_count 68 = .ok (.aload_n 0, 1) := by decide +kernel
theorem dX8_count_69 : decode cX8_count 69 = .ok (.getfield 19, 3) := by decide +kernel
theorem dX8_count_72 : decode cX8_count 72 = .ok (.getfield 91, 3) := by decide +kernel
theorem dX8_count_75 : decode cX8_count 75 = .ok (.ireturn, 1) := by decide +kernel
theorem dX8_count_76 : decode cX8_count 76 = .ok (.iconst (-1), 1) := by decide +kernel
theorem dX8_count_77 : decode cX8_count 77 = .ok (.ireturn, 1) := by decide +kernel
theorem dX8_trace_0 : decode cX8_trace 0 = .ok (.aload_n 0, 1) := by decide +kernel
theorem dX8_trace_1 : decode cX8_trace 1 = .ok (.getfield 65, 3) := by decide +kernel
theorem dX8_trace_4 : decode cX8_trace 4 = .ok (.getfield 279, 3) := by decide +kernel
theorem dX8_trace_7 : decode cX8_trace 7 = .ok (.lreturn, 1) := by decide +kernel
theorem dX8_isWithin_0 : decode cX8_isWithin 0 = .ok (.iload_n 0, 1) := by decide +kernel
theorem dX8_isWithin_1 : decode cX8_isWithin 1 = .ok (.iload_n 1, 1) := by decide +kernel
theorem dX8_isWithin_2 : decode cX8_isWithin 2 = .ok (.if_icmp .lt 12, 3) := by decide +kernel
theorem dX8_isWithin_5 : decode cX8_isWithin 5 = .ok (.iload_n 0, 1) := by decide +kernel
theorem dX8_isWithin_6 : decode cX8_isWithin 6 = .ok (.iload_n 2, 1) := by decide +kernel
theorem dX8_isWithin_7 : decode cX8_isWithin 7 = .ok (.if_icmp .gt 7, 3) := by decide +kernel
theorem dX8_isWithin_10 : decode cX8_isWithin 10 = .ok (.iconst 1, 1) := by decide +kernel
theorem dX8_isWithin_11 : decode cX8_isWithin 11 = .ok (.goto 4, 3) := by decide +kernel
theorem dX8_isWithin_14 : decode cX8_isWithin 14 = .ok (.iconst 0, 1) := by decide +kernel
theorem dX8_isWithin_15 : decode cX8_isWithin 15 = .ok (.ireturn, 1) := by decide +kernel
theorem dX8_bit_0 : decode cX8_bit 0 = .ok (.iconst 1, 1) := by decide +kernel
theorem dX8_bit_1 : decode cX8_bit 1 = .ok (.iload_n 0, 1) := by decide +kernel
theorem dX8_bit_2 : decode cX8_bit 2 = .ok (.ishl, 1) := by decide +kernel
theorem dX8_bit_3 : decode cX8_bit 3 = .ok (.ireturn, 1) := by decide +kernel
theorem dX8_imageOf_0 : decode cX8_imageOf 0 = .ok (.iload_n 1, 1) := by decide +kernel
theorem dX8_imageOf_1 : decode cX8_imageOf 1 = .ok (.ifCond .ne 10, 3) := by decide +kernel
theorem dX8_imageOf_4 : decode cX8_imageOf 4 = .ok (.aload_n 0, 1) := by decide +kernel
theorem dX8_imageOf_5 : decode cX8_imageOf 5 = .ok (.getfield 69, 3) := by decide +kernel
theorem dX8_imageOf_8 : decode cX8_imageOf 8 = .ok (.goto 7, 3) := by decide +kernel
theorem dX8_imageOf_11 : decode cX8_imageOf 11 = .ok (.aload_n 0, 1) := by decide +kernel
theorem dX8_imageOf_12 : decode cX8_imageOf 12 = .ok (.getfield 72, 3) := by decide +kernel
theorem dX8_imageOf_15 : decode cX8_imageOf 15 = .ok (.areturn, 1) := by decide +kernel
theorem dX8_countLooseWays_0 : decode cX8_countLooseWays 0 = .ok (.aload_n 0, 1) := by decide +kernel
theorem dX8_countLooseWays_1 : decode cX8_countLooseWays 1 = .ok (.getfield 75, 3) := by decide +kernel
theorem dX8_countLooseWays_4 : decode cX8_countLooseWays 4 = .ok (.iconst 0, 1) := by decide +kernel
theorem dX8_countLooseWays_5 : decode cX8_countLooseWays 5 = .ok (.invokestatic 283, 3) := by decide +kernel
theorem dX8_countLooseWays_8 : decode cX8_countLooseWays 8 = .ok (.aload_n 0, 1) := by decide +kernel
theorem dX8_countLooseWays_9 : decode cX8_countLooseWays 9 = .ok (.getfield 75, 3) := by decide +kernel
theorem dX8_countLooseWays_12 : decode cX8_countLooseWays 12 = .ok (.iconst 0, 1) := by decide +kernel
theorem dX8_countLooseWays_13 : decode cX8_countLooseWays 13 = .ok (.iconst 1, 1) := by decide +kernel
theorem dX8_countLooseWays_14 : decode cX8_countLooseWays 14 = .ok (.iastore, 1) := by decide +kernel
theorem dX8_countLooseWays_15 : decode cX8_countLooseWays 15 = .ok (.iconst 0, 1) := by decide +kernel
theorem dX8_countLooseWays_16 : decode cX8_countLooseWays 16 = .ok (.istore_n 3, 1) := by decide +kernel
theorem dX8_countLooseWays_17 : decode cX8_countLooseWays 17 = .ok (.iload_n 3, 1) := by decide +kernel
theorem dX8_countLooseWays_18 : decode cX8_countLooseWays 18 = .ok (.aload_n 0, 1) := by decide +kernel
theorem dX8_countLooseWays_19 : decode cX8_countLooseWays 19 = .ok (.getfield 10, 3) := by decide +kernel
theorem dX8_countLooseWays_22 : decode cX8_countLooseWays 22 = .ok (.getfield 177, 3) := by decide +kernel
theorem dX8_countLooseWays_25 : decode cX8_countLooseWays 25 = .ok (.if_icmp .ge 82, 3) := by decide +kernel
theorem dX8_countLooseWays_28 : decode cX8_countLooseWays 28 = .ok (.aload_n 0, 1) := by decide +kernel
theorem dX8_countLooseWays_29 : decode cX8_countLooseWays 29 = .ok (.getfield 26, 3) := by decide +kernel
theorem dX8_countLooseWays_32 : decode cX8_countLooseWays 32 = .ok (.iload_n 3, 1) := by decide +kernel
theorem dX8_countLooseWays_33 : decode cX8_countLooseWays 33 = .ok (.invokevirtual 115, 3) := by decide +kernel
theorem dX8_countLooseWays_36 : decode cX8_countLooseWays 36 = .ok (.ifCond .ne 6, 3) := by decide +kernel
theorem dX8_countLooseWays_39 : decode cX8_countLooseWays 39 = .ok (.goto 62, 3) := by decide +kernel
theorem dX8_countLooseWays_42 : decode cX8_countLooseWays 42 = .ok (.bipush 6, 2) := by decide +kernel
theorem dX8_countLooseWays_44 : decode cX8_countLooseWays 44 = .ok (.istore 4, 2) := by decide +kernel
theorem dX8_countLooseWays_46 : decode cX8_countLooseWays 46 = .ok (.iload 4, 2) := by decide +kernel
theorem dX8_countLooseWays_48 : decode cX8_countLooseWays 48 = .ok (.ifCond .le 40, 3) := by decide +kernel
theorem dX8_countLooseWays_51 : decode cX8_countLooseWays 51 = .ok (.aload_n 0, 1) := by decide +kernel
theorem dX8_countLooseWays_52 : decode cX8_countLooseWays 52 = .ok (.getfield 75, 3) := by decide +kernel
theorem dX8_countLooseWays_55 : decode cX8_countLooseWays 55 = .ok (.iload 4, 2) := by decide +kernel
theorem dX8_countLooseWays_57 : decode cX8_countLooseWays 57 = .ok (.aload_n 0, 1) := by decide +kernel
theorem dX8_countLooseWays_58 : decode cX8_countLooseWays 58 = .ok (.getfield 75, 3) := by decide +kernel
theorem dX8_countLooseWays_61 : decode cX8_countLooseWays 61 = .ok (.iload 4, 2) := by decide +kernel
theorem dX8_countLooseWays_63 : decode cX8_countLooseWays 63 = .ok (.iaload, 1) := by decide +kernel
theorem dX8_countLooseWays_64 : decode cX8_countLooseWays 64 = .ok (.bipush 10, 2) := by decide +kernel
theorem dX8_countLooseWays_66 : decode cX8_countLooseWays 66 = .ok (.iload_n 1, 1) := by decide +kernel
theorem dX8_countLooseWays_67 : decode cX8_countLooseWays 67 = .ok (.isub, 1) := by decide +kernel
theorem dX8_countLooseWays_68 : decode cX8_countLooseWays 68 = .ok (.imul, 1) := by decide +kernel
theorem dX8_countLooseWays_69 : decode cX8_countLooseWays 69 = .ok (.aload_n 0, 1) := by decide +kernel
theorem dX8_countLooseWays_70 : decode cX8_countLooseWays 70 = .ok (.getfield 75, 3) := by decide +kernel
theorem dX8_countLooseWays_73 : decode cX8_countLooseWays 73 = .ok (.iload 4, 2) := by decide +kernel
theorem dX8_countLooseWays_75 : decode cX8_countLooseWays 75 = .ok (.iconst 1, 1) := by decide +kernel
theorem dX8_countLooseWays_76 : decode cX8_countLooseWays 76 = .ok (.isub, 1) := by decide +kernel
theorem dX8_countLooseWays_77 : decode cX8_countLooseWays 77 = .ok (.iaload, 1) := by decide +kernel
theorem dX8_countLooseWays_78 : decode cX8_countLooseWays 78 = .ok (.iload_n 1, 1) := by decide +kernel
theorem dX8_countLooseWays_79 : decode cX8_countLooseWays 79 = .ok (.imul, 1) := by decide +kernel
theorem dX8_countLooseWays_80 : decode cX8_countLooseWays 80 = .ok (.iadd, 1) := by decide +kernel
theorem dX8_countLooseWays_81 : decode cX8_countLooseWays 81 = .ok (.iastore, 1) := by decide +kernel
theorem dX8_countLooseWays_82 : decode cX8_countLooseWays 82 = .ok (.iinc 4 (-1), 3) := by decide +kernel
theorem dX8_countLooseWays_85 : decode cX8_countLooseWays 85 = .ok (.goto (-39), 3) := by decide +kernel
theorem dX8_countLooseWays_88 : decode cX8_countLooseWays 88 = .ok (.aload_n 0, 1) := by decide +kernel
theorem dX8_countLooseWays_89 : decode cX8_countLooseWays 89 = .ok (.getfield 75, 3) := by decide +kernel
theorem dX8_countLooseWays_92 : decode cX8_countLooseWays 92 = .ok (.iconst 0, 1) := by decide +kernel
theorem dX8_countLooseWays_93 : decode cX8_countLooseWays 93 = .ok (.dup2, 1) := by decide +kernel
theorem dX8_countLooseWays_94 : decode cX8_countLooseWays 94 = .ok (.iaload, 1) := by decide +kernel
theorem dX8_countLooseWays_95 : decode cX8_countLooseWays 95 = .ok (.bipush 10, 2) := by decide +kernel
theorem dX8_countLooseWays_97 : decode cX8_countLooseWays 97 = .ok (.iload_n 1, 1) := by decide +kernel
theorem dX8_countLooseWays_98 : decode cX8_countLooseWays 98 = .ok (.isub, 1) := by decide +kernel
theorem dX8_countLooseWays_99 : decode cX8_countLooseWays 99 = .ok (.imul, 1) := by decide +kernel
theorem dX8_countLooseWays_100 : decode cX8_countLooseWays 100 = .ok (.iastore, 1) := by decide +kernel
theorem dX8_countLooseWays_101 : decode cX8_countLooseWays 101 = .ok (.iinc 3 1, 3) := by decide +kernel
theorem dX8_countLooseWays_104 : decode cX8_countLooseWays 104 = .ok (.goto (-87), 3) := by decide +kernel
theorem dX8_countLooseWays_107 : decode cX8_countLooseWays 107 = .ok (.iconst 0, 1) := by decide +kernel
theorem dX8_countLooseWays_108 : decode cX8_countLooseWays 108 = .ok (.istore_n 3, 1) := by decide +kernel
theorem dX8_countLooseWays_109 : decode cX8_countLooseWays 109 = .ok (.iconst 0, 1) := by decide +kernel
theorem dX8_countLooseWays_110 : decode cX8_countLooseWays 110 = .ok (.istore 4, 2) := by decide +kernel
theorem dX8_countLooseWays_112 : decode cX8_countLooseWays 112 = .ok (.iload 4, 2) := by decide +kernel
theorem dX8_countLooseWays_114 : decode cX8_countLooseWays 114 = .ok (.iload_n 2, 1) := by decide +kernel
theorem dX8_countLooseWays_115 : decode cX8_countLooseWays 115 = .ok (.if_icmp .gt 26, 3) := by decide +kernel
theorem dX8_countLooseWays_118 : decode cX8_countLooseWays 118 = .ok (.iload 4, 2) := by decide +kernel
theorem dX8_countLooseWays_120 : decode cX8_countLooseWays 120 = .ok (.bipush 6, 2) := by decide +kernel
theorem dX8_countLooseWays_122 : decode cX8_countLooseWays 122 = .ok (.if_icmp .gt 19, 3) := by decide +kernel
theorem dX8_countLooseWays_125 : decode cX8_countLooseWays 125 = .ok (.iload_n 3, 1) := by decide +kernel
theorem dX8_countLooseWays_126 : decode cX8_countLooseWays 126 = .ok (.aload_n 0, 1) := by decide +kernel
theorem dX8_countLooseWays_127 : decode cX8_countLooseWays 127 = .ok (.getfield 75, 3) := by decide +kernel
theorem dX8_countLooseWays_130 : decode cX8_countLooseWays 130 = .ok (.iload 4, 2) := by decide +kernel
theorem dX8_countLooseWays_132 : decode cX8_countLooseWays 132 = .ok (.iaload, 1) := by decide +kernel
theorem dX8_countLooseWays_133 : decode cX8_countLooseWays 133 = .ok (.iadd, 1) := by decide +kernel
theorem dX8_countLooseWays_134 : decode cX8_countLooseWays 134 = .ok (.istore_n 3, 1) := by decide +kernel
theorem dX8_countLooseWays_135 : decode cX8_countLooseWays 135 = .ok (.iinc 4 1, 3) := by decide +kernel
theorem dX8_countLooseWays_138 : decode cX8_countLooseWays 138 = .ok (.goto (-26), 3) := by decide +kernel
theorem dX8_countLooseWays_141 : decode cX8_countLooseWays 141 = .ok (.iload_n 3, 1) := by decide +kernel
theorem dX8_countLooseWays_142 : decode cX8_countLooseWays 142 = .ok (.ireturn, 1) := by decide +kernel
theorem dX8_commonDivisor_0 : decode cX8_commonDivisor 0 = .ok (.iload_n 0, 1) := by decide +kernel
theorem dX8_commonDivisor_1 : decode cX8_commonDivisor 1 = .ok (.istore_n 2, 1) := by decide +kernel
theorem dX8_commonDivisor_2 : decode cX8_commonDivisor 2 = .ok (.iload_n 1, 1) := by decide +kernel
theorem dX8_commonDivisor_3 : decode cX8_commonDivisor 3 = .ok (.istore_n 3, 1) := by decide +kernel
theorem dX8_commonDivisor_4 : decode cX8_commonDivisor 4 = .ok (.iconst 0, 1) := by decide +kernel
theorem dX8_commonDivisor_5 : decode cX8_commonDivisor 5 = .ok (.istore 4, 2) := by decide +kernel
theorem dX8_commonDivisor_7 : decode cX8_commonDivisor 7 = .ok (.iload 4, 2) := by decide +kernel
theorem dX8_commonDivisor_9 : decode cX8_commonDivisor 9 = .ok (.bipush 64, 2) := by decide +kernel
theorem dX8_commonDivisor_11 : decode cX8_commonDivisor 11 = .ok (.if_icmp .ge 23, 3) := by decide +kernel
theorem dX8_commonDivisor_14 : decode cX8_commonDivisor 14 = .ok (.iload_n 3, 1) := by decide +kernel
theorem dX8_commonDivisor_15 : decode cX8_commonDivisor 15 = .ok (.ifCond .eq 19, 3) := by decide +kernel
theorem dX8_commonDivisor_18 : decode cX8_commonDivisor 18 = .ok (.iload_n 2, 1) := by decide +kernel
theorem dX8_commonDivisor_19 : decode cX8_commonDivisor 19 = .ok (.iload_n 3, 1) := by decide +kernel
theorem dX8_commonDivisor_20 : decode cX8_commonDivisor 20 = .ok (.irem, 1) := by decide +kernel
theorem dX8_commonDivisor_21 : decode cX8_commonDivisor 21 = .ok (.istore 5, 2) := by decide +kernel
theorem dX8_commonDivisor_23 : decode cX8_commonDivisor 23 = .ok (.iload_n 3, 1) := by decide +kernel
theorem dX8_commonDivisor_24 : decode cX8_commonDivisor 24 = .ok (.istore_n 2, 1) := by decide +kernel
theorem dX8_commonDivisor_25 : decode cX8_commonDivisor 25 = .ok (.iload 5, 2) := by decide +kernel
theorem dX8_commonDivisor_27 : decode cX8_commonDivisor 27 = .ok (.istore_n 3, 1) := by decide +kernel
theorem dX8_commonDivisor_28 : decode cX8_commonDivisor 28 = .ok (.iinc 4 1, 3) := by decide +kernel
theorem dX8_commonDivisor_31 : decode cX8_commonDivisor 31 = .ok (.goto (-24), 3) := by decide +kernel
theorem dX8_commonDivisor_34 : decode cX8_commonDivisor 34 = .ok (.iload_n 2, 1) := by decide +kernel
theorem dX8_commonDivisor_35 : decode cX8_commonDivisor 35 = .ok (.ireturn, 1) := by decide +kernel
theorem dJ6_bitCount_0f7a4_0 : decode cJ6_bitCount_0f7a4 0 = .ok (.iload_n 0, 1) := by decide +kernel
theorem dJ6_bitCount_0f7a4_1 : decode cJ6_bitCount_0f7a4 1 = .ok (.iload_n 0, 1) := by decide +kernel
theorem dJ6_bitCount_0f7a4_2 : decode cJ6_bitCount_0f7a4 2 = .ok (.iconst 1, 1) := by decide +kernel
theorem dJ6_bitCount_0f7a4_3 : decode cJ6_bitCount_0f7a4 3 = .ok (.iushr, 1) := by decide +kernel
theorem dJ6_bitCount_0f7a4_4 : decode cJ6_bitCount_0f7a4 4 = .ok (.ldc_w 265, 3) := by decide +kernel
theorem dJ6_bitCount_0f7a4_7 : decode cJ6_bitCount_0f7a4 7 = .ok (.iand, 1) := by decide +kernel
theorem dJ6_bitCount_0f7a4_8 : decode cJ6_bitCount_0f7a4 8 = .ok (.isub, 1) := by decide +kernel
theorem dJ6_bitCount_0f7a4_9 : decode cJ6_bitCount_0f7a4 9 = .ok (.istore_n 0, 1) := by decide +kernel
theorem dJ6_bitCount_0f7a4_10 : decode cJ6_bitCount_0f7a4 10 = .ok (.iload_n 0, 1) := by decide +kernel
theorem dJ6_bitCount_0f7a4_11 : decode cJ6_bitCount_0f7a4 11 = .ok (.ldc_w 266, 3) := by decide +kernel
theorem dJ6_bitCount_0f7a4_14 : decode cJ6_bitCount_0f7a4 14 = .ok (.iand, 1) := by decide +kernel
theorem dJ6_bitCount_0f7a4_15 : decode cJ6_bitCount_0f7a4 15 = .ok (.iload_n 0, 1) := by decide +kernel
theorem dJ6_bitCount_0f7a4_16 : decode cJ6_bitCount_0f7a4 16 = .ok (.iconst 2, 1) := by decide +kernel
theorem dJ6_bitCount_0f7a4_17 : decode cJ6_bitCount_0f7a4 17 = .ok (.iushr, 1) := by decide +kernel
theorem dJ6_bitCount_0f7a4_18 : decode cJ6_bitCount_0f7a4 18 = .ok (.ldc_w 266, 3) := by decide +kernel
theorem dJ6_bitCount_0f7a4_21 : decode cJ6_bitCount_0f7a4 21 = .ok (.iand, 1) := by decide +kernel
theorem dJ6_bitCount_0f7a4_22 : decode cJ6_bitCount_0f7a4 22 = .ok (.iadd, 1) := by decide +kernel
theorem dJ6_bitCount_0f7a4_23 : decode cJ6_bitCount_0f7a4 23 = .ok (.istore_n 0, 1) := by decide +kernel
theorem dJ6_bitCount_0f7a4_24 : decode cJ6_bitCount_0f7a4 24 = .ok (.iload_n 0, 1) := by decide +kernel
theorem dJ6_bitCount_0f7a4_25 : decode cJ6_bitCount_0f7a4 25 = .ok (.iload_n 0, 1) := by decide +kernel
theorem dJ6_bitCount_0f7a4_26 : decode cJ6_bitCount_0f7a4 26 = .ok (.iconst 4, 1) := by decide +kernel
theorem dJ6_bitCount_0f7a4_27 : decode cJ6_bitCount_0f7a4 27 = .ok (.iushr, 1) := by decide +kernel
theorem dJ6_bitCount_0f7a4_28 : decode cJ6_bitCount_0f7a4 28 = .ok (.iadd, 1) := by decide +kernel
theorem dJ6_bitCount_0f7a4_29 : decode cJ6_bitCount_0f7a4 29 = .ok (.ldc_w 267, 3) := by decide +kernel
theorem dJ6_bitCount_0f7a4_32 : decode cJ6_bitCount_0f7a4 32 = .ok (.iand, 1) := by decide +kernel
theorem dJ6_bitCount_0f7a4_33 : decode cJ6_bitCount_0f7a4 33 = .ok (.istore_n 0, 1) := by decide +kernel
theorem dJ6_bitCount_0f7a4_34 : decode cJ6_bitCount_0f7a4 34 = .ok (.iload_n 0, 1) := by decide +kernel
theorem dJ6_bitCount_0f7a4_35 : decode cJ6_bitCount_0f7a4 35 = .ok (.iload_n 0, 1) := by decide +kernel
theorem dJ6_bitCount_0f7a4_36 : decode cJ6_bitCount_0f7a4 36 = .ok (.bipush 8, 2) := by decide +kernel
theorem dJ6_bitCount_0f7a4_38 : decode cJ6_bitCount_0f7a4 38 = .ok (.iushr, 1) := by decide +kernel
theorem dJ6_bitCount_0f7a4_39 : decode cJ6_bitCount_0f7a4 39 = .ok (.iadd, 1) := by decide +kernel
theorem dJ6_bitCount_0f7a4_40 : decode cJ6_bitCount_0f7a4 40 = .ok (.istore_n 0, 1) := by decide +kernel
theorem dJ6_bitCount_0f7a4_41 : decode cJ6_bitCount_0f7a4 41 = .ok (.iload_n 0, 1) := by decide +kernel
theorem dJ6_bitCount_0f7a4_42 : decode cJ6_bitCount_0f7a4 42 = .ok (.iload_n 0, 1) := by decide +kernel
theorem dJ6_bitCount_0f7a4_43 : decode cJ6_bitCount_0f7a4 43 = .ok (.bipush 16, 2) := by decide +kernel
theorem dJ6_bitCount_0f7a4_45 : decode cJ6_bitCount_0f7a4 45 = .ok (.iushr, 1) := by decide +kernel
theorem dJ6_bitCount_0f7a4_46 : decode cJ6_bitCount_0f7a4 46 = .ok (.iadd, 1) := by decide +kernel
theorem dJ6_bitCount_0f7a4_47 : decode cJ6_bitCount_0f7a4 47 = .ok (.istore_n 0, 1) := by decide +kernel
theorem dJ6_bitCount_0f7a4_48 : decode cJ6_bitCount_0f7a4 48 = .ok (.iload_n 0, 1) := by decide +kernel
theorem dJ6_bitCount_0f7a4_49 : decode cJ6_bitCount_0f7a4 49 = .ok (.bipush 63, 2) := by decide +kernel
theorem dJ6_bitCount_0f7a4_51 : decode cJ6_bitCount_0f7a4 51 = .ok (.iand, 1) := by decide +kernel
theorem dJ6_bitCount_0f7a4_52 : decode cJ6_bitCount_0f7a4 52 = .ok (.ireturn, 1) := by decide +kernel
theorem dJ9_max_7cf53_0 : decode cJ9_max_7cf53 0 = .ok (.iload_n 0, 1) := by decide +kernel
theorem dJ9_max_7cf53_1 : decode cJ9_max_7cf53 1 = .ok (.iload_n 1, 1) := by decide +kernel
theorem dJ9_max_7cf53_2 : decode cJ9_max_7cf53 2 = .ok (.if_icmp .lt 7, 3) := by decide +kernel
theorem dJ9_max_7cf53_5 : decode cJ9_max_7cf53 5 = .ok (.iload_n 0, 1) := by decide +kernel
theorem dJ9_max_7cf53_6 : decode cJ9_max_7cf53 6 = .ok (.goto 4, 3) := by decide +kernel
theorem dJ9_max_7cf53_9 : decode cJ9_max_7cf53 9 = .ok (.iload_n 1, 1) := by decide +kernel
theorem dJ9_max_7cf53_10 : decode cJ9_max_7cf53 10 = .ok (.ireturn, 1) := by decide +kernel
theorem dJ9_min_7cf53_0 : decode cJ9_min_7cf53 0 = .ok (.iload_n 0, 1) := by decide +kernel
theorem dJ9_min_7cf53_1 : decode cJ9_min_7cf53 1 = .ok (.iload_n 1, 1) := by decide +kernel
theorem dJ9_min_7cf53_2 : decode cJ9_min_7cf53 2 = .ok (.if_icmp .gt 7, 3) := by decide +kernel
theorem dJ9_min_7cf53_5 : decode cJ9_min_7cf53 5 = .ok (.iload_n 0, 1) := by decide +kernel
theorem dJ9_min_7cf53_6 : decode cJ9_min_7cf53 6 = .ok (.goto 4, 3) := by decide +kernel
theorem dJ9_min_7cf53_9 : decode cJ9_min_7cf53 9 = .ok (.iload_n 1, 1) := by decide +kernel
theorem dJ9_min_7cf53_10 : decode cJ9_min_7cf53 10 = .ok (.ireturn, 1) := by decide +kernel
theorem dJ7_fill_53178_0 : decode cJ7_fill_53178 0 = .ok (.iconst 0, 1) := by decide +kernel
theorem dJ7_fill_53178_1 : decode cJ7_fill_53178 1 = .ok (.istore_n 2, 1) := by decide +kernel
theorem dJ7_fill_53178_2 : decode cJ7_fill_53178 2 = .ok (.aload_n 0, 1) := by decide +kernel
theorem dJ7_fill_53178_3 : decode cJ7_fill_53178 3 = .ok (.arraylength, 1) := by decide +kernel
theorem dJ7_fill_53178_4 : decode cJ7_fill_53178 4 = .ok (.istore_n 3, 1) := by decide +kernel
theorem dJ7_fill_53178_5 : decode cJ7_fill_53178 5 = .ok (.iload_n 2, 1) := by decide +kernel
theorem dJ7_fill_53178_6 : decode cJ7_fill_53178 6 = .ok (.iload_n 3, 1) := by decide +kernel
theorem dJ7_fill_53178_7 : decode cJ7_fill_53178 7 = .ok (.if_icmp .ge 13, 3) := by decide +kernel
theorem dJ7_fill_53178_10 : decode cJ7_fill_53178 10 = .ok (.aload_n 0, 1) := by decide +kernel
theorem dJ7_fill_53178_11 : decode cJ7_fill_53178 11 = .ok (.iload_n 2, 1) := by decide +kernel
theorem dJ7_fill_53178_12 : decode cJ7_fill_53178 12 = .ok (.iload_n 1, 1) := by decide +kernel
theorem dJ7_fill_53178_13 : decode cJ7_fill_53178 13 = .ok (.iastore, 1) := by decide +kernel
theorem dJ7_fill_53178_14 : decode cJ7_fill_53178 14 = .ok (.iinc 2 1, 3) := by decide +kernel
theorem dJ7_fill_53178_17 : decode cJ7_fill_53178 17 = .ok (.goto (-12), 3) := by decide +kernel
theorem dJ7_fill_53178_20 : decode cJ7_fill_53178 20 = .ok (.return_, 1) := by decide +kernel
