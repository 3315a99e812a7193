theorem dX12_pageLine_77 : decode cX12_pageLine 77 = .ok (.bipush 8, 2) := by decide +kernel
theorem dX12_pageLine_79 : decode cX12_pageLine 79 = .ok (.aload_n 0, 1) := by decide +kernel
theorem dX12_pageLine_80 : decode cX12_pageLine 80 = .ok (.getfield 174, 3) := by decide +kernel
theorem dX12_pageLine_83 : decode cX12_pageLine 83 = .ok (.invokevirtual 235, 3) := by decide +kernel
theorem dX12_pageLine_86 : decode cX12_pageLine 86 = .ok (.ifCond .ne 5, 3) := by decide +kernel
theorem dX12_pageLine_89 : decode cX12_pageLine 89 = .ok (.iconst 0, 1) := by decide +kernel
theorem dX12_pageLine_90 : decode cX12_pageLine 90 = .ok (.ireturn, 1) := by decide +kernel
theorem dX12_pageLine_91 : decode cX12_pageLine 91 = .ok (.aload_n 0, 1) := by decide +kernel
theorem dX12_pageLine_92 : decode cX12_pageLine 92 = .ok (.aload_n 0, 1) := by decide +kernel
theorem dX12_pageLine_93 : decode cX12_pageLine 93 = .ok (.getfield 20, 3) := by decide +kernel
theorem dX12_pageLine_96 : decode cX12_pageLine 96 = .ok (.bipush 8, 2) := by decide +kernel
theorem dX12_pageLine_98 : decode cX12_pageLine 98 = .ok (.aload_n 0, 1) := by decide +kernel
theorem dX12_pageLine_99 : decode cX12_pageLine 99 = .ok (.getfield 174, 3) := by decide +kernel
theorem dX12_pageLine_102 : decode cX12_pageLine 102 = .ok (.aload_n 0, 1) := by decide +kernel
theorem dX12_pageLine_103 : decode cX12_pageLine 103 = .ok (.getfield 153, 3) := by decide +kernel
theorem dX12_pageLine_106 : decode cX12_pageLine 106 = .ok (.invokevirtual 220, 3) := by decide +kernel
theorem dX12_pageLine_109 : decode cX12_pageLine 109 = .ok (.istore_n 2, 1) := by decide +kernel
theorem dX12_pageLine_110 : decode cX12_pageLine 110 = .ok (.aload_n 0, 1) := by decide +kernel
theorem dX12_pageLine_111 : decode cX12_pageLine 111 = .ok (.getfield 69, 3) := by decide +kernel
theorem dX12_pageLine_114 : decode cX12_pageLine 114 = .ok (.iload_n 1, 1) := by decide +kernel
theorem dX12_pageLine_115 : decode cX12_pageLine 115 = .ok (.iload_n 2, 1) := by decide +kernel
theorem dX12_pageLine_116 : decode cX12_pageLine 116 = .ok (.iastore, 1) := by decide +kernel
theorem dX12_pageLine_117 : decode cX12_pageLine 117 = .ok (.aload_n 0, 1) := by decide +kernel
theorem dX12_pageLine_118 : decode cX12_pageLine 118 = .ok (.invokevirtual 171, 3) := by decide +kernel
theorem dX12_pageLine_121 : decode cX12_pageLine 121 = .ok (.aload_n 0, 1) := by decide +kernel
theorem dX12_pageLine_122 : decode cX12_pageLine 122 = .ok (.iconst 0, 1) := by decide +kernel
theorem dX12_pageLine_123 : decode cX12_pageLine 123 = .ok (.aload_n 0, 1) := by decide +kernel
theorem dX12_pageLine_124 : decode cX12_pageLine 124 = .ok (.getfield 23, 3) := by decide +kernel
theorem dX12_pageLine_127 : decode cX12_pageLine 127 = .ok (.bipush 8, 2) := by decide +kernel
theorem dX12_pageLine_129 : decode cX12_pageLine 129 = .ok (.iload_n 2, 1) := by decide +kernel
theorem dX12_pageLine_130 : decode cX12_pageLine 130 = .ok (.iadd, 1) := by decide +kernel
theorem dX12_pageLine_131 : decode cX12_pageLine 131 = .ok (.iaload, 1) := by decide +kernel
theorem dX12_pageLine_132 : decode cX12_pageLine 132 = .ok (.iconst 1, 1) := by decide +kernel
theorem dX12_pageLine_133 : decode cX12_pageLine 133 = .ok (.isub, 1) := by decide +kernel
theorem dX12_pageLine_134 : decode cX12_pageLine 134 = .ok (.invokevirtual 228, 3) := by decide +kernel
theorem dX12_pageLine_137 : decode cX12_pageLine 137 = .ok (.ifCond .ne 5, 3) := by decide +kernel
theorem dX12_pageLine_140 : decode cX12_pageLine 140 = .ok (.iconst 0, 1) := by decide +kernel
theorem dX12_pageLine_141 : decode cX12_pageLine 141 = .ok (.ireturn, 1) := by decide +kernel
theorem dX12_pageLine_142 : decode cX12_pageLine 142 = .ok (.aload_n 0, 1) := by decide +kernel
theorem dX12_pageLine_143 : decode cX12_pageLine 143 = .ok (.getfield 72, 3) := by decide +kernel
theorem dX12_pageLine_146 : decode cX12_pageLine 146 = .ok (.iload_n 1, 1) := by decide +kernel
theorem dX12_pageLine_147 : decode cX12_pageLine 147 = .ok (.aload_n 0, 1) := by decide +kernel
theorem dX12_pageLine_148 : decode cX12_pageLine 148 = .ok (.getfield 153, 3) := by decide +kernel
theorem dX12_pageLine_151 : decode cX12_pageLine 151 = .ok (.iastore, 1) := by decide +kernel
theorem dX12_pageLine_152 : decode cX12_pageLine 152 = .ok (.aload_n 0, 1) := by decide +kernel
theorem dX12_pageLine_153 : decode cX12_pageLine 153 = .ok (.dup, 1) := by decide +kernel
theorem dX12_pageLine_154 : decode cX12_pageLine 154 = .ok (.getfield 183, 3) := by decide +kernel
theorem dX12_pageLine_157 : decode cX12_pageLine 157 = .ok (.iconst 1, 1) := by decide +kernel
theorem dX12_pageLine_158 : decode cX12_pageLine 158 = .ok (.iadd, 1) := by decide +kernel
theorem dX12_pageLine_159 : decode cX12_pageLine 159 = .ok (.putfield 183, 3) := by decide +kernel
theorem dX12_pageLine_162 : decode cX12_pageLine 162 = .ok (.aload_n 0, 1) := by decide +kernel
theorem dX12_pageLine_163 : decode cX12_pageLine 163 = .ok (.invokevirtual 171, 3) := by decide +kernel
theorem dX12_pageLine_166 : decode cX12_pageLine 166 = .ok (.iconst 1, 1) := by decide +kernel
theorem dX12_pageLine_167 : decode cX12_pageLine 167 = .ok (.ireturn, 1) := by decide +kernel
theorem dX12_weight_0 : decode cX12_weight 0 = .ok (.iload_n 0, 1) := by decide +kernel
theorem dX12_weight_1 : decode cX12_weight 1 = .ok (.bipush 13, 2) := by decide +kernel
theorem dX12_weight_3 : decode cX12_weight 3 = .ok (.if_icmp .lt 8, 3) := by decide +kernel
theorem dX12_weight_6 : decode cX12_weight 6 = .ok (.bipush 6, 2) := by decide +kernel
theorem dX12_weight_8 : decode cX12_weight 8 = .ok (.goto 50, 3) := by decide +kernel
theorem dX12_weight_11 : decode cX12_weight 11 = .ok (.iload_n 0, 1) := by decide +kernel
theorem dX12_weight_12 : decode cX12_weight 12 = .ok (.bipush 11, 2) := by decide +kernel
theorem dX12_weight_14 : decode cX12_weight 14 = .ok (.if_icmp .lt 7, 3) := by decide +kernel
theorem dX12_weight_17 : decode cX12_weight 17 = .ok (.iconst 5, 1) := by decide +kernel
theorem dX12_weight_18 : decode cX12_weight 18 = .ok (.goto 40, 3) := by decide +kernel
theorem dX12_weight_21 : decode cX12_weight 21 = .ok (.iload_n 0, 1) := by decide +kernel
theorem dX12_weight_22 : decode cX12_weight 22 = .ok (.iconst 5, 1) := by decide +kernel
theorem dX12_weight_23 : decode cX12_weight 23 = .ok (.if_icmp .lt 7, 3) := by decide +kernel
theorem dX12_weight_26 : decode cX12_weight 26 = .ok (.iconst 4, 1) := by decide +kernel
theorem dX12_weight_27 : decode cX12_weight 27 = .ok (.goto 31, 3) := by decide +kernel
theorem dX12_weight_30 : decode cX12_weight 30 = .ok (.iload_n 0, 1) := by decide +kernel
theorem dX12_weight_31 : decode cX12_weight 31 = .ok (.iconst 2, 1) := by decide +kernel
theorem dX12_weight_32 : decode cX12_weight 32 = .ok (.if_icmp .ne 7, 3) := by decide +kernel
theorem dX12_weight_35 : decode cX12_weight 35 = .ok (.iconst 3, 1) := by decide +kernel
theorem dX12_weight_36 : decode cX12_weight 36 = .ok (.goto 22, 3) := by decide +kernel
theorem dX12_weight_39 : decode cX12_weight 39 = .ok (.iload_n 0, 1) := by decide +kernel
theorem dX12_weight_40 : decode cX12_weight 40 = .ok (.iconst 3, 1) := by decide +kernel
theorem dX12_weight_41 : decode cX12_weight 41 = .ok (.if_icmp .ne 7, 3) := by decide +kernel
theorem dX12_weight_44 : decode cX12_weight 44 = .ok (.iconst 2, 1) := by decide +kernel
theorem dX12_weight_45 : decode cX12_weight 45 = .ok (.goto 13, 3) := by decide +kernel
theorem dX12_weight_48 : decode cX12_weight 48 = .ok (.iload_n 0, 1) := by decide +kernel
theorem dX12_weight_49 : decode cX12_weight 49 = .ok (.iconst 4, 1) := by decide +kernel
theorem dX12_weight_50 : decode cX12_weight 50 = .ok (.if_icmp .ne 7, 3) := by decide +kernel
theorem dX12_weight_53 : decode cX12_weight 53 = .ok (.iconst 1, 1) := by decide +kernel
theorem dX12_weight_54 : decode cX12_weight 54 = .ok (.goto 4, 3) := by decide +kernel
theorem dX12_weight_57 : decode cX12_weight 57 = .ok (.iconst 0, 1) := by decide +kernel
theorem dX12_weight_58 : decode cX12_weight 58 = .ok (.ireturn, 1) := by decide +kernel
theorem dX12_grown_0 : decode cX12_grown 0 = .ok (.aload_n 0, 1) := by decide +kernel
theorem dX12_grown_1 : decode cX12_grown 1 = .ok (.getfield 81, 3) := by decide +kernel
theorem dX12_grown_4 : decode cX12_grown 4 = .ok (.bipush 64, 2) := by decide +kernel
theorem dX12_grown_6 : decode cX12_grown 6 = .ok (.aload_n 0, 1) := by decide +kernel
theorem dX12_grown_7 : decode cX12_grown 7 = .ok (.getfield 186, 3) := by decide +kernel
theorem dX12_grown_10 : decode cX12_grown 10 = .ok (.iadd, 1) := by decide +kernel
theorem dX12_grown_11 : decode cX12_grown 11 = .ok (.iload_n 1, 1) := by decide +kernel
theorem dX12_grown_12 : decode cX12_grown 12 = .ok (.iastore, 1) := by decide +kernel
theorem dX12_grown_13 : decode cX12_grown 13 = .ok (.aload_n 0, 1) := by decide +kernel
theorem dX12_grown_14 : decode cX12_grown 14 = .ok (.getfield 84, 3) := by decide +kernel
theorem dX12_grown_17 : decode cX12_grown 17 = .ok (.bipush 64, 2) := by decide +kernel
theorem dX12_grown_19 : decode cX12_grown 19 = .ok (.aload_n 0, 1) := by decide +kernel
theorem dX12_grown_20 : decode cX12_grown 20 = .ok (.getfield 186, 3) := by decide +kernel
theorem dX12_grown_23 : decode cX12_grown 23 = .ok (.iadd, 1) := by decide +kernel
theorem dX12_grown_24 : decode cX12_grown 24 = .ok (.iload_n 2, 1) := by decide +kernel
theorem dX12_grown_25 : decode cX12_grown 25 = .ok (.iastore, 1) := by decide +kernel
theorem dX12_grown_26 : decode cX12_grown 26 = .ok (.aload_n 0, 1) := by decide +kernel
theorem dX12_grown_27 : decode cX12_grown 27 = .ok (.getfield 87, 3) := by decide +kernel
theorem dX12_grown_30 : decode cX12_grown 30 = .ok (.bipush 64, 2) := by decide +kernel
theorem dX12_grown_32 : decode cX12_grown 32 = .ok (.aload_n 0, 1) := by decide +kernel
theorem dX12_grown_33 : decode cX12_grown 33 = .ok (.getfield 186, 3) := by decide +kernel
theorem dX12_grown_36 : decode cX12_grown 36 = .ok (.iadd, 1) := by decide +kernel
theorem dX12_grown_37 : decode cX12_grown 37 = .ok (.iload_n 3, 1) := by decide +kernel
theorem dX12_grown_38 : decode cX12_grown 38 = .ok (.iastore, 1) := by decide +kernel
theorem dX12_grown_39 : decode cX12_grown 39 = .ok (.aload_n 0, 1) := by decide +kernel
theorem dX12_grown_40 : decode cX12_grown 40 = .ok (.getfield 102, 3) := by decide +kernel
theorem dX12_grown_43 : decode cX12_grown 43 = .ok (.aload_n 0, 1) := by decide +kernel
theorem dX12_grown_44 : decode cX12_grown 44 = .ok (.getfield 242, 3) := by decide +kernel
theorem dX12_grown_47 : decode cX12_grown 47 = .ok (.aload_n 0, 1) := by decide +kernel
theorem dX12_grown_48 : decode cX12_grown 48 = .ok (.getfield 186, 3) := by decide +kernel
theorem dX12_grown_51 : decode cX12_grown 51 = .ok (.iastore, 1) := by decide +kernel
theorem dX12_grown_52 : decode cX12_grown 52 = .ok (.aload_n 0, 1) := by decide +kernel
theorem dX12_grown_53 : decode cX12_grown 53 = .ok (.dup, 1) := by decide +kernel
theorem dX12_grown_54 : decode cX12_grown 54 = .ok (.getfield 242, 3) := by decide +kernel
theorem dX12_grown_57 : decode cX12_grown 57 = .ok (.iconst 1, 1) := by decide +kernel
theorem dX12_grown_58 : decode cX12_grown 58 = .ok (.iadd, 1) := by decide +kernel
theorem dX12_grown_59 : decode cX12_grown 59 = .ok (.putfield 242, 3) := by decide +kernel
theorem dX12_grown_62 : decode cX12_grown 62 = .ok (.aload_n 0, 1) := by decide +kernel
theorem dX12_grown_63 : decode cX12_grown 63 = .ok (.dup, 1) := by decide +kernel
theorem dX12_grown_64 : decode cX12_grown 64 = .ok (.getfield 186, 3) := by decide +kernel
theorem dX12_grown_67 : decode cX12_grown 67 = .ok (.iconst 1, 1) := by decide +kernel
theorem dX12_grown_68 : decode cX12_grown 68 = .ok (.iadd, 1) := by decide +kernel
theorem dX12_grown_69 : decode cX12_grown 69 = .ok (.putfield 186, 3) := by decide +kernel
theorem dX12_grown_72 : decode cX12_grown 72 = .ok (.return_, 1) := by decide +kernel
theorem dX12_drop_0 : decode cX12_drop 0 = .ok (.aload_n 0, 1) := by decide +kernel
theorem dX12_drop_1 : decode cX12_drop 1 = .ok (.dup, 1) := by decide +kernel
theorem dX12_drop_2 : decode cX12_drop 2 = .ok (.getfield 242, 3) := by decide +kernel
theorem dX12_drop_5 : decode cX12_drop 5 = .ok (.iconst 1, 1) := by decide +kernel
theorem dX12_drop_6 : decode cX12_drop 6 = .ok (.isub, 1) := by decide +kernel
theorem dX12_drop_7 : decode cX12_drop 7 = .ok (.putfield 242, 3) := by decide +kernel
theorem dX12_drop_10 : decode cX12_drop 10 = .ok (.aload_n 0, 1) := by decide +kernel
theorem dX12_drop_11 : decode cX12_drop 11 = .ok (.getfield 102, 3) := by decide +kernel
theorem dX12_drop_14 : decode cX12_drop 14 = .ok (.aload_n 0, 1) := by decide +kernel
theorem dX12_drop_15 : decode cX12_drop 15 = .ok (.getfield 242, 3) := by decide +kernel
theorem dX12_drop_18 : decode cX12_drop 18 = .ok (.iaload, 1) := by decide +kernel
theorem dX12_drop_19 : decode cX12_drop 19 = .ok (.ireturn, 1) := by decide +kernel
theorem dX12_bind_0 : decode cX12_bind 0 = .ok (.aload_n 0, 1) := by decide +kernel
theorem dX12_bind_1 : decode cX12_bind 1 = .ok (.getfield 245, 3) := by decide +kernel
theorem dX12_bind_4 : decode cX12_bind 4 = .ok (.ifCond .le 72, 3) := by decide +kernel
theorem dX12_bind_7 : decode cX12_bind 7 = .ok (.aload_n 0, 1) := by decide +kernel
theorem dX12_bind_8 : decode cX12_bind 8 = .ok (.getfield 99, 3) := by decide +kernel
theorem dX12_bind_11 : decode cX12_bind 11 = .ok (.aload_n 0, 1) := by decide +kernel
theorem dX12_bind_12 : decode cX12_bind 12 = .ok (.getfield 245, 3) := by decide +kernel
theorem dX12_bind_15 : decode cX12_bind 15 = .ok (.iconst 1, 1) := by decide +kernel
theorem dX12_bind_16 : decode cX12_bind 16 = .ok (.isub, 1) := by decide +kernel
theorem dX12_bind_17 : decode cX12_bind 17 = .ok (.iaload, 1) := by decide +kernel
theorem dX12_bind_18 : decode cX12_bind 18 = .ok (.invokestatic 248, 3) := by decide +kernel
theorem dX12_bind_21 : decode cX12_bind 21 = .ok (.iload_n 1, 1) := by decide +kernel
theorem dX12_bind_22 : decode cX12_bind 22 = .ok (.if_icmp .lt 54, 3) := by decide +kernel
theorem dX12_bind_25 : decode cX12_bind 25 = .ok (.aload_n 0, 1) := by decide +kernel
theorem dX12_bind_26 : decode cX12_bind 26 = .ok (.dup, 1) := by decide +kernel
theorem dX12_bind_27 : decode cX12_bind 27 = .ok (.getfield 245, 3) := by decide +kernel
theorem dX12_bind_30 : decode cX12_bind 30 = .ok (.iconst 1, 1) := by decide +kernel
theorem dX12_bind_31 : decode cX12_bind 31 = .ok (.isub, 1) := by decide +kernel
theorem dX12_bind_32 : decode cX12_bind 32 = .ok (.putfield 245, 3) := by decide +kernel
theorem dX12_bind_35 : decode cX12_bind 35 = .ok (.aload_n 0, 1) := by decide +kernel
theorem dX12_bind_36 : decode cX12_bind 36 = .ok (.getfield 99, 3) := by decide +kernel
theorem dX12_bind_39 : decode cX12_bind 39 = .ok (.aload_n 0, 1) := by decide +kernel
theorem dX12_bind_40 : decode cX12_bind 40 = .ok (.getfield 245, 3) := by decide +kernel
theorem dX12_bind_43 : decode cX12_bind 43 = .ok (.iaload, 1) := by decide +kernel
theorem dX12_bind_44 : decode cX12_bind 44 = .ok (.istore_n 2, 1) := by decide +kernel
theorem dX12_bind_45 : decode cX12_bind 45 = .ok (.iload_n 2, 1) := by decide +kernel
theorem dX12_bind_46 : decode cX12_bind 46 = .ok (.iconst 2, 1) := by decide +kernel
theorem dX12_bind_47 : decode cX12_bind 47 = .ok (.if_icmp .ne 7, 3) := by decide +kernel
theorem dX12_bind_50 : decode cX12_bind 50 = .ok (.iconst (-1), 1) := by decide +kernel
theorem dX12_bind_51 : decode cX12_bind 51 = .ok (.goto 7, 3) := by decide +kernel
theorem dX12_bind_54 : decode cX12_bind 54 = .ok (.aload_n 0, 1) := by decide +kernel
theorem dX12_bind_55 : decode cX12_bind 55 = .ok (.invokevirtual 252, 3) := by decide +kernel
theorem dX12_bind_58 : decode cX12_bind 58 = .ok (.istore_n 3, 1) := by decide +kernel
theorem dX12_bind_59 : decode cX12_bind 59 = .ok (.aload_n 0, 1) := by decide +kernel
theorem dX12_bind_60 : decode cX12_bind 60 = .ok (.invokevirtual 252, 3) := by decide +kernel
theorem dX12_bind_63 : decode cX12_bind 63 = .ok (.istore 4, 2) := by decide +kernel
theorem dX12_bind_65 : decode cX12_bind 65 = .ok (.aload_n 0, 1) := by decide +kernel
theorem dX12_bind_66 : decode cX12_bind 66 = .ok (.iload_n 2, 1) := by decide +kernel
theorem dX12_bind_67 : decode cX12_bind 67 = .ok (.iload 4, 2) := by decide +kernel
theorem dX12_bind_69 : decode cX12_bind 69 = .ok (.iload_n 3, 1) := by decide +kernel
theorem dX12_bind_70 : decode cX12_bind 70 = .ok (.invokevirtual 256, 3) := by decide +kernel
theorem dX12_bind_73 : decode cX12_bind 73 = .ok (.goto (-73), 3) := by decide +kernel
theorem dX12_bind_76 : decode cX12_bind 76 = .ok (.return_, 1) := by decide +kernel
theorem dX12_isCounted_0 : decode cX12_isCounted 0 = .ok (.aload_n 0, 1) := by decide +kernel
theorem dX12_isCounted_1 : decode cX12_isCounted 1 = .ok (.getfield 189, 3) := by decide +kernel
theorem dX12_isCounted_4 : decode cX12_isCounted 4 = .ok (.bipush 64, 2) := by decide +kernel
theorem dX12_isCounted_6 : decode cX12_isCounted 6 = .ok (.if_icmp .ne 9, 3) := by decide +kernel
theorem dX12_isCounted_9 : decode cX12_isCounted 9 = .ok (.aload_n 0, 1) := by decide +kernel
theorem dX12_isCounted_10 : decode cX12_isCounted 10 = .ok (.iconst 2, 1) := by decide +kernel
theorem dX12_isCounted_11 : decode cX12_isCounted 11 = .ok (.invokevirtual 168, 3) := by decide +kernel
theorem dX12_isCounted_14 : decode cX12_isCounted 14 = .ok (.ireturn, 1) := by decide +kernel
theorem dX12_isCounted_15 : decode cX12_isCounted 15 = .ok (.aload_n 0, 1) := by decide +kernel
theorem dX12_isCounted_16 : decode cX12_isCounted 16 = .ok (.dup, 1) := by decide +kernel
theorem dX12_isCounted_17 : decode cX12_isCounted 17 = .ok (.getfield 189, 3) := by decide +kernel
theorem dX12_isCounted_20 : decode cX12_isCounted 20 = .ok (.iconst 1, 1) := by decide +kernel
theorem dX12_isCounted_21 : decode cX12_isCounted 21 = .ok (.iadd, 1) := by decide +kernel
theorem dX12_isCounted_22 : decode cX12_isCounted 22 = .ok (.putfield 189, 3) := by decide +kernel
theorem dX12_isCounted_25 : decode cX12_isCounted 25 = .ok (.iconst 1, 1) := by decide +kernel
theorem dX12_isCounted_26 : decode cX12_isCounted 26 = .ok (.ireturn, 1) := by decide +kernel
theorem dX12_waitsFor_0 : decode cX12_waitsFor 0 = .ok (.aload_n 0, 1) := by decide +kernel
theorem dX12_waitsFor_1 : decode cX12_waitsFor 1 = .ok (.getfield 99, 3) := by decide +kernel
theorem dX12_waitsFor_4 : decode cX12_waitsFor 4 = .ok (.aload_n 0, 1) := by decide +kernel
theorem dX12_waitsFor_5 : decode cX12_waitsFor 5 = .ok (.getfield 245, 3) := by decide +kernel
theorem dX12_waitsFor_8 : decode cX12_waitsFor 8 = .ok (.iload_n 1, 1) := by decide +kernel
theorem dX12_waitsFor_9 : decode cX12_waitsFor 9 = .ok (.iastore, 1) := by decide +kernel
theorem dX12_waitsFor_10 : decode cX12_waitsFor 10 = .ok (.aload_n 0, 1) := by decide +kernel
theorem dX12_waitsFor_11 : decode cX12_waitsFor 11 = .ok (.dup, 1) := by decide +kernel
theorem dX12_waitsFor_12 : decode cX12_waitsFor 12 = .ok (.getfield 245, 3) := by decide +kernel
theorem dX12_waitsFor_15 : decode cX12_waitsFor 15 = .ok (.iconst 1, 1) := by decide +kernel
theorem dX12_waitsFor_16 : decode cX12_waitsFor 16 = .ok (.iadd, 1) := by decide +kernel
theorem dX12_waitsFor_17 : decode cX12_waitsFor 17 = .ok (.putfield 245, 3) := by decide +kernel
theorem dX12_waitsFor_20 : decode cX12_waitsFor 20 = .ok (.return_, 1) := by decide +kernel
theorem dX12_leafRead_0 : decode cX12_leafRead 0 = .ok (.aload_n 0, 1) := by decide +kernel
theorem dX12_leafRead_1 : decode cX12_leafRead 1 = .ok (.bipush 40, 2) := by decide +kernel
theorem dX12_leafRead_3 : decode cX12_leafRead 3 = .ok (.invokevirtual 260, 3) := by decide +kernel
theorem dX12_leafRead_6 : decode cX12_leafRead 6 = .ok (.ifCond .eq 44, 3) := by decide +kernel
theorem dX12_leafRead_9 : decode cX12_leafRead 9 = .ok (.aload_n 0, 1) := by decide +kernel
theorem dX12_leafRead_10 : decode cX12_leafRead 10 = .ok (.getfield 263, 3) := by decide +kernel
theorem dX12_leafRead_13 : decode cX12_leafRead 13 = .ok (.bipush 8, 2) := by decide +kernel
theorem dX12_leafRead_15 : decode cX12_leafRead 15 = .ok (.if_icmp .ne 9, 3) := by decide +kernel
theorem dX12_leafRead_18 : decode cX12_leafRead 18 = .ok (.aload_n 0, 1) := by decide +kernel
theorem dX12_leafRead_19 : decode cX12_leafRead 19 = .ok (.iconst 2, 1) := by decide +kernel
theorem dX12_leafRead_20 : decode cX12_leafRead 20 = .ok (.invokevirtual 168, 3) := by decide +kernel
theorem dX12_leafRead_23 : decode cX12_leafRead 23 = .ok (.ireturn, 1) := by decide +kernel
theorem dX12_leafRead_24 : decode cX12_leafRead 24 = .ok (.aload_n 0, 1) := by decide +kernel
theorem dX12_leafRead_25 : decode cX12_leafRead 25 = .ok (.dup, 1) := by decide +kernel
theorem dX12_leafRead_26 : decode cX12_leafRead 26 = .ok (.getfield 263, 3) := by decide +kernel
theorem dX12_leafRead_29 : decode cX12_leafRead 29 = .ok (.iconst 1, 1) := by decide +kernel
theorem dX12_leafRead_30 : decode cX12_leafRead 30 = .ok (.iadd, 1) := by decide +kernel
theorem dX12_leafRead_31 : decode cX12_leafRead 31 = .ok (.putfield 263, 3) := by decide +kernel
theorem dX12_leafRead_34 : decode cX12_leafRead 34 = .ok (.aload_n 0, 1) := by decide +kernel
theorem dX12_leafRead_35 : decode cX12_leafRead 35 = .ok (.iconst 0, 1) := by decide +kernel
theorem dX12_leafRead_36 : decode cX12_leafRead 36 = .ok (.invokevirtual 266, 3) := by decide +kernel
theorem dX12_leafRead_39 : decode cX12_leafRead 39 = .ok (.aload_n 0, 1) := by decide +kernel
theorem dX12_leafRead_40 : decode cX12_leafRead 40 = .ok (.iconst 1, 1) := by decide +kernel
theorem dX12_leafRead_41 : decode cX12_leafRead 41 = .ok (.putfield 270, 3) := by decide +kernel
theorem dX12_leafRead_44 : decode cX12_leafRead 44 = .ok (.aload_n 0, 1) := by decide +kernel
theorem dX12_leafRead_45 : decode cX12_leafRead 45 = .ok (.invokevirtual 171, 3) := by decide +kernel
theorem dX12_leafRead_48 : decode cX12_leafRead 48 = .ok (.iconst 1, 1) := by decide +kernel
theorem dX12_leafRead_49 : decode cX12_leafRead 49 = .ok (.ireturn, 1) := by decide +kernel
theorem dX12_leafRead_50 : decode cX12_leafRead 50 = .ok (.aload_n 0, 1) := by decide +kernel
theorem dX12_leafRead_51 : decode cX12_leafRead 51 = .ok (.bipush 16, 2) := by decide +kernel
theorem dX12_leafRead_53 : decode cX12_leafRead 53 = .ok (.invokevirtual 165, 3) := by decide +kernel
theorem dX12_leafRead_56 : decode cX12_leafRead 56 = .ok (.ifCond .eq 30, 3) := by decide +kernel
theorem dX12_leafRead_59 : decode cX12_leafRead 59 = .ok (.aload_n 0, 1) := by decide +kernel
theorem dX12_leafRead_60 : decode cX12_leafRead 60 = .ok (.getfield 270, 3) := by decide +kernel
theorem dX12_leafRead_63 : decode cX12_leafRead 63 = .ok (.ifCond .eq 23, 3) := by decide +kernel
theorem dX12_leafRead_66 : decode cX12_leafRead 66 = .ok (.aload_n 0, 1) := by decide +kernel
theorem dX12_leafRead_67 : decode cX12_leafRead 67 = .ok (.invokevirtual 274, 3) := by decide +kernel
theorem dX12_leafRead_70 : decode cX12_leafRead 70 = .ok (.ifCond .ne 5, 3) := by decide +kernel
theorem dX12_leafRead_73 : decode cX12_leafRead 73 = .ok (.iconst 0, 1) := by decide +kernel
theorem dX12_leafRead_74 : decode cX12_leafRead 74 = .ok (.ireturn, 1) := by decide +kernel
theorem dX12_leafRead_75 : decode cX12_leafRead 75 = .ok (.aload_n 0, 1) := by decide +kernel
theorem dX12_leafRead_76 : decode cX12_leafRead 76 = .ok (.iconst 2, 1) := by decide +kernel
theorem dX12_leafRead_77 : decode cX12_leafRead 77 = .ok (.invokevirtual 266, 3) := by decide +kernel
theorem dX12_leafRead_80 : decode cX12_leafRead 80 = .ok (.aload_n 0, 1) := by decide +kernel
theorem dX12_leafRead_81 : decode cX12_leafRead 81 = .ok (.invokevirtual 171, 3) := by decide +kernel
theorem dX12_leafRead_84 : decode cX12_leafRead 84 = .ok (.iconst 1, 1) := by decide +kernel
theorem dX12_leafRead_85 : decode cX12_leafRead 85 = .ok (.ireturn, 1) := by decide +kernel
theorem dX12_leafRead_86 : decode cX12_leafRead 86 = .ok (.aload_n 0, 1) := by decide +kernel
theorem dX12_leafRead_87 : decode cX12_leafRead 87 = .ok (.getfield 142, 3) := by decide +kernel
theorem dX12_leafRead_90 : decode cX12_leafRead 90 = .ok (.iconst 1, 1) := by decide +kernel
theorem dX12_leafRead_91 : decode cX12_leafRead 91 = .ok (.if_icmp .ne 16, 3) := by decide +kernel
theorem dX12_leafRead_94 : decode cX12_leafRead 94 = .ok (.aload_n 0, 1) := by decide +kernel
theorem dX12_leafRead_95 : decode cX12_leafRead 95 = .ok (.getfield 153, 3) := by decide +kernel
theorem dX12_leafRead_98 : decode cX12_leafRead 98 = .ok (.bipush 17, 2) := by decide +kernel
theorem dX12_leafRead_100 : decode cX12_leafRead 100 = .ok (.if_icmp .lt 7, 3) := by decide +kernel
theorem dX12_leafRead_103 : decode cX12_leafRead 103 = .ok (.iconst 1, 1) := by decide +kernel
theorem dX12_leafRead_104 : decode cX12_leafRead 104 = .ok (.goto 4, 3) := by decide +kernel
theorem dX12_leafRead_107 : decode cX12_leafRead 107 = .ok (.iconst 0, 1) := by decide +kernel
theorem dX12_leafRead_108 : decode cX12_leafRead 108 = .ok (.istore_n 1, 1) := by decide +kernel
theorem dX12_leafRead_109 : decode cX12_leafRead 109 = .ok (.iload_n 1, 1) := by decide +kernel
theorem dX12_leafRead_110 : decode cX12_leafRead 110 = .ok (.ifCond .ne 16, 3) := by decide +kernel
theorem dX12_leafRead_113 : decode cX12_leafRead 113 = .ok (.aload_n 0, 1) := by decide +kernel
theorem dX12_leafRead_114 : decode cX12_leafRead 114 = .ok (.iconst 0, 1) := by decide +kernel
theorem dX12_leafRead_115 : decode cX12_leafRead 115 = .ok (.sipush 999, 3) := by decide +kernel
theorem dX12_leafRead_118 : decode cX12_leafRead 118 = .ok (.invokevirtual 228, 3) := by decide +kernel
theorem dX12_leafRead_121 : decode cX12_leafRead 121 = .ok (.ifCond .ne 5, 3) := by decide +kernel
theorem dX12_leafRead_124 : decode cX12_leafRead 124 = .ok (.iconst 0, 1) := by decide +kernel
theorem dX12_leafRead_125 : decode cX12_leafRead 125 = .ok (.ireturn, 1) := by decide +kernel
theorem dX12_leafRead_126 : decode cX12_leafRead 126 = .ok (.aload_n 0, 1) := by decide +kernel
theorem dX12_leafRead_127 : decode cX12_leafRead 127 = .ok (.invokevirtual 274, 3) := by decide +kernel
theorem dX12_leafRead_130 : decode cX12_leafRead 130 = .ok (.ifCond .ne 5, 3) := by decide +kernel
theorem dX12_leafRead_133 : decode cX12_leafRead 133 = .ok (.iconst 0, 1) := by decide +kernel
theorem dX12_leafRead_134 : decode cX12_leafRead 134 = .ok (.ireturn, 1) := by decide +kernel
theorem dX12_leafRead_135 : decode cX12_leafRead 135 = .ok (.aload_n 0, 1) := by decide +kernel
theorem dX12_leafRead_136 : decode cX12_leafRead 136 = .ok (.iload_n 1, 1) := by decide +kernel
theorem dX12_leafRead_137 : decode cX12_leafRead 137 = .ok (.ifCond .eq 7, 3) := by decide +kernel
theorem dX12_leafRead_140 : decode cX12_leafRead 140 = .ok (.iconst 1, 1) := by decide +kernel
theorem dX12_leafRead_141 : decode cX12_leafRead 141 = .ok (.goto 4, 3) := by decide +kernel
theorem dX12_leafRead_144 : decode cX12_leafRead 144 = .ok (.iconst 0, 1) := by decide +kernel
theorem dX12_leafRead_145 : decode cX12_leafRead 145 = .ok (.iload_n 1, 1) := by decide +kernel
theorem dX12_leafRead_146 : decode cX12_leafRead 146 = .ok (.ifCond .eq 13, 3) := by decide +kernel
theorem dX12_leafRead_149 : decode cX12_leafRead 149 = .ok (.aload_n 0, 1) := by decide +kernel
theorem dX12_leafRead_150 : decode cX12_leafRead 150 = .ok (.getfield 153, 3) := by decide +kernel
theorem dX12_leafRead_153 : decode cX12_leafRead 153 = .ok (.bipush 17, 2) := by decide +kernel
theorem dX12_leafRead_155 : decode cX12_leafRead 155 = .ok (.isub, 1) := by decide +kernel
theorem dX12_leafRead_156 : decode cX12_leafRead 156 = .ok (.goto 7, 3) := by decide +kernel
theorem dX12_leafRead_159 : decode cX12_leafRead 159 = .ok (.aload_n 0, 1) := by decide +kernel
theorem dX12_leafRead_160 : decode cX12_leafRead 160 = .ok (.getfield 153, 3) := by decide +kernel
theorem dX12_leafRead_163 : decode cX12_leafRead 163 = .ok (.iconst 0, 1) := by decide +kernel
theorem dX12_leafRead_164 : decode cX12_leafRead 164 = .ok (.invokevirtual 256, 3) := by decide +kernel
theorem dX12_leafRead_167 : decode cX12_leafRead 167 = .ok (.aload_n 0, 1) := by decide +kernel
theorem dX12_leafRead_168 : decode cX12_leafRead 168 = .ok (.iconst 0, 1) := by decide +kernel
theorem dX12_leafRead_169 : decode cX12_leafRead 169 = .ok (.putfield 278, 3) := by decide +kernel
theorem dX12_leafRead_172 : decode cX12_leafRead 172 = .ok (.aload_n 0, 1) := by decide +kernel
theorem dX12_leafRead_173 : decode cX12_leafRead 173 = .ok (.invokevirtual 171, 3) := by decide +kernel
theorem dX12_leafRead_176 : decode cX12_leafRead 176 = .ok (.iconst 1, 1) := by decide +kernel
theorem dX12_leafRead_177 : decode cX12_leafRead 177 = .ok (.ireturn, 1) := by decide +kernel
theorem dX12_signs_0 : decode cX12_signs 0 = .ok (.aload_n 0, 1) := by decide +kernel
theorem dX12_signs_1 : decode cX12_signs 1 = .ok (.bipush 41, 2) := by decide +kernel
theorem dX12_signs_3 : decode cX12_signs 3 = .ok (.invokevirtual 260, 3) := by decide +kernel
theorem dX12_signs_6 : decode cX12_signs 6 = .ok (.ifCond .eq 41, 3) := by decide +kernel
theorem dX12_signs_9 : decode cX12_signs 9 = .ok (.aload_n 0, 1) := by decide +kernel
theorem dX12_signs_10 : decode cX12_signs 10 = .ok (.getfield 263, 3) := by decide +kernel
theorem dX12_signs_13 : decode cX12_signs 13 = .ok (.ifCond .le 34, 3) := by decide +kernel
theorem dX12_signs_16 : decode cX12_signs 16 = .ok (.aload_n 0, 1) := by decide +kernel
theorem dX12_signs_17 : decode cX12_signs 17 = .ok (.iconst 1, 1) := by decide +kernel
theorem dX12_signs_18 : decode cX12_signs 18 = .ok (.invokevirtual 281, 3) := by decide +kernel
theorem dX12_signs_21 : decode cX12_signs 21 = .ok (.aload_n 0, 1) := by decide +kernel
theorem dX12_signs_22 : decode cX12_signs 22 = .ok (.dup, 1) := by decide +kernel
theorem dX12_signs_23 : decode cX12_signs 23 = .ok (.getfield 245, 3) := by decide +kernel
theorem dX12_signs_26 : decode cX12_signs 26 = .ok (.iconst 1, 1) := by decide +kernel
theorem dX12_signs_27 : decode cX12_signs 27 = .ok (.isub, 1) := by decide +kernel
theorem dX12_signs_28 : decode cX12_signs 28 = .ok (.putfield 245, 3) := by decide +kernel
theorem dX12_signs_31 : decode cX12_signs 31 = .ok (.aload_n 0, 1) := by decide +kernel
theorem dX12_signs_32 : decode cX12_signs 32 = .ok (.dup, 1) := by decide +kernel
theorem dX12_signs_33 : decode cX12_signs 33 = .ok (.getfield 263, 3) := by decide +kernel
theorem dX12_signs_36 : decode cX12_signs 36 = .ok (.iconst 1, 1) := by decide +kernel
theorem dX12_signs_37 : decode cX12_signs 37 = .ok (.isub, 1) := by decide +kernel
theorem dX12_signs_38 : decode cX12_signs 38 = .ok (.putfield 263, 3) := by decide +kernel
theorem dX12_signs_41 : decode cX12_signs 41 = .ok (.aload_n 0, 1) := by decide +kernel
theorem dX12_signs_42 : decode cX12_signs 42 = .ok (.invokevirtual 171, 3) := by decide +kernel
theorem dX12_signs_45 : decode cX12_signs 45 = .ok (.iconst 1, 1) := by decide +kernel
theorem dX12_signs_46 : decode cX12_signs 46 = .ok (.ireturn, 1) := by decide +kernel
theorem dX12_signs_47 : decode cX12_signs 47 = .ok (.aload_n 0, 1) := by decide +kernel
theorem dX12_signs_48 : decode cX12_signs 48 = .ok (.bipush 14, 2) := by decide +kernel
theorem dX12_signs_50 : decode cX12_signs 50 = .ok (.invokevirtual 165, 3) := by decide +kernel
theorem dX12_signs_53 : decode cX12_signs 53 = .ok (.ifCond .eq 7, 3) := by decide +kernel
theorem dX12_signs_56 : decode cX12_signs 56 = .ok (.iconst 3, 1) := by decide +kernel
theorem dX12_signs_57 : decode cX12_signs 57 = .ok (.goto 90, 3) := by decide +kernel
theorem dX12_signs_60 : decode cX12_signs 60 = .ok (.aload_n 0, 1) := by decide +kernel
theorem dX12_signs_61 : decode cX12_signs 61 = .ok (.bipush 15, 2) := by decide +kernel
theorem dX12_signs_63 : decode cX12_signs 63 = .ok (.invokevirtual 165, 3) := by decide +kernel
theorem dX12_signs_66 : decode cX12_signs 66 = .ok (.ifCond .eq 7, 3) := by decide +kernel
theorem dX12_signs_69 : decode cX12_signs 69 = .ok (.iconst 4, 1) := by decide +kernel
theorem dX12_signs_70 : decode cX12_signs 70 = .ok (.goto 77, 3) := by decide +kernel
theorem dX12_signs_73 : decode cX12_signs 73 = .ok (.aload_n 0, 1) := by decide +kernel
theorem dX12_signs_74 : decode cX12_signs 74 = .ok (.getfield 142, 3) := by decide +kernel
theorem dX12_signs_77 : decode cX12_signs 77 = .ok (.iconst 5, 1) := by decide +kernel
theorem dX12_signs_78 : decode cX12_signs 78 = .ok (.if_icmp .ne 12, 3) := by decide +kernel
theorem dX12_signs_81 : decode cX12_signs 81 = .ok (.iconst 5, 1) := by decide +kernel
theorem dX12_signs_82 : decode cX12_signs 82 = .ok (.aload_n 0, 1) := by decide +kernel
theorem dX12_signs_83 : decode cX12_signs 83 = .ok (.getfield 153, 3) := by decide +kernel
theorem dX12_signs_86 : decode cX12_signs 86 = .ok (.iadd, 1) := by decide +kernel
theorem dX12_signs_87 : decode cX12_signs 87 = .ok (.goto 60, 3) := by decide +kernel
theorem dX12_signs_90 : decode cX12_signs 90 = .ok (.aload_n 0, 1) := by decide +kernel
theorem dX12_signs_91 : decode cX12_signs 91 = .ok (.bipush 43, 2) := by decide +kernel
theorem dX12_signs_93 : decode cX12_signs 93 = .ok (.invokevirtual 260, 3) := by decide +kernel
theorem dX12_signs_96 : decode cX12_signs 96 = .ok (.ifCond .eq 8, 3) := by decide +kernel
theorem dX12_signs_99 : decode cX12_signs 99 = .ok (.bipush 11, 2) := by decide +kernel
theorem dX12_signs_101 : decode cX12_signs 101 = .ok (.goto 46, 3) := by decide +kernel
theorem dX12_signs_104 : decode cX12_signs 104 = .ok (.aload_n 0, 1) := by decide +kernel
theorem dX12_signs_105 : decode cX12_signs 105 = .ok (.bipush 45, 2) := by decide +kernel
theorem dX12_signs_107 : decode cX12_signs 107 = .ok (.invokevirtual 260, 3) := by decide +kernel
theorem dX12_signs_110 : decode cX12_signs 110 = .ok (.ifCond .eq 8, 3) := by decide +kernel
theorem dX12_signs_113 : decode cX12_signs 113 = .ok (.bipush 12, 2) := by decide +kernel
theorem dX12_signs_115 : decode cX12_signs 115 = .ok (.goto 32, 3) := by decide +kernel
theorem dX12_signs_118 : decode cX12_signs 118 = .ok (.aload_n 0, 1) := by decide +kernel
theorem dX12_signs_119 : decode cX12_signs 119 = .ok (.bipush 42, 2) := by decide +kernel
theorem dX12_signs_121 : decode cX12_signs 121 = .ok (.invokevirtual 260, 3) := by decide +kernel
theorem dX12_signs_124 : decode cX12_signs 124 = .ok (.ifCond .eq 8, 3) := by decide +kernel
theorem dX12_signs_127 : decode cX12_signs 127 = .ok (.bipush 13, 2) := by decide +kernel
theorem dX12_signs_129 : decode cX12_signs 129 = .ok (.goto 18, 3) := by decide +kernel
theorem dX12_signs_132 : decode cX12_signs 132 = .ok (.aload_n 0, 1) := by decide +kernel
theorem dX12_signs_133 : decode cX12_signs 133 = .ok (.bipush 47, 2) := by decide +kernel
theorem dX12_signs_135 : decode cX12_signs 135 = .ok (.invokevirtual 260, 3) := by decide +kernel
theorem dX12_signs_138 : decode cX12_signs 138 = .ok (.ifCond .eq 8, 3) := by decide +kernel
theorem dX12_signs_141 : decode cX12_signs 141 = .ok (.bipush 14, 2) := by decide +kernel
theorem dX12_signs_143 : decode cX12_signs 143 = .ok (.goto 4, 3) := by decide +kernel
theorem dX12_signs_146 : decode cX12_signs 146 = .ok (.iconst 0, 1) := by decide +kernel
theorem dX12_signs_147 : decode cX12_signs 147 = .ok (.istore_n 1, 1) := by decide +kernel
theorem dX12_signs_148 : decode cX12_signs 148 = .ok (.iload_n 1, 1) := by decide +kernel
theorem dX12_signs_149 : decode cX12_signs 149 = .ok (.ifCond .ne 9, 3) := by decide +kernel
theorem dX12_signs_152 : decode cX12_signs 152 = .ok (.aload_n 0, 1) := by decide +kernel
theorem dX12_signs_153 : decode cX12_signs 153 = .ok (.iconst 1, 1) := by decide +kernel
theorem dX12_signs_154 : decode cX12_signs 154 = .ok (.invokevirtual 168, 3) := by decide +kernel
theorem dX12_signs_157 : decode cX12_signs 157 = .ok (.ireturn, 1) := by decide +kernel
theorem dX12_signs_158 : decode cX12_signs 158 = .ok (.aload_n 0, 1) := by decide +kernel
theorem dX12_signs_159 : decode cX12_signs 159 = .ok (.iload_n 1, 1) := by decide +kernel
theorem dX12_signs_160 : decode cX12_signs 160 = .ok (.invokestatic 248, 3) := by decide +kernel
theorem dX12_signs_163 : decode cX12_signs 163 = .ok (.iconst 4, 1) := by decide +kernel
theorem dX12_signs_164 : decode cX12_signs 164 = .ok (.if_icmp .ne 7, 3) := by decide +kernel
theorem dX12_signs_167 : decode cX12_signs 167 = .ok (.iconst 5, 1) := by decide +kernel
theorem dX12_signs_168 : decode cX12_signs 168 = .ok (.goto 7, 3) := by decide +kernel
theorem dX12_signs_171 : decode cX12_signs 171 = .ok (.iload_n 1, 1) := by decide +kernel
theorem dX12_signs_172 : decode cX12_signs 172 = .ok (.invokestatic 248, 3) := by decide +kernel
theorem dX12_signs_175 : decode cX12_signs 175 = .ok (.invokevirtual 281, 3) := by decide +kernel
theorem dX12_signs_178 : decode cX12_signs 178 = .ok (.iload_n 1, 1) := by decide +kernel
theorem dX12_signs_179 : decode cX12_signs 179 = .ok (.invokestatic 248, 3) := by decide +kernel
theorem dX12_signs_182 : decode cX12_signs 182 = .ok (.iconst 4, 1) := by decide +kernel
theorem dX12_signs_183 : decode cX12_signs 183 = .ok (.if_icmp .ne 34, 3) := by decide +kernel
theorem dX12_signs_186 : decode cX12_signs 186 = .ok (.aload_n 0, 1) := by decide +kernel
theorem dX12_signs_187 : decode cX12_signs 187 = .ok (.getfield 245, 3) := by decide +kernel
theorem dX12_signs_190 : decode cX12_signs 190 = .ok (.ifCond .le 27, 3) := by decide +kernel
theorem dX12_signs_193 : decode cX12_signs 193 = .ok (.aload_n 0, 1) := by decide +kernel
theorem dX12_signs_194 : decode cX12_signs 194 = .ok (.getfield 99, 3) := by decide +kernel
theorem dX12_signs_197 : decode cX12_signs 197 = .ok (.aload_n 0, 1) := by decide +kernel
theorem dX12_signs_198 : decode cX12_signs 198 = .ok (.getfield 245, 3) := by decide +kernel
theorem dX12_signs_201 : decode cX12_signs 201 = .ok (.iconst 1, 1) := by decide +kernel
theorem dX12_signs_202 : decode cX12_signs 202 = .ok (.isub, 1) := by decide +kernel
theorem dX12_signs_203 : decode cX12_signs 203 = .ok (.iaload, 1) := by decide +kernel
theorem dX12_signs_204 : decode cX12_signs 204 = .ok (.invokestatic 248, 3) := by decide +kernel
theorem dX12_signs_207 : decode cX12_signs 207 = .ok (.iconst 4, 1) := by decide +kernel
theorem dX12_signs_208 : decode cX12_signs 208 = .ok (.if_icmp .ne 9, 3) := by decide +kernel
theorem dX12_signs_211 : decode cX12_signs 211 = .ok (.aload_n 0, 1) := by decide +kernel
theorem dX12_signs_212 : decode cX12_signs 212 = .ok (.iconst 1, 1) := by decide +kernel
theorem dX12_signs_213 : decode cX12_signs 213 = .ok (.invokevirtual 168, 3) := by decide +kernel
theorem dX12_signs_216 : decode cX12_signs 216 = .ok (.ireturn, 1) := by decide +kernel
theorem dX12_signs_217 : decode cX12_signs 217 = .ok (.aload_n 0, 1) := by decide +kernel
theorem dX12_signs_218 : decode cX12_signs 218 = .ok (.invokevirtual 274, 3) := by decide +kernel
theorem dX12_signs_221 : decode cX12_signs 221 = .ok (.ifCond .ne 5, 3) := by decide +kernel
theorem dX12_signs_224 : decode cX12_signs 224 = .ok (.iconst 0, 1) := by decide +kernel
theorem dX12_signs_225 : decode cX12_signs 225 = .ok (.ireturn, 1) := by decide +kernel
theorem dX12_signs_226 : decode cX12_signs 226 = .ok (.aload_n 0, 1) := by decide +kernel
theorem dX12_signs_227 : decode cX12_signs 227 = .ok (.iload_n 1, 1) := by decide +kernel
theorem dX12_signs_228 : decode cX12_signs 228 = .ok (.invokevirtual 266, 3) := by decide +kernel
theorem dX12_signs_231 : decode cX12_signs 231 = .ok (.aload_n 0, 1) := by decide +kernel
theorem dX12_signs_232 : decode cX12_signs 232 = .ok (.iconst 1, 1) := by decide +kernel
theorem dX12_signs_233 : decode cX12_signs 233 = .ok (.putfield 278, 3) := by decide +kernel
theorem dX12_signs_236 : decode cX12_signs 236 = .ok (.aload_n 0, 1) := by decide +kernel
theorem dX12_signs_237 : decode cX12_signs 237 = .ok (.iload_n 1, 1) := by decide +kernel
theorem dX12_signs_238 : decode cX12_signs 238 = .ok (.invokestatic 248, 3) := by decide +kernel
theorem dX12_signs_241 : decode cX12_signs 241 = .ok (.iconst 3, 1) := by decide +kernel
theorem dX12_signs_242 : decode cX12_signs 242 = .ok (.if_icmp .ge 7, 3) := by decide +kernel
theorem dX12_signs_245 : decode cX12_signs 245 = .ok (.iconst 1, 1) := by decide +kernel
theorem dX12_signs_246 : decode cX12_signs 246 = .ok (.goto 4, 3) := by decide +kernel
theorem dX12_signs_249 : decode cX12_signs 249 = .ok (.iconst 0, 1) := by decide +kernel
theorem dX12_signs_250 : decode cX12_signs 250 = .ok (.putfield 270, 3) := by decide +kernel
theorem dX12_signs_253 : decode cX12_signs 253 = .ok (.aload_n 0, 1) := by decide +kernel
theorem dX12_signs_254 : decode cX12_signs 254 = .ok (.invokevirtual 171, 3) := by decide +kernel
theorem dX12_signs_257 : decode cX12_signs 257 = .ok (.iconst 1, 1) := by decide +kernel
theorem dX12_signs_258 : decode cX12_signs 258 = .ok (.ireturn, 1) := by decide +kernel
theorem dX12_sumLine_0 : decode cX12_sumLine 0 = .ok (.iconst 3, 1) := by decide +kernel
theorem dX12_sumLine_1 : decode cX12_sumLine 1 = .ok (.aload_n 0, 1) := by decide +kernel
theorem dX12_sumLine_2 : decode cX12_sumLine 2 = .ok (.getfield 153, 3) := by decide +kernel
theorem dX12_sumLine_5 : decode cX12_sumLine 5 = .ok (.iadd, 1) := by decide +kernel
theorem dX12_sumLine_6 : decode cX12_sumLine 6 = .ok (.iconst 5, 1) := by decide +kernel
theorem dX12_sumLine_7 : decode cX12_sumLine 7 = .ok (.isub, 1) := by decide +kernel
theorem dX12_sumLine_8 : decode cX12_sumLine 8 = .ok (.istore_n 1, 1) := by decide +kernel
theorem dX12_sumLine_9 : decode cX12_sumLine 9 = .ok (.aload_n 0, 1) := by decide +kernel
theorem dX12_sumLine_10 : decode cX12_sumLine 10 = .ok (.getfield 78, 3) := by decide +kernel
theorem dX12_sumLine_13 : decode cX12_sumLine 13 = .ok (.iload_n 1, 1) := by decide +kernel
theorem dX12_sumLine_14 : decode cX12_sumLine 14 = .ok (.iaload, 1) := by decide +kernel
theorem dX12_sumLine_15 : decode cX12_sumLine 15 = .ok (.ifCond .le 9, 3) := by decide +kernel
theorem dX12_sumLine_18 : decode cX12_sumLine 18 = .ok (.aload_n 0, 1) := by decide +kernel
theorem dX12_sumLine_19 : decode cX12_sumLine 19 = .ok (.iconst 3, 1) := by decide +kernel
theorem dX12_sumLine_20 : decode cX12_sumLine 20 = .ok (.invokevirtual 168, 3) := by decide +kernel
theorem dX12_sumLine_23 : decode cX12_sumLine 23 = .ok (.ireturn, 1) := by decide +kernel
theorem dX12_sumLine_24 : decode cX12_sumLine 24 = .ok (.aload_n 0, 1) := by decide +kernel
theorem dX12_sumLine_25 : decode cX12_sumLine 25 = .ok (.invokevirtual 171, 3) := by decide +kernel
theorem dX12_sumLine_28 : decode cX12_sumLine 28 = .ok (.aload_n 0, 1) := by decide +kernel
theorem dX12_sumLine_29 : decode cX12_sumLine 29 = .ok (.iconst 0, 1) := by decide +kernel
theorem dX12_sumLine_30 : decode cX12_sumLine 30 = .ok (.putfield 245, 3) := by decide +kernel
theorem dX12_sumLine_33 : decode cX12_sumLine 33 = .ok (.aload_n 0, 1) := by decide +kernel
theorem dX12_sumLine_34 : decode cX12_sumLine 34 = .ok (.iconst 0, 1) := by decide +kernel
theorem dX12_sumLine_35 : decode cX12_sumLine 35 = .ok (.putfield 242, 3) := by decide +kernel
theorem dX12_sumLine_38 : decode cX12_sumLine 38 = .ok (.aload_n 0, 1) := by decide +kernel
theorem dX12_sumLine_39 : decode cX12_sumLine 39 = .ok (.iconst 0, 1) := by decide +kernel
theorem dX12_sumLine_40 : decode cX12_sumLine 40 = .ok (.putfield 263, 3) := by decide +kernel
theorem dX12_sumLine_43 : decode cX12_sumLine 43 = .ok (.aload_n 0, 1) := by decide +kernel
theorem dX12_sumLine_44 : decode cX12_sumLine 44 = .ok (.iconst 1, 1) := by decide +kernel
theorem dX12_sumLine_45 : decode cX12_sumLine 45 = .ok (.putfield 278, 3) := by decide +kernel
theorem dX12_sumLine_48 : decode cX12_sumLine 48 = .ok (.aload_n 0, 1) := by decide +kernel
theorem dX12_sumLine_49 : decode cX12_sumLine 49 = .ok (.iconst 1, 1) := by decide +kernel
theorem dX12_sumLine_50 : decode cX12_sumLine 50 = .ok (.putfield 270, 3) := by decide +kernel
theorem dX12_sumLine_53 : decode cX12_sumLine 53 = .ok (.aload_n 0, 1) := by decide +kernel
theorem dX12_sumLine_54 : decode cX12_sumLine 54 = .ok (.getfield 75, 3) := by decide +kernel
theorem dX12_sumLine_57 : decode cX12_sumLine 57 = .ok (.iload_n 1, 1) := by decide +kernel
theorem dX12_sumLine_58 : decode cX12_sumLine 58 = .ok (.aload_n 0, 1) := by decide +kernel
theorem dX12_sumLine_59 : decode cX12_sumLine 59 = .ok (.getfield 186, 3) := by decide +kernel
theorem dX12_sumLine_62 : decode cX12_sumLine 62 = .ok (.iastore, 1) := by decide +kernel
theorem dX12_sumLine_63 : decode cX12_sumLine 63 = .ok (.aload_n 0, 1) := by decide +kernel
theorem dX12_sumLine_64 : decode cX12_sumLine 64 = .ok (.bipush 59, 2) := by decide +kernel
theorem dX12_sumLine_66 : decode cX12_sumLine 66 = .ok (.invokevirtual 260, 3) := by decide +kernel
theorem dX12_sumLine_69 : decode cX12_sumLine 69 = .ok (.ifCond .eq 17, 3) := by decide +kernel
theorem dX12_sumLine_72 : decode cX12_sumLine 72 = .ok (.aload_n 0, 1) := by decide +kernel
theorem dX12_sumLine_73 : decode cX12_sumLine 73 = .ok (.getfield 278, 3) := by decide +kernel
theorem dX12_sumLine_76 : decode cX12_sumLine 76 = .ok (.ifCond .ne 10, 3) := by decide +kernel
theorem dX12_sumLine_79 : decode cX12_sumLine 79 = .ok (.aload_n 0, 1) := by decide +kernel
theorem dX12_sumLine_80 : decode cX12_sumLine 80 = .ok (.getfield 263, 3) := by decide +kernel
theorem dX12_sumLine_83 : decode cX12_sumLine 83 = .ok (.ifCond .le 29, 3) := by decide +kernel
theorem dX12_sumLine_86 : decode cX12_sumLine 86 = .ok (.aload_n 0, 1) := by decide +kernel
theorem dX12_sumLine_87 : decode cX12_sumLine 87 = .ok (.getfield 278, 3) := by decide +kernel
theorem dX12_sumLine_90 : decode cX12_sumLine 90 = .ok (.ifCond .eq 13, 3) := by decide +kernel
theorem dX12_sumLine_93 : decode cX12_sumLine 93 = .ok (.aload_n 0, 1) := by decide +kernel
theorem dX12_sumLine_94 : decode cX12_sumLine 94 = .ok (.invokevirtual 284, 3) := by decide +kernel
theorem dX12_sumLine_97 : decode cX12_sumLine 97 = .ok (.ifCond .eq 13, 3) := by decide +kernel
theorem dX12_sumLine_100 : decode cX12_sumLine 100 = .ok (.goto (-37), 3) := by decide +kernel
theorem dX12_sumLine_103 : decode cX12_sumLine 103 = .ok (.aload_n 0, 1) := by decide +kernel
theorem dX12_sumLine_104 : decode cX12_sumLine 104 = .ok (.invokevirtual 287, 3) := by decide +kernel
theorem dX12_sumLine_107 : decode cX12_sumLine 107 = .ok (.ifCond .ne (-44), 3) := by decide +kernel
theorem dX12_sumLine_110 : decode cX12_sumLine 110 = .ok (.iconst 0, 1) := by decide +kernel
theorem dX12_sumLine_111 : decode cX12_sumLine 111 = .ok (.ireturn, 1) := by decide +kernel
theorem dX12_sumLine_112 : decode cX12_sumLine 112 = .ok (.aload_n 0, 1) := by decide +kernel
theorem dX12_sumLine_113 : decode cX12_sumLine 113 = .ok (.iconst 1, 1) := by decide +kernel
theorem dX12_sumLine_114 : decode cX12_sumLine 114 = .ok (.invokevirtual 281, 3) := by decide +kernel
theorem dX12_sumLine_117 : decode cX12_sumLine 117 = .ok (.aload_n 0, 1) := by decide +kernel
theorem dX12_sumLine_118 : decode cX12_sumLine 118 = .ok (.getfield 78, 3) := by decide +kernel
theorem dX12_sumLine_121 : decode cX12_sumLine 121 = .ok (.iload_n 1, 1) := by decide +kernel
theorem dX12_sumLine_122 : decode cX12_sumLine 122 = .ok (.aload_n 0, 1) := by decide +kernel
theorem dX12_sumLine_123 : decode cX12_sumLine 123 = .ok (.getfield 186, 3) := by decide +kernel
theorem dX12_sumLine_126 : decode cX12_sumLine 126 = .ok (.iastore, 1) := by decide +kernel
theorem dX12_sumLine_127 : decode cX12_sumLine 127 = .ok (.iconst 1, 1) := by decide +kernel
theorem dX12_sumLine_128 : decode cX12_sumLine 128 = .ok (.ireturn, 1) := by decide +kernel
theorem dX12_lineRead_0 : decode cX12_lineRead 0 = .ok (.aload_n 0, 1) := by decide +kernel
theorem dX12_lineRead_1 : decode cX12_lineRead 1 = .ok (.getfield 142, 3) := by decide +kernel
theorem dX12_lineRead_4 : decode cX12_lineRead 4 = .ok (.iconst 1, 1) := by decide +kernel
theorem dX12_lineRead_5 : decode cX12_lineRead 5 = .ok (.if_icmp .ne 12, 3) := by decide +kernel
theorem dX12_lineRead_8 : decode cX12_lineRead 8 = .ok (.aload_n 0, 1) := by decide +kernel
theorem dX12_lineRead_9 : decode cX12_lineRead 9 = .ok (.getfield 153, 3) := by decide +kernel
theorem dX12_lineRead_12 : decode cX12_lineRead 12 = .ok (.bipush 7, 2) := by decide +kernel
theorem dX12_lineRead_14 : decode cX12_lineRead 14 = .ok (.if_icmp .le 9, 3) := by decide +kernel
theorem dX12_lineRead_17 : decode cX12_lineRead 17 = .ok (.aload_n 0, 1) := by decide +kernel
theorem dX12_lineRead_18 : decode cX12_lineRead 18 = .ok (.iconst 1, 1) := by decide +kernel
theorem dX12_lineRead_19 : decode cX12_lineRead 19 = .ok (.invokevirtual 168, 3) := by decide +kernel
theorem dX12_lineRead_22 : decode cX12_lineRead 22 = .ok (.ireturn, 1) := by decide +kernel
theorem dX12_lineRead_23 : decode cX12_lineRead 23 = .ok (.aload_n 0, 1) := by decide +kernel
theorem dX12_lineRead_24 : decode cX12_lineRead 24 = .ok (.getfield 153, 3) := by decide +kernel
theorem dX12_lineRead_27 : decode cX12_lineRead 27 = .ok (.tableswitch 75 0 4 #[33, 41, 49, 58, 67], 33) := by decide +kernel
theorem dX12_lineRead_60 : decode cX12_lineRead 60 = .ok (.aload_n 0, 1) := by decide +kernel
theorem dX12_lineRead_61 : decode cX12_lineRead 61 = .ok (.invokevirtual 290, 3) := by decide +kernel
theorem dX12_lineRead_64 : decode cX12_lineRead 64 = .ok (.istore_n 1, 1) := by decide +kernel
theorem dX12_lineRead_65 : decode cX12_lineRead 65 = .ok (.goto 42, 3) := by decide +kernel
theorem dX12_lineRead_68 : decode cX12_lineRead 68 = .ok (.aload_n 0, 1) := by decide +kernel
theorem dX12_lineRead_69 : decode cX12_lineRead 69 = .ok (.invokevirtual 293, 3) := by decide +kernel
theorem dX12_lineRead_72 : decode cX12_lineRead 72 = .ok (.istore_n 1, 1) := by decide +kernel
theorem dX12_lineRead_73 : decode cX12_lineRead 73 = .ok (.goto 34, 3) := by decide +kernel
theorem dX12_lineRead_76 : decode cX12_lineRead 76 = .ok (.aload_n 0, 1) := by decide +kernel
theorem dX12_lineRead_77 : decode cX12_lineRead 77 = .ok (.iconst 0, 1) := by decide +kernel
theorem dX12_lineRead_78 : decode cX12_lineRead 78 = .ok (.invokevirtual 296, 3) := by decide +kernel
theorem dX12_lineRead_81 : decode cX12_lineRead 81 = .ok (.istore_n 1, 1) := by decide +kernel
theorem dX12_lineRead_82 : decode cX12_lineRead 82 = .ok (.goto 25, 3) := by decide +kernel
theorem dX12_lineRead_85 : decode cX12_lineRead 85 = .ok (.aload_n 0, 1) := by decide +kernel
theorem dX12_lineRead_86 : decode cX12_lineRead 86 = .ok (.iconst 1, 1) := by decide +kernel
theorem dX12_lineRead_87 : decode cX12_lineRead 87 = .ok (.invokevirtual 296, 3) := by decide +kernel
theorem dX12_lineRead_90 : decode cX12_lineRead 90 = .ok (.istore_n 1, 1) := by decide +kernel
theorem dX12_lineRead_91 : decode cX12_lineRead 91 = .ok (.goto 16, 3) := by decide +kernel
theorem dX12_lineRead_94 : decode cX12_lineRead 94 = .ok (.aload_n 0, 1) := by decide +kernel
theorem dX12_lineRead_95 : decode cX12_lineRead 95 = .ok (.invokevirtual 300, 3) := by decide +kernel
theorem dX12_lineRead_98 : decode cX12_lineRead 98 = .ok (.istore_n 1, 1) := by decide +kernel
theorem dX12_lineRead_99 : decode cX12_lineRead 99 = .ok (.goto 8, 3) := by decide +kernel
theorem dX12_lineRead_102 : decode cX12_lineRead 102 = .ok (.aload_n 0, 1) := by decide +kernel
theorem dX12_lineRead_103 : decode cX12_lineRead 103 = .ok (.invokevirtual 303, 3) := by decide +kernel
theorem dX12_lineRead_106 : decode cX12_lineRead 106 = .ok (.istore_n 1, 1) := by decide +kernel
theorem dX12_lineRead_107 : decode cX12_lineRead 107 = .ok (.iload_n 1, 1) := by decide +kernel
theorem dX12_lineRead_108 : decode cX12_lineRead 108 = .ok (.ifCond .ne 5, 3) := by decide +kernel
theorem dX12_lineRead_111 : decode cX12_lineRead 111 = .ok (.iconst 0, 1) := by decide +kernel
theorem dX12_lineRead_112 : decode cX12_lineRead 112 = .ok (.ireturn, 1) := by decide +kernel
theorem dX12_lineRead_113 : decode cX12_lineRead 113 = .ok (.aload_n 0, 1) := by decide +kernel
theorem dX12_lineRead_114 : decode cX12_lineRead 114 = .ok (.bipush 59, 2) := by decide +kernel
theorem dX12_lineRead_116 : decode cX12_lineRead 116 = .ok (.invokevirtual 260, 3) := by decide +kernel
theorem dX12_lineRead_119 : decode cX12_lineRead 119 = .ok (.ifCond .ne 9, 3) := by decide +kernel
theorem dX12_lineRead_122 : decode cX12_lineRead 122 = .ok (.aload_n 0, 1) := by decide +kernel
theorem dX12_lineRead_123 : decode cX12_lineRead 123 = .ok (.iconst 1, 1) := by decide +kernel
theorem dX12_lineRead_124 : decode cX12_lineRead 124 = .ok (.invokevirtual 168, 3) := by decide +kernel
theorem dX12_lineRead_127 : decode cX12_lineRead 127 = .ok (.ireturn, 1) := by decide +kernel
theorem dX12_lineRead_128 : decode cX12_lineRead 128 = .ok (.aload_n 0, 1) := by decide +kernel
theorem dX12_lineRead_129 : decode cX12_lineRead 129 = .ok (.invokevirtual 171, 3) := by decide +kernel
theorem dX12_lineRead_132 : decode cX12_lineRead 132 = .ok (.iconst 1, 1) := by decide +kernel
theorem dX12_lineRead_133 : decode cX12_lineRead 133 = .ok (.ireturn, 1) := by decide +kernel
theorem dX12_tell_0 : decode cX12_tell 0 = .ok (.aload_n 0, 1) := by decide +kernel
theorem dX12_tell_1 : decode cX12_tell 1 = .ok (.iconst 0, 1) := by decide +kernel
theorem dX12_tell_2 : decode cX12_tell 2 = .ok (.putfield 124, 3) := by decide +kernel
theorem dX12_tell_5 : decode cX12_tell 5 = .ok (.iload_n 1, 1) := by decide +kernel
theorem dX12_tell_6 : decode cX12_tell 6 = .ok (.ifCond .lt 11, 3) := by decide +kernel
theorem dX12_tell_9 : decode cX12_tell 9 = .ok (.iload_n 1, 1) := by decide +kernel
theorem dX12_tell_10 : decode cX12_tell 10 = .ok (.aload_n 0, 1) := by decide +kernel
theorem dX12_tell_11 : decode cX12_tell 11 = .ok (.getfield 127, 3) := by decide +kernel
theorem dX12_tell_14 : decode cX12_tell 14 = .ok (.if_icmp .le 6, 3) := by decide +kernel
theorem dX12_tell_17 : decode cX12_tell 17 = .ok (.bipush (-2), 2) := by decide +kernel
theorem dX12_tell_19 : decode cX12_tell 19 = .ok (.ireturn, 1) := by decide +kernel
theorem dX12_tell_20 : decode cX12_tell 20 = .ok (.aload_n 0, 1) := by decide +kernel
theorem dX12_tell_21 : decode cX12_tell 21 = .ok (.iload_n 1, 1) := by decide +kernel
theorem dX12_tell_22 : decode cX12_tell 22 = .ok (.putfield 136, 3) := by decide +kernel
theorem dX12_tell_25 : decode cX12_tell 25 = .ok (.aload_n 0, 1) := by decide +kernel
theorem dX12_tell_26 : decode cX12_tell 26 = .ok (.iconst 0, 1) := by decide +kernel
theorem dX12_tell_27 : decode cX12_tell 27 = .ok (.putfield 127, 3) := by decide +kernel
theorem dX12_tell_30 : decode cX12_tell 30 = .ok (.aload_n 0, 1) := by decide +kernel
theorem dX12_tell_31 : decode cX12_tell 31 = .ok (.iconst 0, 1) := by decide +kernel
theorem dX12_tell_32 : decode cX12_tell 32 = .ok (.putfield 130, 3) := by decide +kernel
theorem dX12_tell_35 : decode cX12_tell 35 = .ok (.aload_n 0, 1) := by decide +kernel
theorem dX12_tell_36 : decode cX12_tell 36 = .ok (.iconst (-1), 1) := by decide +kernel
theorem dX12_tell_37 : decode cX12_tell 37 = .ok (.putfield 16, 3) := by decide +kernel
theorem dX12_tell_40 : decode cX12_tell 40 = .ok (.aload_n 0, 1) := by decide +kernel
theorem dX12_tell_41 : decode cX12_tell 41 = .ok (.iconst 0, 1) := by decide +kernel
theorem dX12_tell_42 : decode cX12_tell 42 = .ok (.putfield 139, 3) := by decide +kernel
theorem dX12_tell_45 : decode cX12_tell 45 = .ok (.aload_n 0, 1) := by decide +kernel
theorem dX12_tell_46 : decode cX12_tell 46 = .ok (.invokevirtual 118, 3) := by decide +kernel
theorem dX12_tell_49 : decode cX12_tell 49 = .ok (.aload_n 0, 1) := by decide +kernel
theorem dX12_tell_50 : decode cX12_tell 50 = .ok (.invokevirtual 171, 3) := by decide +kernel
theorem dX12_tell_53 : decode cX12_tell 53 = .ok (.iconst 0, 1) := by decide +kernel
theorem dX12_tell_54 : decode cX12_tell 54 = .ok (.istore_n 2, 1) := by decide +kernel
theorem dX12_tell_55 : decode cX12_tell 55 = .ok (.aload_n 0, 1) := by decide +kernel
theorem dX12_tell_56 : decode cX12_tell 56 = .ok (.getfield 142, 3) := by decide +kernel
theorem dX12_tell_59 : decode cX12_tell 59 = .ok (.ifCond .eq 18, 3) := by decide +kernel
theorem dX12_tell_62 : decode cX12_tell 62 = .ok (.aload_n 0, 1) := by decide +kernel
theorem dX12_tell_63 : decode cX12_tell 63 = .ok (.invokevirtual 306, 3) := by decide +kernel
theorem dX12_tell_66 : decode cX12_tell 66 = .ok (.ifCond .ne 5, 3) := by decide +kernel
theorem dX12_tell_69 : decode cX12_tell 69 = .ok (.iconst (-1), 1) := by decide +kernel
theorem dX12_tell_70 : decode cX12_tell 70 = .ok (.ireturn, 1) := by decide +kernel
theorem dX12_tell_71 : decode cX12_tell 71 = .ok (.iinc 2 1, 3) := by decide +kernel
theorem dX12_tell_74 : decode cX12_tell 74 = .ok (.goto (-19), 3) := by decide +kernel
theorem dX12_tell_77 : decode cX12_tell 77 = .ok (.aload_n 0, 1) := by decide +kernel
theorem dX12_tell_78 : decode cX12_tell 78 = .ok (.invokevirtual 121, 3) := by decide +kernel
theorem dX12_tell_81 : decode cX12_tell 81 = .ok (.iload_n 2, 1) := by decide +kernel
theorem dX12_tell_82 : decode cX12_tell 82 = .ok (.ireturn, 1) := by decide +kernel
theorem dX12_fault_0 : decode cX12_fault 0 = .ok (.aload_n 0, 1) := by decide +kernel
theorem dX12_fault_1 : decode cX12_fault 1 = .ok (.iconst 0, 1) := by decide +kernel
theorem dX12_fault_2 : decode cX12_fault 2 = .ok (.putfield 124, 3) := by decide +kernel
theorem dX12_fault_5 : decode cX12_fault 5 = .ok (.iload_n 1, 1) := by decide +kernel
theorem dX12_fault_6 : decode cX12_fault 6 = .ok (.ifCond .ne 10, 3) := by decide +kernel
theorem dX12_fault_9 : decode cX12_fault 9 = .ok (.aload_n 0, 1) := by decide +kernel
theorem dX12_fault_10 : decode cX12_fault 10 = .ok (.getfield 130, 3) := by decide +kernel
theorem dX12_fault_13 : decode cX12_fault 13 = .ok (.goto 16, 3) := by decide +kernel
theorem dX12_fault_16 : decode cX12_fault 16 = .ok (.iload_n 1, 1) := by decide +kernel
theorem dX12_fault_17 : decode cX12_fault 17 = .ok (.iconst 1, 1) := by decide +kernel
theorem dX12_fault_18 : decode cX12_fault 18 = .ok (.if_icmp .ne 10, 3) := by decide +kernel
theorem dX12_fault_21 : decode cX12_fault 21 = .ok (.aload_n 0, 1) := by decide +kernel
theorem dX12_fault_22 : decode cX12_fault 22 = .ok (.getfield 16, 3) := by decide +kernel
theorem dX12_fault_25 : decode cX12_fault 25 = .ok (.goto 4, 3) := by decide +kernel
theorem dX12_fault_28 : decode cX12_fault 28 = .ok (.iconst (-1), 1) := by decide +kernel
theorem dX12_fault_29 : decode cX12_fault 29 = .ok (.ireturn, 1) := by decide +kernel
theorem dX12_named_0 : decode cX12_named 0 = .ok (.aload_n 0, 1) := by decide +kernel
theorem dX12_named_1 : decode cX12_named 1 = .ok (.iconst 0, 1) := by decide +kernel
theorem dX12_named_2 : decode cX12_named 2 = .ok (.putfield 124, 3) := by decide +kernel
theorem dX12_named_5 : decode cX12_named 5 = .ok (.iload_n 1, 1) := by decide +kernel
theorem dX12_named_6 : decode cX12_named 6 = .ok (.ifCond .ne 20, 3) := by decide +kernel
theorem dX12_named_9 : decode cX12_named 9 = .ok (.aload_n 0, 1) := by decide +kernel
theorem dX12_named_10 : decode cX12_named 10 = .ok (.aload_n 0, 1) := by decide +kernel
theorem dX12_named_11 : decode cX12_named 11 = .ok (.getfield 20, 3) := by decide +kernel
theorem dX12_named_14 : decode cX12_named 14 = .ok (.iconst 0, 1) := by decide +kernel
theorem dX12_named_15 : decode cX12_named 15 = .ok (.aload_n 0, 1) := by decide +kernel
theorem dX12_named_16 : decode cX12_named 16 = .ok (.getfield 192, 3) := by decide +kernel
theorem dX12_named_19 : decode cX12_named 19 = .ok (.iload_n 2, 1) := by decide +kernel
theorem dX12_named_20 : decode cX12_named 20 = .ok (.invokevirtual 220, 3) := by decide +kernel
theorem dX12_named_23 : decode cX12_named 23 = .ok (.goto 26, 3) := by decide +kernel
theorem dX12_named_26 : decode cX12_named 26 = .ok (.iload_n 1, 1) := by decide +kernel
theorem dX12_named_27 : decode cX12_named 27 = .ok (.iconst 1, 1) := by decide +kernel
theorem dX12_named_28 : decode cX12_named 28 = .ok (.if_icmp .ne 20, 3) := by decide +kernel
theorem dX12_named_31 : decode cX12_named 31 = .ok (.aload_n 0, 1) := by decide +kernel
theorem dX12_named_32 : decode cX12_named 32 = .ok (.aload_n 0, 1) := by decide +kernel
theorem dX12_named_33 : decode cX12_named 33 = .ok (.getfield 35, 3) := by decide +kernel
theorem dX12_named_36 : decode cX12_named 36 = .ok (.iconst 0, 1) := by decide +kernel
theorem dX12_named_37 : decode cX12_named 37 = .ok (.aload_n 0, 1) := by decide +kernel
theorem dX12_named_38 : decode cX12_named 38 = .ok (.getfield 195, 3) := by decide +kernel
theorem dX12_named_41 : decode cX12_named 41 = .ok (.iload_n 2, 1) := by decide +kernel
theorem dX12_named_42 : decode cX12_named 42 = .ok (.invokevirtual 220, 3) := by decide +kernel
theorem dX12_named_45 : decode cX12_named 45 = .ok (.goto 4, 3) := by decide +kernel
theorem dX12_named_48 : decode cX12_named 48 = .ok (.iconst (-1), 1) := by decide +kernel
theorem dX12_named_49 : decode cX12_named 49 = .ok (.ireturn, 1) := by decide +kernel
theorem dX12_isThing_0 : decode cX12_isThing 0 = .ok (.iload_n 1, 1) := by decide +kernel
theorem dX12_isThing_1 : decode cX12_isThing 1 = .ok (.ifCond .lt 15, 3) := by decide +kernel
theorem dX12_isThing_4 : decode cX12_isThing 4 = .ok (.iload_n 1, 1) := by decide +kernel
theorem dX12_isThing_5 : decode cX12_isThing 5 = .ok (.aload_n 0, 1) := by decide +kernel
theorem dX12_isThing_6 : decode cX12_isThing 6 = .ok (.getfield 192, 3) := by decide +kernel
theorem dX12_isThing_9 : decode cX12_isThing 9 = .ok (.if_icmp .ge 7, 3) := by decide +kernel
theorem dX12_isThing_12 : decode cX12_isThing 12 = .ok (.iconst 1, 1) := by decide +kernel
theorem dX12_isThing_13 : decode cX12_isThing 13 = .ok (.goto 4, 3) := by decide +kernel
theorem dX12_isThing_16 : decode cX12_isThing 16 = .ok (.iconst 0, 1) := by decide +kernel
theorem dX12_isThing_17 : decode cX12_isThing 17 = .ok (.ireturn, 1) := by decide +kernel
theorem dX12_isTeller_0 : decode cX12_isTeller 0 = .ok (.iload_n 1, 1) := by decide +kernel
theorem dX12_isTeller_1 : decode cX12_isTeller 1 = .ok (.ifCond .lt 15, 3) := by decide +kernel
theorem dX12_isTeller_4 : decode cX12_isTeller 4 = .ok (.iload_n 1, 1) := by decide +kernel
theorem dX12_isTeller_5 : decode cX12_isTeller 5 = .ok (.aload_n 0, 1) := by decide +kernel
theorem dX12_isTeller_6 : decode cX12_isTeller 6 = .ok (.getfield 195, 3) := by decide +kernel
theorem dX12_isTeller_9 : decode cX12_isTeller 9 = .ok (.if_icmp .ge 7, 3) := by decide +kernel
theorem dX12_isTeller_12 : decode cX12_isTeller 12 = .ok (.iconst 1, 1) := by decide +kernel
theorem dX12_isTeller_13 : decode cX12_isTeller 13 = .ok (.goto 4, 3) := by decide +kernel
theorem dX12_isTeller_16 : decode cX12_isTeller 16 = .ok (.iconst 0, 1) := by decide +kernel
theorem dX12_isTeller_17 : decode cX12_isTeller 17 = .ok (.ireturn, 1) := by decide +kernel
theorem dX12_fails_0 : decode cX12_fails 0 = .ok (.aload_n 0, 1) := by decide +kernel
theorem dX12_fails_1 : decode cX12_fails 1 = .ok (.iload_n 1, 1) := by decide +kernel
theorem dX12_fails_2 : decode cX12_fails 2 = .ok (.putfield 124, 3) := by decide +kernel
theorem dX12_fails_5 : decode cX12_fails 5 = .ok (.iconst 0, 1) := by decide +kernel
theorem dX12_fails_6 : decode cX12_fails 6 = .ok (.ireturn, 1) := by decide +kernel
theorem dX12_look_0 : decode cX12_look 0 = .ok (.aload_n 0, 1) := by decide +kernel
theorem dX12_look_1 : decode cX12_look 1 = .ok (.iconst 0, 1) := by decide +kernel
theorem dX12_look_2 : decode cX12_look 2 = .ok (.putfield 124, 3) := by decide +kernel
theorem dX12_look_5 : decode cX12_look 5 = .ok (.aload_n 0, 1) := by decide +kernel
theorem dX12_look_6 : decode cX12_look 6 = .ok (.iload_n 1, 1) := by decide +kernel
theorem dX12_look_7 : decode cX12_look 7 = .ok (.invokevirtual 309, 3) := by decide +kernel
theorem dX12_look_10 : decode cX12_look 10 = .ok (.ifCond .ne 9, 3) := by decide +kernel
theorem dX12_look_13 : decode cX12_look 13 = .ok (.aload_n 0, 1) := by decide +kernel
theorem dX12_look_14 : decode cX12_look 14 = .ok (.iconst 1, 1) := by decide +kernel
theorem dX12_look_15 : decode cX12_look 15 = .ok (.invokevirtual 312, 3) := by decide +kernel
theorem dX12_look_18 : decode cX12_look 18 = .ok (.ireturn, 1) := by decide +kernel
theorem dX12_look_19 : decode cX12_look 19 = .ok (.iload_n 2, 1) := by decide +kernel
theorem dX12_look_20 : decode cX12_look 20 = .ok (.tableswitch 60 0 3 #[32, 39, 46, 53], 32) := by decide +kernel
theorem dX12_look_52 : decode cX12_look 52 = .ok (.aload_n 0, 1) := by decide +kernel
theorem dX12_look_53 : decode cX12_look 53 = .ok (.getfield 23, 3) := by decide +kernel
theorem dX12_look_56 : decode cX12_look 56 = .ok (.iload_n 1, 1) := by decide +kernel
theorem dX12_look_57 : decode cX12_look 57 = .ok (.iaload, 1) := by decide +kernel
theorem dX12_look_58 : decode cX12_look 58 = .ok (.ireturn, 1) := by decide +kernel
theorem dX12_look_59 : decode cX12_look 59 = .ok (.aload_n 0, 1) := by decide +kernel
theorem dX12_look_60 : decode cX12_look 60 = .ok (.getfield 26, 3) := by decide +kernel
theorem dX12_look_63 : decode cX12_look 63 = .ok (.iload_n 1, 1) := by decide +kernel
theorem dX12_look_64 : decode cX12_look 64 = .ok (.iaload, 1) := by decide +kernel
theorem dX12_look_65 : decode cX12_look 65 = .ok (.ireturn, 1) := by decide +kernel
theorem dX12_look_66 : decode cX12_look 66 = .ok (.aload_n 0, 1) := by decide +kernel
theorem dX12_look_67 : decode cX12_look 67 = .ok (.getfield 29, 3) := by decide +kernel
theorem dX12_look_70 : decode cX12_look 70 = .ok (.iload_n 1, 1) := by decide +kernel
theorem dX12_look_71 : decode cX12_look 71 = .ok (.iaload, 1) := by decide +kernel
theorem dX12_look_72 : decode cX12_look 72 = .ok (.ireturn, 1) := by decide +kernel
theorem dX12_look_73 : decode cX12_look 73 = .ok (.aload_n 0, 1) := by decide +kernel
theorem dX12_look_74 : decode cX12_look 74 = .ok (.getfield 32, 3) := by decide +kernel
theorem dX12_look_77 : decode cX12_look 77 = .ok (.iload_n 1, 1) := by decide +kernel
theorem dX12_look_78 : decode cX12_look 78 = .ok (.iaload, 1) := by decide +kernel
theorem dX12_look_79 : decode cX12_look 79 = .ok (.ireturn, 1) := by decide +kernel
theorem dX12_look_80 : decode cX12_look 80 = .ok (.aload_n 0, 1) := by decide +kernel
theorem dX12_look_81 : decode cX12_look 81 = .ok (.iconst 2, 1) := by decide +kernel
theorem dX12_look_82 : decode cX12_look 82 = .ok (.invokevirtual 312, 3) := by decide +kernel
theorem dX12_look_85 : decode cX12_look 85 = .ok (.ireturn, 1) := by decide +kernel
theorem dX12_teller_0 : decode cX12_teller 0 = .ok (.aload_n 0, 1) := by decide +kernel
theorem dX12_teller_1 : decode cX12_teller 1 = .ok (.iconst 0, 1) := by decide +kernel
theorem dX12_teller_2 : decode cX12_teller 2 = .ok (.putfield 124, 3) := by decide +kernel
theorem dX12_teller_5 : decode cX12_teller 5 = .ok (.aload_n 0, 1) := by decide +kernel
theorem dX12_teller_6 : decode cX12_teller 6 = .ok (.iload_n 1, 1) := by decide +kernel
theorem dX12_teller_7 : decode cX12_teller 7 = .ok (.invokevirtual 315, 3) := by decide +kernel
theorem dX12_teller_10 : decode cX12_teller 10 = .ok (.ifCond .ne 5, 3) := by decide +kernel
theorem dX12_teller_13 : decode cX12_teller 13 = .ok (.iconst (-1), 1) := by decide +kernel
theorem dX12_teller_14 : decode cX12_teller 14 = .ok (.ireturn, 1) := by decide +kernel
theorem dX12_teller_15 : decode cX12_teller 15 = .ok (.iload_n 2, 1) := by decide +kernel
theorem dX12_teller_16 : decode cX12_teller 16 = .ok (.tableswitch 60 0 3 #[32, 39, 46, 53], 32) := by decide +kernel
theorem dX12_teller_48 : decode cX12_teller 48 = .ok (.aload_n 0, 1) := by decide +kernel
theorem dX12_teller_49 : decode cX12_teller 49 = .ok (.getfield 38, 3) := by decide +kernel
theorem dX12_teller_52 : decode cX12_teller 52 = .ok (.iload_n 1, 1) := by decide +kernel
theorem dX12_teller_53 : decode cX12_teller 53 = .ok (.iaload, 1) := by decide +kernel
theorem dX12_teller_54 : decode cX12_teller 54 = .ok (.ireturn, 1) := by decide +kernel
theorem dX12_teller_55 : decode cX12_teller 55 = .ok (.aload_n 0, 1) := by decide +kernel
theorem dX12_teller_56 : decode cX12_teller 56 = .ok (.getfield 41, 3) := by decide +kernel
theorem dX12_teller_59 : decode cX12_teller 59 = .ok (.iload_n 1, 1) := by decide +kernel
theorem dX12_teller_60 : decode cX12_teller 60 = .ok (.iaload, 1) := by decide +kernel
theorem dX12_teller_61 : decode cX12_teller 61 = .ok (.ireturn, 1) := by decide +kernel
theorem dX12_teller_62 : decode cX12_teller 62 = .ok (.aload_n 0, 1) := by decide +kernel
theorem dX12_teller_63 : decode cX12_teller 63 = .ok (.getfield 44, 3) := by decide +kernel
theorem dX12_teller_66 : decode cX12_teller 66 = .ok (.iload_n 1, 1) := by decide +kernel
theorem dX12_teller_67 : decode cX12_teller 67 = .ok (.iaload, 1) := by decide +kernel
theorem dX12_teller_68 : decode cX12_teller 68 = .ok (.ireturn, 1) := by decide +kernel
theorem dX12_teller_69 : decode cX12_teller 69 = .ok (.aload_n 0, 1) := by decide +kernel
theorem dX12_teller_70 : decode cX12_teller 70 = .ok (.getfield 47, 3) := by decide +kernel
theorem dX12_teller_73 : decode cX12_teller 73 = .ok (.iload_n 1, 1) := by decide +kernel
theorem dX12_teller_74 : decode cX12_teller 74 = .ok (.iaload, 1) := by decide +kernel
theorem dX12_teller_75 : decode cX12_teller 75 = .ok (.ireturn, 1) := by decide +kernel
theorem dX12_teller_76 : decode cX12_teller 76 = .ok (.iconst (-1), 1) := by decide +kernel
theorem dX12_teller_77 : decode cX12_teller 77 = .ok (.ireturn, 1) := by decide +kernel
theorem dX12_isHeard_0 : decode cX12_isHeard 0 = .ok (.iload_n 1, 1) := by decide +kernel
theorem dX12_isHeard_1 : decode cX12_isHeard 1 = .ok (.ifCond .lt 28, 3) := by decide +kernel
theorem dX12_isHeard_4 : decode cX12_isHeard 4 = .ok (.iload_n 1, 1) := by decide +kernel
theorem dX12_isHeard_5 : decode cX12_isHeard 5 = .ok (.aload_n 0, 1) := by decide +kernel
theorem dX12_isHeard_6 : decode cX12_isHeard 6 = .ok (.getfield 198, 3) := by decide +kernel
theorem dX12_isHeard_9 : decode cX12_isHeard 9 = .ok (.if_icmp .ge 20, 3) := by decide +kernel
theorem dX12_isHeard_12 : decode cX12_isHeard 12 = .ok (.aload_n 0, 1) := by decide +kernel
theorem dX12_isHeard_13 : decode cX12_isHeard 13 = .ok (.getfield 57, 3) := by decide +kernel
theorem dX12_isHeard_16 : decode cX12_isHeard 16 = .ok (.iload_n 1, 1) := by decide +kernel
theorem dX12_isHeard_17 : decode cX12_isHeard 17 = .ok (.iaload, 1) := by decide +kernel
theorem dX12_isHeard_18 : decode cX12_isHeard 18 = .ok (.aload_n 0, 1) := by decide +kernel
theorem dX12_isHeard_19 : decode cX12_isHeard 19 = .ok (.getfield 214, 3) := by decide +kernel
theorem dX12_isHeard_22 : decode cX12_isHeard 22 = .ok (.if_icmp .gt 7, 3) := by decide +kernel
theorem dX12_isHeard_25 : decode cX12_isHeard 25 = .ok (.iconst 1, 1) := by decide +kernel
theorem dX12_isHeard_26 : decode cX12_isHeard 26 = .ok (.goto 4, 3) := by decide +kernel
theorem dX12_isHeard_29 : decode cX12_isHeard 29 = .ok (.iconst 0, 1) := by decide +kernel
theorem dX12_isHeard_30 : decode cX12_isHeard 30 = .ok (.ireturn, 1) := by decide +kernel
theorem dX12_isHeardWord_0 : decode cX12_isHeardWord 0 = .ok (.aload_n 0, 1) := by decide +kernel
theorem dX12_isHeardWord_1 : decode cX12_isHeardWord 1 = .ok (.iload_n 1, 1) := by decide +kernel
theorem dX12_isHeardWord_2 : decode cX12_isHeardWord 2 = .ok (.invokevirtual 318, 3) := by decide +kernel
theorem dX12_isHeardWord_5 : decode cX12_isHeardWord 5 = .ok (.ifCond .eq 16, 3) := by decide +kernel
theorem dX12_isHeardWord_8 : decode cX12_isHeardWord 8 = .ok (.aload_n 0, 1) := by decide +kernel
theorem dX12_isHeardWord_9 : decode cX12_isHeardWord 9 = .ok (.getfield 50, 3) := by decide +kernel
theorem dX12_isHeardWord_12 : decode cX12_isHeardWord 12 = .ok (.iload_n 1, 1) := by decide +kernel
theorem dX12_isHeardWord_13 : decode cX12_isHeardWord 13 = .ok (.baload, 1) := by decide +kernel
theorem dX12_isHeardWord_14 : decode cX12_isHeardWord 14 = .ok (.ifCond .eq 7, 3) := by decide +kernel
theorem dX12_isHeardWord_17 : decode cX12_isHeardWord 17 = .ok (.iconst 1, 1) := by decide +kernel
theorem dX12_isHeardWord_18 : decode cX12_isHeardWord 18 = .ok (.goto 4, 3) := by decide +kernel
theorem dX12_isHeardWord_21 : decode cX12_isHeardWord 21 = .ok (.iconst 0, 1) := by decide +kernel
theorem dX12_isHeardWord_22 : decode cX12_isHeardWord 22 = .ok (.ireturn, 1) := by decide +kernel
theorem dX12_says_0 : decode cX12_says 0 = .ok (.aload_n 0, 1) := by decide +kernel
theorem dX12_says_1 : decode cX12_says 1 = .ok (.iload_n 1, 1) := by decide +kernel
theorem dX12_says_2 : decode cX12_says 2 = .ok (.invokevirtual 321, 3) := by decide +kernel
theorem dX12_says_5 : decode cX12_says 5 = .ok (.ifCond .eq 27, 3) := by decide +kernel
theorem dX12_says_8 : decode cX12_says 8 = .ok (.aload_n 0, 1) := by decide +kernel
theorem dX12_says_9 : decode cX12_says 9 = .ok (.getfield 54, 3) := by decide +kernel
theorem dX12_says_12 : decode cX12_says 12 = .ok (.iload_n 1, 1) := by decide +kernel
theorem dX12_says_13 : decode cX12_says 13 = .ok (.iaload, 1) := by decide +kernel
theorem dX12_says_14 : decode cX12_says 14 = .ok (.iload_n 2, 1) := by decide +kernel
theorem dX12_says_15 : decode cX12_says 15 = .ok (.if_icmp .ne 17, 3) := by decide +kernel
theorem dX12_says_18 : decode cX12_says 18 = .ok (.aload_n 0, 1) := by decide +kernel
theorem dX12_says_19 : decode cX12_says 19 = .ok (.getfield 60, 3) := by decide +kernel
theorem dX12_says_22 : decode cX12_says 22 = .ok (.iload_n 1, 1) := by decide +kernel
theorem dX12_says_23 : decode cX12_says 23 = .ok (.iaload, 1) := by decide +kernel
theorem dX12_says_24 : decode cX12_says 24 = .ok (.iload_n 3, 1) := by decide +kernel
theorem dX12_says_25 : decode cX12_says 25 = .ok (.if_icmp .ne 7, 3) := by decide +kernel
theorem dX12_says_28 : decode cX12_says 28 = .ok (.iconst 1, 1) := by decide +kernel
theorem dX12_says_29 : decode cX12_says 29 = .ok (.goto 4, 3) := by decide +kernel
theorem dX12_says_32 : decode cX12_says 32 = .ok (.iconst 0, 1) := by decide +kernel
theorem dX12_says_33 : decode cX12_says 33 = .ok (.ireturn, 1) := by decide +kernel
theorem dX12_asks_0 : decode cX12_asks 0 = .ok (.aload_n 0, 1) := by decide +kernel
theorem dX12_asks_1 : decode cX12_asks 1 = .ok (.iload_n 1, 1) := by decide +kernel
theorem dX12_asks_2 : decode cX12_asks 2 = .ok (.invokevirtual 318, 3) := by decide +kernel
theorem dX12_asks_5 : decode cX12_asks 5 = .ok (.ifCond .eq 26, 3) := by decide +kernel
theorem dX12_asks_8 : decode cX12_asks 8 = .ok (.aload_n 0, 1) := by decide +kernel
theorem dX12_asks_9 : decode cX12_asks 9 = .ok (.getfield 50, 3) := by decide +kernel
theorem dX12_asks_12 : decode cX12_asks 12 = .ok (.iload_n 1, 1) := by decide +kernel
theorem dX12_asks_13 : decode cX12_asks 13 = .ok (.baload, 1) := by decide +kernel
theorem dX12_asks_14 : decode cX12_asks 14 = .ok (.ifCond .ne 17, 3) := by decide +kernel
theorem dX12_asks_17 : decode cX12_asks 17 = .ok (.aload_n 0, 1) := by decide +kernel
theorem dX12_asks_18 : decode cX12_asks 18 = .ok (.getfield 54, 3) := by decide +kernel
theorem dX12_asks_21 : decode cX12_asks 21 = .ok (.iload_n 1, 1) := by decide +kernel
theorem dX12_asks_22 : decode cX12_asks 22 = .ok (.iaload, 1) := by decide +kernel
theorem dX12_asks_23 : decode cX12_asks 23 = .ok (.iload_n 2, 1) := by decide +kernel
theorem dX12_asks_24 : decode cX12_asks 24 = .ok (.if_icmp .ne 7, 3) := by decide +kernel
theorem dX12_asks_27 : decode cX12_asks 27 = .ok (.iconst 1, 1) := by decide +kernel
theorem dX12_asks_28 : decode cX12_asks 28 = .ok (.goto 4, 3) := by decide +kernel
theorem dX12_asks_31 : decode cX12_asks 31 = .ok (.iconst 0, 1) := by decide +kernel
theorem dX12_asks_32 : decode cX12_asks 32 = .ok (.ireturn, 1) := by decide +kernel
theorem dX12_line_0 : decode cX12_line 0 = .ok (.aload_n 0, 1) := by decide +kernel
theorem dX12_line_1 : decode cX12_line 1 = .ok (.iconst 0, 1) := by decide +kernel
theorem dX12_line_2 : decode cX12_line 2 = .ok (.putfield 124, 3) := by decide +kernel
theorem dX12_line_5 : decode cX12_line 5 = .ok (.aload_n 0, 1) := by decide +kernel
theorem dX12_line_6 : decode cX12_line 6 = .ok (.iload_n 1, 1) := by decide +kernel
theorem dX12_line_7 : decode cX12_line 7 = .ok (.invokevirtual 318, 3) := by decide +kernel
theorem dX12_line_10 : decode cX12_line 10 = .ok (.ifCond .ne 6, 3) := by decide +kernel
theorem dX12_line_13 : decode cX12_line 13 = .ok (.bipush (-2), 2) := by decide +kernel
theorem dX12_line_15 : decode cX12_line 15 = .ok (.ireturn, 1) := by decide +kernel
theorem dX12_line_16 : decode cX12_line 16 = .ok (.iload_n 2, 1) := by decide +kernel
theorem dX12_line_17 : decode cX12_line 17 = .ok (.tableswitch 78 0 4 #[35, 50, 57, 64, 71], 35) := by decide +kernel
theorem dX12_line_52 : decode cX12_line 52 = .ok (.aload_n 0, 1) := by decide +kernel
theorem dX12_line_53 : decode cX12_line 53 = .ok (.getfield 50, 3) := by decide +kernel
theorem dX12_line_56 : decode cX12_line 56 = .ok (.iload_n 1, 1) := by decide +kernel
theorem dX12_line_57 : decode cX12_line 57 = .ok (.baload, 1) := by decide +kernel
theorem dX12_line_58 : decode cX12_line 58 = .ok (.ifCond .eq 7, 3) := by decide +kernel
theorem dX12_line_61 : decode cX12_line 61 = .ok (.iconst 1, 1) := by decide +kernel
theorem dX12_line_62 : decode cX12_line 62 = .ok (.goto 4, 3) := by decide +kernel
theorem dX12_line_65 : decode cX12_line 65 = .ok (.iconst 0, 1) := by decide +kernel
theorem dX12_line_66 : decode cX12_line 66 = .ok (.ireturn, 1) := by decide +kernel
theorem dX12_line_67 : decode cX12_line 67 = .ok (.aload_n 0, 1) := by decide +kernel
theorem dX12_line_68 : decode cX12_line 68 = .ok (.getfield 54, 3) := by decide +kernel
theorem dX12_line_71 : decode cX12_line 71 = .ok (.iload_n 1, 1) := by decide +kernel
theorem dX12_line_72 : decode cX12_line 72 = .ok (.iaload, 1) := by decide +kernel
theorem dX12_line_73 : decode cX12_line 73 = .ok (.ireturn, 1) := by decide +kernel
theorem dX12_line_74 : decode cX12_line 74 = .ok (.aload_n 0, 1) := by decide +kernel
theorem dX12_line_75 : decode cX12_line 75 = .ok (.getfield 57, 3) := by decide +kernel
theorem dX12_line_78 : decode cX12_line 78 = .ok (.iload_n 1, 1) := by decide +kernel
theorem dX12_line_79 : decode cX12_line 79 = .ok (.iaload, 1) := by decide +kernel
theorem dX12_line_80 : decode cX12_line 80 = .ok (.ireturn, 1) := by decide +kernel
theorem dX12_line_81 : decode cX12_line 81 = .ok (.aload_n 0, 1) := by decide +kernel
theorem dX12_line_82 : decode cX12_line 82 = .ok (.getfield 60, 3) := by decide +kernel
theorem dX12_line_85 : decode cX12_line 85 = .ok (.iload_n 1, 1) := by decide +kernel
theorem dX12_line_86 : decode cX12_line 86 = .ok (.iaload, 1) := by decide +kernel
theorem dX12_line_87 : decode cX12_line 87 = .ok (.ireturn, 1) := by decide +kernel
theorem dX12_line_88 : decode cX12_line 88 = .ok (.aload_n 0, 1) := by decide +kernel
theorem dX12_line_89 : decode cX12_line 89 = .ok (.getfield 63, 3) := by decide +kernel
theorem dX12_line_92 : decode cX12_line 92 = .ok (.iload_n 1, 1) := by decide +kernel
theorem dX12_line_93 : decode cX12_line 93 = .ok (.iaload, 1) := by decide +kernel
theorem dX12_line_94 : decode cX12_line 94 = .ok (.ireturn, 1) := by decide +kernel
theorem dX12_line_95 : decode cX12_line 95 = .ok (.bipush (-2), 2) := by decide +kernel
theorem dX12_line_97 : decode cX12_line 97 = .ok (.ireturn, 1) := by decide +kernel
theorem dX12_say_0 : decode cX12_say 0 = .ok (.aload_n 0, 1) := by decide +kernel
theorem dX12_say_1 : decode cX12_say 1 = .ok (.iconst 0, 1) := by decide +kernel
theorem dX12_say_2 : decode cX12_say 2 = .ok (.putfield 124, 3) := by decide +kernel
theorem dX12_say_5 : decode cX12_say 5 = .ok (.aload_n 0, 1) := by decide +kernel
theorem dX12_say_6 : decode cX12_say 6 = .ok (.getfield 198, 3) := by decide +kernel
theorem dX12_say_9 : decode cX12_say 9 = .ok (.bipush 60, 2) := by decide +kernel
theorem dX12_say_11 : decode cX12_say 11 = .ok (.if_icmp .eq 54, 3) := by decide +kernel
theorem dX12_say_14 : decode cX12_say 14 = .ok (.aload_n 0, 1) := by decide +kernel
theorem dX12_say_15 : decode cX12_say 15 = .ok (.iload_n 2, 1) := by decide +kernel
theorem dX12_say_16 : decode cX12_say 16 = .ok (.invokevirtual 315, 3) := by decide +kernel
theorem dX12_say_19 : decode cX12_say 19 = .ok (.ifCond .eq 46, 3) := by decide +kernel
theorem dX12_say_22 : decode cX12_say 22 = .ok (.aload_n 0, 1) := by decide +kernel
theorem dX12_say_23 : decode cX12_say 23 = .ok (.iload 4, 2) := by decide +kernel
theorem dX12_say_25 : decode cX12_say 25 = .ok (.invokevirtual 309, 3) := by decide +kernel
theorem dX12_say_28 : decode cX12_say 28 = .ok (.ifCond .eq 37, 3) := by decide +kernel
theorem dX12_say_31 : decode cX12_say 31 = .ok (.iload_n 3, 1) := by decide +kernel
theorem dX12_say_32 : decode cX12_say 32 = .ok (.aload_n 0, 1) := by decide +kernel
theorem dX12_say_33 : decode cX12_say 33 = .ok (.getfield 41, 3) := by decide +kernel
theorem dX12_say_36 : decode cX12_say 36 = .ok (.iload_n 2, 1) := by decide +kernel
theorem dX12_say_37 : decode cX12_say 37 = .ok (.iaload, 1) := by decide +kernel
theorem dX12_say_38 : decode cX12_say 38 = .ok (.if_icmp .lt 27, 3) := by decide +kernel
theorem dX12_say_41 : decode cX12_say 41 = .ok (.iload_n 3, 1) := by decide +kernel
theorem dX12_say_42 : decode cX12_say 42 = .ok (.aload_n 0, 1) := by decide +kernel
theorem dX12_say_43 : decode cX12_say 43 = .ok (.getfield 44, 3) := by decide +kernel
theorem dX12_say_46 : decode cX12_say 46 = .ok (.iload_n 2, 1) := by decide +kernel
theorem dX12_say_47 : decode cX12_say 47 = .ok (.iaload, 1) := by decide +kernel
theorem dX12_say_48 : decode cX12_say 48 = .ok (.if_icmp .gt 17, 3) := by decide +kernel
theorem dX12_say_51 : decode cX12_say 51 = .ok (.iload_n 3, 1) := by decide +kernel
theorem dX12_say_52 : decode cX12_say 52 = .ok (.aload_n 0, 1) := by decide +kernel
theorem dX12_say_53 : decode cX12_say 53 = .ok (.iconst 0, 1) := by decide +kernel
theorem dX12_say_54 : decode cX12_say 54 = .ok (.aload_n 0, 1) := by decide +kernel
theorem dX12_say_55 : decode cX12_say 55 = .ok (.getfield 198, 3) := by decide +kernel
theorem dX12_say_58 : decode cX12_say 58 = .ok (.iload_n 2, 1) := by decide +kernel
theorem dX12_say_59 : decode cX12_say 59 = .ok (.invokevirtual 238, 3) := by decide +kernel
theorem dX12_say_62 : decode cX12_say 62 = .ok (.if_icmp .ge 5, 3) := by decide +kernel
theorem dX12_say_65 : decode cX12_say 65 = .ok (.iconst (-1), 1) := by decide +kernel
theorem dX12_say_66 : decode cX12_say 66 = .ok (.ireturn, 1) := by decide +kernel
theorem dX12_say_67 : decode cX12_say 67 = .ok (.iload 5, 2) := by decide +kernel
theorem dX12_say_69 : decode cX12_say 69 = .ok (.aload_n 0, 1) := by decide +kernel
theorem dX12_say_70 : decode cX12_say 70 = .ok (.getfield 23, 3) := by decide +kernel
theorem dX12_say_73 : decode cX12_say 73 = .ok (.iload 4, 2) := by decide +kernel
theorem dX12_say_75 : decode cX12_say 75 = .ok (.iaload, 1) := by decide +kernel
theorem dX12_say_76 : decode cX12_say 76 = .ok (.if_icmp .ge 17, 3) := by decide +kernel
theorem dX12_say_79 : decode cX12_say 79 = .ok (.iload 5, 2) := by decide +kernel
theorem dX12_say_81 : decode cX12_say 81 = .ok (.iload_n 1, 1) := by decide +kernel
theorem dX12_say_82 : decode cX12_say 82 = .ok (.ifCond .eq 7, 3) := by decide +kernel
theorem dX12_say_85 : decode cX12_say 85 = .ok (.iconst 0, 1) := by decide +kernel
theorem dX12_say_86 : decode cX12_say 86 = .ok (.goto 4, 3) := by decide +kernel
theorem dX12_say_89 : decode cX12_say 89 = .ok (.iconst (-1), 1) := by decide +kernel
theorem dX12_say_90 : decode cX12_say 90 = .ok (.if_icmp .ge 5, 3) := by decide +kernel
theorem dX12_say_93 : decode cX12_say 93 = .ok (.iconst (-1), 1) := by decide +kernel
theorem dX12_say_94 : decode cX12_say 94 = .ok (.ireturn, 1) := by decide +kernel
theorem dX12_say_95 : decode cX12_say 95 = .ok (.aload_n 0, 1) := by decide +kernel
theorem dX12_say_96 : decode cX12_say 96 = .ok (.getfield 50, 3) := by decide +kernel
theorem dX12_say_99 : decode cX12_say 99 = .ok (.aload_n 0, 1) := by decide +kernel
theorem dX12_say_100 : decode cX12_say 100 = .ok (.getfield 198, 3) := by decide +kernel
theorem dX12_say_103 : decode cX12_say 103 = .ok (.iload_n 1, 1) := by decide +kernel
theorem dX12_say_104 : decode cX12_say 104 = .ok (.bastore, 1) := by decide +kernel
theorem dX12_say_105 : decode cX12_say 105 = .ok (.aload_n 0, 1) := by decide +kernel
theorem dX12_say_106 : decode cX12_say 106 = .ok (.getfield 54, 3) := by decide +kernel
theorem dX12_say_109 : decode cX12_say 109 = .ok (.aload_n 0, 1) := by decide +kernel
theorem dX12_say_110 : decode cX12_say 110 = .ok (.getfield 198, 3) := by decide +kernel
theorem dX12_say_113 : decode cX12_say 113 = .ok (.iload_n 2, 1) := by decide +kernel
theorem dX12_say_114 : decode cX12_say 114 = .ok (.iastore, 1) := by decide +kernel
theorem dX12_say_115 : decode cX12_say 115 = .ok (.aload_n 0, 1) := by decide +kernel
theorem dX12_say_116 : decode cX12_say 116 = .ok (.getfield 57, 3) := by decide +kernel
theorem dX12_say_119 : decode cX12_say 119 = .ok (.aload_n 0, 1) := by decide +kernel
theorem dX12_say_120 : decode cX12_say 120 = .ok (.getfield 198, 3) := by decide +kernel
theorem dX12_say_123 : decode cX12_say 123 = .ok (.iload_n 3, 1) := by decide +kernel
theorem dX12_say_124 : decode cX12_say 124 = .ok (.iastore, 1) := by decide +kernel
theorem dX12_say_125 : decode cX12_say 125 = .ok (.aload_n 0, 1) := by decide +kernel
theorem dX12_say_126 : decode cX12_say 126 = .ok (.getfield 60, 3) := by decide +kernel
theorem dX12_say_129 : decode cX12_say 129 = .ok (.aload_n 0, 1) := by decide +kernel
theorem dX12_say_130 : decode cX12_say 130 = .ok (.getfield 198, 3) := by decide +kernel
theorem dX12_say_133 : decode cX12_say 133 = .ok (.iload 4, 2) := by decide +kernel
theorem dX12_say_135 : decode cX12_say 135 = .ok (.iastore, 1) := by decide +kernel
theorem dX12_say_136 : decode cX12_say 136 = .ok (.aload_n 0, 1) := by decide +kernel
theorem dX12_say_137 : decode cX12_say 137 = .ok (.getfield 63, 3) := by decide +kernel
theorem dX12_say_140 : decode cX12_say 140 = .ok (.aload_n 0, 1) := by decide +kernel
theorem dX12_say_141 : decode cX12_say 141 = .ok (.getfield 198, 3) := by decide +kernel
theorem dX12_say_144 : decode cX12_say 144 = .ok (.iload 5, 2) := by decide +kernel
theorem dX12_say_146 : decode cX12_say 146 = .ok (.iastore, 1) := by decide +kernel
theorem dX12_say_147 : decode cX12_say 147 = .ok (.aload_n 0, 1) := by decide +kernel
theorem dX12_say_148 : decode cX12_say 148 = .ok (.dup, 1) := by decide +kernel
theorem dX12_say_149 : decode cX12_say 149 = .ok (.getfield 198, 3) := by decide +kernel
theorem dX12_say_152 : decode cX12_say 152 = .ok (.iconst 1, 1) := by decide +kernel
theorem dX12_say_153 : decode cX12_say 153 = .ok (.iadd, 1) := by decide +kernel
theorem dX12_say_154 : decode cX12_say 154 = .ok (.putfield 198, 3) := by decide +kernel
theorem dX12_say_157 : decode cX12_say 157 = .ok (.aload_n 0, 1) := by decide +kernel
theorem dX12_say_158 : decode cX12_say 158 = .ok (.dup, 1) := by decide +kernel
theorem dX12_say_159 : decode cX12_say 159 = .ok (.getfield 211, 3) := by decide +kernel
theorem dX12_say_162 : decode cX12_say 162 = .ok (.iconst 1, 1) := by decide +kernel
theorem dX12_say_163 : decode cX12_say 163 = .ok (.iadd, 1) := by decide +kernel
theorem dX12_say_164 : decode cX12_say 164 = .ok (.putfield 211, 3) := by decide +kernel
theorem dX12_say_167 : decode cX12_say 167 = .ok (.aload_n 0, 1) := by decide +kernel
theorem dX12_say_168 : decode cX12_say 168 = .ok (.getfield 198, 3) := by decide +kernel
theorem dX12_say_171 : decode cX12_say 171 = .ok (.iconst 1, 1) := by decide +kernel
theorem dX12_say_172 : decode cX12_say 172 = .ok (.isub, 1) := by decide +kernel
theorem dX12_say_173 : decode cX12_say 173 = .ok (.ireturn, 1) := by decide +kernel
theorem dX12_undo_0 : decode cX12_undo 0 = .ok (.aload_n 0, 1) := by decide +kernel
theorem dX12_undo_1 : decode cX12_undo 1 = .ok (.iconst 0, 1) := by decide +kernel
theorem dX12_undo_2 : decode cX12_undo 2 = .ok (.putfield 124, 3) := by decide +kernel
theorem dX12_undo_5 : decode cX12_undo 5 = .ok (.aload_n 0, 1) := by decide +kernel
theorem dX12_undo_6 : decode cX12_undo 6 = .ok (.getfield 211, 3) := by decide +kernel
theorem dX12_undo_9 : decode cX12_undo 9 = .ok (.ifCond .ne 5, 3) := by decide +kernel
theorem dX12_undo_12 : decode cX12_undo 12 = .ok (.iconst (-1), 1) := by decide +kernel
theorem dX12_undo_13 : decode cX12_undo 13 = .ok (.ireturn, 1) := by decide +kernel
theorem dX12_undo_14 : decode cX12_undo 14 = .ok (.aload_n 0, 1) := by decide +kernel
theorem dX12_undo_15 : decode cX12_undo 15 = .ok (.dup, 1) := by decide +kernel
theorem dX12_undo_16 : decode cX12_undo 16 = .ok (.getfield 211, 3) := by decide +kernel
theorem dX12_undo_19 : decode cX12_undo 19 = .ok (.iconst 1, 1) := by decide +kernel
theorem dX12_undo_20 : decode cX12_undo 20 = .ok (.isub, 1) := by decide +kernel
theorem dX12_undo_21 : decode cX12_undo 21 = .ok (.putfield 211, 3) := by decide +kernel
theorem dX12_undo_24 : decode cX12_undo 24 = .ok (.aload_n 0, 1) := by decide +kernel
theorem dX12_undo_25 : decode cX12_undo 25 = .ok (.dup, 1) := by decide +kernel
theorem dX12_undo_26 : decode cX12_undo 26 = .ok (.getfield 198, 3) := by decide +kernel
theorem dX12_undo_29 : decode cX12_undo 29 = .ok (.iconst 1, 1) := by decide +kernel
theorem dX12_undo_30 : decode cX12_undo 30 = .ok (.isub, 1) := by decide +kernel
theorem dX12_undo_31 : decode cX12_undo 31 = .ok (.putfield 198, 3) := by decide +kernel
theorem dX12_undo_34 : decode cX12_undo 34 = .ok (.aload_n 0, 1) := by decide +kernel
theorem dX12_undo_35 : decode cX12_undo 35 = .ok (.getfield 211, 3) := by decide +kernel
theorem dX12_undo_38 : decode cX12_undo 38 = .ok (.ireturn, 1) := by decide +kernel
theorem dX12_heardMany_0 : decode cX12_heardMany 0 = .ok (.iconst 0, 1) := by decide +kernel
theorem dX12_heardMany_1 : decode cX12_heardMany 1 = .ok (.istore_n 1, 1) := by decide +kernel
theorem dX12_heardMany_2 : decode cX12_heardMany 2 = .ok (.iconst 0, 1) := by decide +kernel
theorem dX12_heardMany_3 : decode cX12_heardMany 3 = .ok (.istore_n 2, 1) := by decide +kernel
theorem dX12_heardMany_4 : decode cX12_heardMany 4 = .ok (.iload_n 2, 1) := by decide +kernel
theorem dX12_heardMany_5 : decode cX12_heardMany 5 = .ok (.aload_n 0, 1) := by decide +kernel
theorem dX12_heardMany_6 : decode cX12_heardMany 6 = .ok (.getfield 198, 3) := by decide +kernel
theorem dX12_heardMany_9 : decode cX12_heardMany 9 = .ok (.if_icmp .ge 25, 3) := by decide +kernel
theorem dX12_heardMany_12 : decode cX12_heardMany 12 = .ok (.iload_n 1, 1) := by decide +kernel
theorem dX12_heardMany_13 : decode cX12_heardMany 13 = .ok (.aload_n 0, 1) := by decide +kernel
theorem dX12_heardMany_14 : decode cX12_heardMany 14 = .ok (.iload_n 2, 1) := by decide +kernel
theorem dX12_heardMany_15 : decode cX12_heardMany 15 = .ok (.invokevirtual 318, 3) := by decide +kernel
theorem dX12_heardMany_18 : decode cX12_heardMany 18 = .ok (.ifCond .eq 7, 3) := by decide +kernel
theorem dX12_heardMany_21 : decode cX12_heardMany 21 = .ok (.iconst 1, 1) := by decide +kernel
theorem dX12_heardMany_22 : decode cX12_heardMany 22 = .ok (.goto 4, 3) := by decide +kernel
theorem dX12_heardMany_25 : decode cX12_heardMany 25 = .ok (.iconst 0, 1) := by decide +kernel
theorem dX12_heardMany_26 : decode cX12_heardMany 26 = .ok (.iadd, 1) := by decide +kernel
theorem dX12_heardMany_27 : decode cX12_heardMany 27 = .ok (.istore_n 1, 1) := by decide +kernel
theorem dX12_heardMany_28 : decode cX12_heardMany 28 = .ok (.iinc 2 1, 3) := by decide +kernel
theorem dX12_heardMany_31 : decode cX12_heardMany 31 = .ok (.goto (-27), 3) := by decide +kernel
theorem dX12_heardMany_34 : decode cX12_heardMany 34 = .ok (.iload_n 1, 1) := by decide +kernel
theorem dX12_heardMany_35 : decode cX12_heardMany 35 = .ok (.ireturn, 1) := by decide +kernel
theorem dX12_hear_0 : decode cX12_hear 0 = .ok (.aload_n 0, 1) := by decide +kernel
theorem dX12_hear_1 : decode cX12_hear 1 = .ok (.iconst 0, 1) := by decide +kernel
theorem dX12_hear_2 : decode cX12_hear 2 = .ok (.putfield 124, 3) := by decide +kernel
theorem dX12_hear_5 : decode cX12_hear 5 = .ok (.iload_n 1, 1) := by decide +kernel
theorem dX12_hear_6 : decode cX12_hear 6 = .ok (.iconst 0, 1) := by decide +kernel
theorem dX12_hear_7 : decode cX12_hear 7 = .ok (.sipush 199, 3) := by decide +kernel
theorem dX12_hear_10 : decode cX12_hear 10 = .ok (.invokestatic 324, 3) := by decide +kernel
theorem dX12_hear_13 : decode cX12_hear 13 = .ok (.ifCond .ne 5, 3) := by decide +kernel
theorem dX12_hear_16 : decode cX12_hear 16 = .ok (.iconst (-1), 1) := by decide +kernel
theorem dX12_hear_17 : decode cX12_hear 17 = .ok (.ireturn, 1) := by decide +kernel
theorem dX12_hear_18 : decode cX12_hear 18 = .ok (.aload_n 0, 1) := by decide +kernel
theorem dX12_hear_19 : decode cX12_hear 19 = .ok (.iload_n 1, 1) := by decide +kernel
theorem dX12_hear_20 : decode cX12_hear 20 = .ok (.putfield 214, 3) := by decide +kernel
theorem dX12_hear_23 : decode cX12_hear 23 = .ok (.aload_n 0, 1) := by decide +kernel
theorem dX12_hear_24 : decode cX12_hear 24 = .ok (.invokevirtual 328, 3) := by decide +kernel
theorem dX12_hear_27 : decode cX12_hear 27 = .ok (.ireturn, 1) := by decide +kernel
theorem dX12_isRight_0 : decode cX12_isRight 0 = .ok (.aload_n 0, 1) := by decide +kernel
theorem dX12_isRight_1 : decode cX12_isRight 1 = .ok (.getfield 63, 3) := by decide +kernel
theorem dX12_isRight_4 : decode cX12_isRight 4 = .ok (.iload_n 1, 1) := by decide +kernel
theorem dX12_isRight_5 : decode cX12_isRight 5 = .ok (.iaload, 1) := by decide +kernel
theorem dX12_isRight_6 : decode cX12_isRight 6 = .ok (.aload_n 0, 1) := by decide +kernel
theorem dX12_isRight_7 : decode cX12_isRight 7 = .ok (.getfield 26, 3) := by decide +kernel
theorem dX12_isRight_10 : decode cX12_isRight 10 = .ok (.aload_n 0, 1) := by decide +kernel
theorem dX12_isRight_11 : decode cX12_isRight 11 = .ok (.getfield 60, 3) := by decide +kernel
theorem dX12_isRight_14 : decode cX12_isRight 14 = .ok (.iload_n 1, 1) := by decide +kernel
theorem dX12_isRight_15 : decode cX12_isRight 15 = .ok (.iaload, 1) := by decide +kernel
theorem dX12_isRight_16 : decode cX12_isRight 16 = .ok (.iaload, 1) := by decide +kernel
theorem dX12_isRight_17 : decode cX12_isRight 17 = .ok (.if_icmp .ne 7, 3) := by decide +kernel
theorem dX12_isRight_20 : decode cX12_isRight 20 = .ok (.iconst 1, 1) := by decide +kernel
theorem dX12_isRight_21 : decode cX12_isRight 21 = .ok (.goto 4, 3) := by decide +kernel
theorem dX12_isRight_24 : decode cX12_isRight 24 = .ok (.iconst 0, 1) := by decide +kernel
theorem dX12_isRight_25 : decode cX12_isRight 25 = .ok (.ireturn, 1) := by decide +kernel
theorem dX12_latestOff_0 : decode cX12_latestOff 0 = .ok (.aload_n 0, 1) := by decide +kernel
theorem dX12_latestOff_1 : decode cX12_latestOff 1 = .ok (.getfield 47, 3) := by decide +kernel
theorem dX12_latestOff_4 : decode cX12_latestOff 4 = .ok (.iload_n 1, 1) := by decide +kernel
theorem dX12_latestOff_5 : decode cX12_latestOff 5 = .ok (.iaload, 1) := by decide +kernel
theorem dX12_latestOff_6 : decode cX12_latestOff 6 = .ok (.ifCond .lt 26, 3) := by decide +kernel
theorem dX12_latestOff_9 : decode cX12_latestOff 9 = .ok (.aload_n 0, 1) := by decide +kernel
theorem dX12_latestOff_10 : decode cX12_latestOff 10 = .ok (.getfield 47, 3) := by decide +kernel
theorem dX12_latestOff_13 : decode cX12_latestOff 13 = .ok (.iload_n 1, 1) := by decide +kernel
theorem dX12_latestOff_14 : decode cX12_latestOff 14 = .ok (.iaload, 1) := by decide +kernel
theorem dX12_latestOff_15 : decode cX12_latestOff 15 = .ok (.iconst 1, 1) := by decide +kernel
theorem dX12_latestOff_16 : decode cX12_latestOff 16 = .ok (.isub, 1) := by decide +kernel
theorem dX12_latestOff_17 : decode cX12_latestOff 17 = .ok (.iload_n 2, 1) := by decide +kernel
theorem dX12_latestOff_18 : decode cX12_latestOff 18 = .ok (.if_icmp .ge 14, 3) := by decide +kernel
theorem dX12_latestOff_21 : decode cX12_latestOff 21 = .ok (.aload_n 0, 1) := by decide +kernel
theorem dX12_latestOff_22 : decode cX12_latestOff 22 = .ok (.getfield 47, 3) := by decide +kernel
theorem dX12_latestOff_25 : decode cX12_latestOff 25 = .ok (.iload_n 1, 1) := by decide +kernel
theorem dX12_latestOff_26 : decode cX12_latestOff 26 = .ok (.iaload, 1) := by decide +kernel
theorem dX12_latestOff_27 : decode cX12_latestOff 27 = .ok (.iconst 1, 1) := by decide +kernel
theorem dX12_latestOff_28 : decode cX12_latestOff 28 = .ok (.isub, 1) := by decide +kernel
theorem dX12_latestOff_29 : decode cX12_latestOff 29 = .ok (.goto 4, 3) := by decide +kernel
theorem dX12_latestOff_32 : decode cX12_latestOff 32 = .ok (.iload_n 2, 1) := by decide +kernel
theorem dX12_latestOff_33 : decode cX12_latestOff 33 = .ok (.ireturn, 1) := by decide +kernel
theorem dX12_isFirst_0 : decode cX12_isFirst 0 = .ok (.iconst 0, 1) := by decide +kernel
theorem dX12_isFirst_1 : decode cX12_isFirst 1 = .ok (.istore_n 2, 1) := by decide +kernel
theorem dX12_isFirst_2 : decode cX12_isFirst 2 = .ok (.iload_n 2, 1) := by decide +kernel
theorem dX12_isFirst_3 : decode cX12_isFirst 3 = .ok (.iload_n 1, 1) := by decide +kernel
theorem dX12_isFirst_4 : decode cX12_isFirst 4 = .ok (.if_icmp .ge 31, 3) := by decide +kernel
theorem dX12_isFirst_7 : decode cX12_isFirst 7 = .ok (.aload_n 0, 1) := by decide +kernel
theorem dX12_isFirst_8 : decode cX12_isFirst 8 = .ok (.iload_n 2, 1) := by decide +kernel
theorem dX12_isFirst_9 : decode cX12_isFirst 9 = .ok (.aload_n 0, 1) := by decide +kernel
theorem dX12_isFirst_10 : decode cX12_isFirst 10 = .ok (.getfield 54, 3) := by decide +kernel
theorem dX12_isFirst_13 : decode cX12_isFirst 13 = .ok (.iload_n 1, 1) := by decide +kernel
theorem dX12_isFirst_14 : decode cX12_isFirst 14 = .ok (.iaload, 1) := by decide +kernel
theorem dX12_isFirst_15 : decode cX12_isFirst 15 = .ok (.aload_n 0, 1) := by decide +kernel
theorem dX12_isFirst_16 : decode cX12_isFirst 16 = .ok (.getfield 60, 3) := by decide +kernel
theorem dX12_isFirst_19 : decode cX12_isFirst 19 = .ok (.iload_n 1, 1) := by decide +kernel
theorem dX12_isFirst_20 : decode cX12_isFirst 20 = .ok (.iaload, 1) := by decide +kernel
theorem dX12_isFirst_21 : decode cX12_isFirst 21 = .ok (.invokevirtual 331, 3) := by decide +kernel
theorem dX12_isFirst_24 : decode cX12_isFirst 24 = .ok (.ifCond .eq 5, 3) := by decide +kernel
theorem dX12_isFirst_27 : decode cX12_isFirst 27 = .ok (.iconst 0, 1) := by decide +kernel
theorem dX12_isFirst_28 : decode cX12_isFirst 28 = .ok (.ireturn, 1) := by decide +kernel
theorem dX12_isFirst_29 : decode cX12_isFirst 29 = .ok (.iinc 2 1, 3) := by decide +kernel
theorem dX12_isFirst_32 : decode cX12_isFirst 32 = .ok (.goto (-30), 3) := by decide +kernel
theorem dX12_isFirst_35 : decode cX12_isFirst 35 = .ok (.iconst 1, 1) := by decide +kernel
theorem dX12_isFirst_36 : decode cX12_isFirst 36 = .ok (.ireturn, 1) := by decide +kernel
theorem dX12_ledBy_0 : decode cX12_ledBy 0 = .ok (.iconst (-1), 1) := by decide +kernel
theorem dX12_ledBy_1 : decode cX12_ledBy 1 = .ok (.istore_n 2, 1) := by decide +kernel
theorem dX12_ledBy_2 : decode cX12_ledBy 2 = .ok (.iconst 0, 1) := by decide +kernel
theorem dX12_ledBy_3 : decode cX12_ledBy 3 = .ok (.istore_n 3, 1) := by decide +kernel
theorem dX12_ledBy_4 : decode cX12_ledBy 4 = .ok (.iload_n 3, 1) := by decide +kernel
theorem dX12_ledBy_5 : decode cX12_ledBy 5 = .ok (.iload_n 1, 1) := by decide +kernel
theorem dX12_ledBy_6 : decode cX12_ledBy 6 = .ok (.if_icmp .ge 59, 3) := by decide +kernel
theorem dX12_ledBy_9 : decode cX12_ledBy 9 = .ok (.aload_n 0, 1) := by decide +kernel
theorem dX12_ledBy_10 : decode cX12_ledBy 10 = .ok (.iload_n 3, 1) := by decide +kernel
theorem dX12_ledBy_11 : decode cX12_ledBy 11 = .ok (.aload_n 0, 1) := by decide +kernel
theorem dX12_ledBy_12 : decode cX12_ledBy 12 = .ok (.getfield 54, 3) := by decide +kernel
theorem dX12_ledBy_15 : decode cX12_ledBy 15 = .ok (.iload_n 1, 1) := by decide +kernel
theorem dX12_ledBy_16 : decode cX12_ledBy 16 = .ok (.iaload, 1) := by decide +kernel
theorem dX12_ledBy_17 : decode cX12_ledBy 17 = .ok (.invokevirtual 334, 3) := by decide +kernel
theorem dX12_ledBy_20 : decode cX12_ledBy 20 = .ok (.ifCond .eq 37, 3) := by decide +kernel
theorem dX12_ledBy_23 : decode cX12_ledBy 23 = .ok (.aload_n 0, 1) := by decide +kernel
theorem dX12_ledBy_24 : decode cX12_ledBy 24 = .ok (.getfield 60, 3) := by decide +kernel
theorem dX12_ledBy_27 : decode cX12_ledBy 27 = .ok (.iload_n 3, 1) := by decide +kernel
theorem dX12_ledBy_28 : decode cX12_ledBy 28 = .ok (.iaload, 1) := by decide +kernel
theorem dX12_ledBy_29 : decode cX12_ledBy 29 = .ok (.aload_n 0, 1) := by decide +kernel
theorem dX12_ledBy_30 : decode cX12_ledBy 30 = .ok (.getfield 60, 3) := by decide +kernel
theorem dX12_ledBy_33 : decode cX12_ledBy 33 = .ok (.iload_n 1, 1) := by decide +kernel
theorem dX12_ledBy_34 : decode cX12_ledBy 34 = .ok (.iaload, 1) := by decide +kernel
theorem dX12_ledBy_35 : decode cX12_ledBy 35 = .ok (.if_icmp .ne 22, 3) := by decide +kernel
theorem dX12_ledBy_38 : decode cX12_ledBy 38 = .ok (.aload_n 0, 1) := by decide +kernel
theorem dX12_ledBy_39 : decode cX12_ledBy 39 = .ok (.getfield 63, 3) := by decide +kernel
theorem dX12_ledBy_42 : decode cX12_ledBy 42 = .ok (.iload_n 3, 1) := by decide +kernel
theorem dX12_ledBy_43 : decode cX12_ledBy 43 = .ok (.iaload, 1) := by decide +kernel
theorem dX12_ledBy_44 : decode cX12_ledBy 44 = .ok (.aload_n 0, 1) := by decide +kernel
theorem dX12_ledBy_45 : decode cX12_ledBy 45 = .ok (.getfield 63, 3) := by decide +kernel
theorem dX12_ledBy_48 : decode cX12_ledBy 48 = .ok (.iload_n 1, 1) := by decide +kernel
theorem dX12_ledBy_49 : decode cX12_ledBy 49 = .ok (.iaload, 1) := by decide +kernel
theorem dX12_ledBy_50 : decode cX12_ledBy 50 = .ok (.if_icmp .ne 7, 3) := by decide +kernel
theorem dX12_ledBy_53 : decode cX12_ledBy 53 = .ok (.iload_n 3, 1) := by decide +kernel
theorem dX12_ledBy_54 : decode cX12_ledBy 54 = .ok (.goto 4, 3) := by decide +kernel
theorem dX12_ledBy_57 : decode cX12_ledBy 57 = .ok (.iload_n 2, 1) := by decide +kernel
theorem dX12_ledBy_58 : decode cX12_ledBy 58 = .ok (.istore_n 2, 1) := by decide +kernel
theorem dX12_ledBy_59 : decode cX12_ledBy 59 = .ok (.iinc 3 1, 3) := by decide +kernel
theorem dX12_ledBy_62 : decode cX12_ledBy 62 = .ok (.goto (-58), 3) := by decide +kernel
theorem dX12_ledBy_65 : decode cX12_ledBy 65 = .ok (.iload_n 2, 1) := by decide +kernel
theorem dX12_ledBy_66 : decode cX12_ledBy 66 = .ok (.ireturn, 1) := by decide +kernel
theorem dX12_had_0 : decode cX12_had 0 = .ok (.iload_n 0, 1) := by decide +kernel
theorem dX12_had_1 : decode cX12_had 1 = .ok (.ifCond .lt 12, 3) := by decide +kernel
theorem dX12_had_4 : decode cX12_had 4 = .ok (.iload_n 0, 1) := by decide +kernel
theorem dX12_had_5 : decode cX12_had 5 = .ok (.iload_n 1, 1) := by decide +kernel
theorem dX12_had_6 : decode cX12_had 6 = .ok (.if_icmp .gt 7, 3) := by decide +kernel
theorem dX12_had_9 : decode cX12_had 9 = .ok (.iconst 1, 1) := by decide +kernel
theorem dX12_had_10 : decode cX12_had 10 = .ok (.goto 4, 3) := by decide +kernel
theorem dX12_had_13 : decode cX12_had 13 = .ok (.iconst 0, 1) := by decide +kernel
theorem dX12_had_14 : decode cX12_had 14 = .ok (.ireturn, 1) := by decide +kernel
theorem dX12_isOff_0 : decode cX12_isOff 0 = .ok (.aload_n 0, 1) := by decide +kernel
theorem dX12_isOff_1 : decode cX12_isOff 1 = .ok (.aload_n 0, 1) := by decide +kernel
theorem dX12_isOff_2 : decode cX12_isOff 2 = .ok (.getfield 54, 3) := by decide +kernel
theorem dX12_isOff_5 : decode cX12_isOff 5 = .ok (.iload_n 1, 1) := by decide +kernel
theorem dX12_isOff_6 : decode cX12_isOff 6 = .ok (.iaload, 1) := by decide +kernel
theorem dX12_isOff_7 : decode cX12_isOff 7 = .ok (.aload_n 0, 1) := by decide +kernel
theorem dX12_isOff_8 : decode cX12_isOff 8 = .ok (.getfield 57, 3) := by decide +kernel
theorem dX12_isOff_11 : decode cX12_isOff 11 = .ok (.iload_n 1, 1) := by decide +kernel
theorem dX12_isOff_12 : decode cX12_isOff 12 = .ok (.iaload, 1) := by decide +kernel
theorem dX12_isOff_13 : decode cX12_isOff 13 = .ok (.invokevirtual 337, 3) := by decide +kernel
theorem dX12_isOff_16 : decode cX12_isOff 16 = .ok (.istore_n 2, 1) := by decide +kernel
theorem dX12_isOff_17 : decode cX12_isOff 17 = .ok (.iload_n 2, 1) := by decide +kernel
theorem dX12_isOff_18 : decode cX12_isOff 18 = .ok (.aload_n 0, 1) := by decide +kernel
theorem dX12_isOff_19 : decode cX12_isOff 19 = .ok (.getfield 41, 3) := by decide +kernel
theorem dX12_isOff_22 : decode cX12_isOff 22 = .ok (.aload_n 0, 1) := by decide +kernel
theorem dX12_isOff_23 : decode cX12_isOff 23 = .ok (.getfield 54, 3) := by decide +kernel
theorem dX12_isOff_26 : decode cX12_isOff 26 = .ok (.iload_n 1, 1) := by decide +kernel
theorem dX12_isOff_27 : decode cX12_isOff 27 = .ok (.iaload, 1) := by decide +kernel
theorem dX12_isOff_28 : decode cX12_isOff 28 = .ok (.iaload, 1) := by decide +kernel
theorem dX12_isOff_29 : decode cX12_isOff 29 = .ok (.if_icmp .lt 25, 3) := by decide +kernel
theorem dX12_isOff_32 : decode cX12_isOff 32 = .ok (.aload_n 0, 1) := by decide +kernel
theorem dX12_isOff_33 : decode cX12_isOff 33 = .ok (.getfield 32, 3) := by decide +kernel
theorem dX12_isOff_36 : decode cX12_isOff 36 = .ok (.aload_n 0, 1) := by decide +kernel
theorem dX12_isOff_37 : decode cX12_isOff 37 = .ok (.getfield 60, 3) := by decide +kernel
theorem dX12_isOff_40 : decode cX12_isOff 40 = .ok (.iload_n 1, 1) := by decide +kernel
theorem dX12_isOff_41 : decode cX12_isOff 41 = .ok (.iaload, 1) := by decide +kernel
theorem dX12_isOff_42 : decode cX12_isOff 42 = .ok (.iaload, 1) := by decide +kernel
theorem dX12_isOff_43 : decode cX12_isOff 43 = .ok (.iload_n 2, 1) := by decide +kernel
theorem dX12_isOff_44 : decode cX12_isOff 44 = .ok (.invokestatic 340, 3) := by decide +kernel
theorem dX12_isOff_47 : decode cX12_isOff 47 = .ok (.ifCond .eq 7, 3) := by decide +kernel
theorem dX12_isOff_50 : decode cX12_isOff 50 = .ok (.iconst 1, 1) := by decide +kernel
theorem dX12_isOff_51 : decode cX12_isOff 51 = .ok (.goto 4, 3) := by decide +kernel
theorem dX12_isOff_54 : decode cX12_isOff 54 = .ok (.iconst 0, 1) := by decide +kernel
theorem dX12_isOff_55 : decode cX12_isOff 55 = .ok (.ireturn, 1) := by decide +kernel
theorem dX12_whatIs_0 : decode cX12_whatIs 0 = .ok (.aload_n 0, 1) := by decide +kernel
theorem dX12_whatIs_1 : decode cX12_whatIs 1 = .ok (.getfield 60, 3) := by decide +kernel
theorem dX12_whatIs_4 : decode cX12_whatIs 4 = .ok (.iload_n 1, 1) := by decide +kernel
theorem dX12_whatIs_5 : decode cX12_whatIs 5 = .ok (.iaload, 1) := by decide +kernel
theorem dX12_whatIs_6 : decode cX12_whatIs 6 = .ok (.istore_n 2, 1) := by decide +kernel
theorem dX12_whatIs_7 : decode cX12_whatIs 7 = .ok (.aload_n 0, 1) := by decide +kernel
theorem dX12_whatIs_8 : decode cX12_whatIs 8 = .ok (.iload_n 1, 1) := by decide +kernel
theorem dX12_whatIs_9 : decode cX12_whatIs 9 = .ok (.invokevirtual 343, 3) := by decide +kernel
theorem dX12_whatIs_12 : decode cX12_whatIs 12 = .ok (.istore_n 3, 1) := by decide +kernel
theorem dX12_whatIs_13 : decode cX12_whatIs 13 = .ok (.aload_n 0, 1) := by decide +kernel
theorem dX12_whatIs_14 : decode cX12_whatIs 14 = .ok (.getfield 29, 3) := by decide +kernel
theorem dX12_whatIs_17 : decode cX12_whatIs 17 = .ok (.iload_n 2, 1) := by decide +kernel
theorem dX12_whatIs_18 : decode cX12_whatIs 18 = .ok (.iaload, 1) := by decide +kernel
theorem dX12_whatIs_19 : decode cX12_whatIs 19 = .ok (.aload_n 0, 1) := by decide +kernel
theorem dX12_whatIs_20 : decode cX12_whatIs 20 = .ok (.getfield 57, 3) := by decide +kernel
theorem dX12_whatIs_23 : decode cX12_whatIs 23 = .ok (.iload_n 1, 1) := by decide +kernel
theorem dX12_whatIs_24 : decode cX12_whatIs 24 = .ok (.iaload, 1) := by decide +kernel
theorem dX12_whatIs_25 : decode cX12_whatIs 25 = .ok (.invokestatic 340, 3) := by decide +kernel
theorem dX12_whatIs_28 : decode cX12_whatIs 28 = .ok (.istore 4, 2) := by decide +kernel
theorem dX12_whatIs_30 : decode cX12_whatIs 30 = .ok (.aload_n 0, 1) := by decide +kernel
theorem dX12_whatIs_31 : decode cX12_whatIs 31 = .ok (.iload_n 1, 1) := by decide +kernel
theorem dX12_whatIs_32 : decode cX12_whatIs 32 = .ok (.invokevirtual 346, 3) := by decide +kernel
theorem dX12_whatIs_35 : decode cX12_whatIs 35 = .ok (.istore 5, 2) := by decide +kernel
theorem dX12_whatIs_37 : decode cX12_whatIs 37 = .ok (.aload_n 0, 1) := by decide +kernel
theorem dX12_whatIs_38 : decode cX12_whatIs 38 = .ok (.iload_n 1, 1) := by decide +kernel
theorem dX12_whatIs_39 : decode cX12_whatIs 39 = .ok (.invokevirtual 349, 3) := by decide +kernel
theorem dX12_whatIs_42 : decode cX12_whatIs 42 = .ok (.ifCond .lt 7, 3) := by decide +kernel
theorem dX12_whatIs_45 : decode cX12_whatIs 45 = .ok (.iconst 1, 1) := by decide +kernel
theorem dX12_whatIs_46 : decode cX12_whatIs 46 = .ok (.goto 4, 3) := by decide +kernel
theorem dX12_whatIs_49 : decode cX12_whatIs 49 = .ok (.iconst 0, 1) := by decide +kernel
theorem dX12_whatIs_50 : decode cX12_whatIs 50 = .ok (.istore 6, 2) := by decide +kernel
theorem dX12_whatIs_52 : decode cX12_whatIs 52 = .ok (.iload_n 3, 1) := by decide +kernel
theorem dX12_whatIs_53 : decode cX12_whatIs 53 = .ok (.ifCond .eq 12, 3) := by decide +kernel
theorem dX12_whatIs_56 : decode cX12_whatIs 56 = .ok (.iload 4, 2) := by decide +kernel
theorem dX12_whatIs_58 : decode cX12_whatIs 58 = .ok (.ifCond .eq 7, 3) := by decide +kernel
theorem dX12_whatIs_61 : decode cX12_whatIs 61 = .ok (.iconst 1, 1) := by decide +kernel
theorem dX12_whatIs_62 : decode cX12_whatIs 62 = .ok (.goto 4, 3) := by decide +kernel
theorem dX12_whatIs_65 : decode cX12_whatIs 65 = .ok (.iconst 0, 1) := by decide +kernel
theorem dX12_whatIs_66 : decode cX12_whatIs 66 = .ok (.istore 7, 2) := by decide +kernel
theorem dX12_whatIs_68 : decode cX12_whatIs 68 = .ok (.iload_n 3, 1) := by decide +kernel
theorem dX12_whatIs_69 : decode cX12_whatIs 69 = .ok (.ifCond .eq 15, 3) := by decide +kernel
theorem dX12_whatIs_72 : decode cX12_whatIs 72 = .ok (.aload_n 0, 1) := by decide +kernel
theorem dX12_whatIs_73 : decode cX12_whatIs 73 = .ok (.iload_n 1, 1) := by decide +kernel
theorem dX12_whatIs_74 : decode cX12_whatIs 74 = .ok (.invokevirtual 352, 3) := by decide +kernel
theorem dX12_whatIs_77 : decode cX12_whatIs 77 = .ok (.ifCond .eq 7, 3) := by decide +kernel
theorem dX12_whatIs_80 : decode cX12_whatIs 80 = .ok (.iconst 1, 1) := by decide +kernel
theorem dX12_whatIs_81 : decode cX12_whatIs 81 = .ok (.goto 4, 3) := by decide +kernel
theorem dX12_whatIs_84 : decode cX12_whatIs 84 = .ok (.iconst 0, 1) := by decide +kernel
theorem dX12_whatIs_85 : decode cX12_whatIs 85 = .ok (.istore 8, 2) := by decide +kernel
theorem dX12_whatIs_87 : decode cX12_whatIs 87 = .ok (.iload_n 3, 1) := by decide +kernel
theorem dX12_whatIs_88 : decode cX12_whatIs 88 = .ok (.ifCond .eq 30, 3) := by decide +kernel
theorem dX12_whatIs_91 : decode cX12_whatIs 91 = .ok (.iload 4, 2) := by decide +kernel
theorem dX12_whatIs_93 : decode cX12_whatIs 93 = .ok (.ifCond .ne 25, 3) := by decide +kernel
theorem dX12_whatIs_96 : decode cX12_whatIs 96 = .ok (.aload_n 0, 1) := by decide +kernel
theorem dX12_whatIs_97 : decode cX12_whatIs 97 = .ok (.getfield 32, 3) := by decide +kernel
theorem dX12_whatIs_100 : decode cX12_whatIs 100 = .ok (.iload_n 2, 1) := by decide +kernel
theorem dX12_whatIs_101 : decode cX12_whatIs 101 = .ok (.iaload, 1) := by decide +kernel
theorem dX12_whatIs_102 : decode cX12_whatIs 102 = .ok (.aload_n 0, 1) := by decide +kernel
theorem dX12_whatIs_103 : decode cX12_whatIs 103 = .ok (.getfield 57, 3) := by decide +kernel
theorem dX12_whatIs_106 : decode cX12_whatIs 106 = .ok (.iload_n 1, 1) := by decide +kernel
theorem dX12_whatIs_107 : decode cX12_whatIs 107 = .ok (.iaload, 1) := by decide +kernel
theorem dX12_whatIs_108 : decode cX12_whatIs 108 = .ok (.invokestatic 340, 3) := by decide +kernel
theorem dX12_whatIs_111 : decode cX12_whatIs 111 = .ok (.ifCond .ne 7, 3) := by decide +kernel
theorem dX12_whatIs_114 : decode cX12_whatIs 114 = .ok (.iconst 1, 1) := by decide +kernel
theorem dX12_whatIs_115 : decode cX12_whatIs 115 = .ok (.goto 4, 3) := by decide +kernel
theorem dX12_whatIs_118 : decode cX12_whatIs 118 = .ok (.iconst 0, 1) := by decide +kernel
theorem dX12_whatIs_119 : decode cX12_whatIs 119 = .ok (.istore 9, 2) := by decide +kernel
theorem dX12_whatIs_121 : decode cX12_whatIs 121 = .ok (.iload 5, 2) := by decide +kernel
theorem dX12_whatIs_123 : decode cX12_whatIs 123 = .ok (.ifCond .eq 22, 3) := by decide +kernel
theorem dX12_whatIs_126 : decode cX12_whatIs 126 = .ok (.iload 6, 2) := by decide +kernel
theorem dX12_whatIs_128 : decode cX12_whatIs 128 = .ok (.ifCond .ne 17, 3) := by decide +kernel
theorem dX12_whatIs_131 : decode cX12_whatIs 131 = .ok (.iload 7, 2) := by decide +kernel
theorem dX12_whatIs_133 : decode cX12_whatIs 133 = .ok (.ifCond .ne 12, 3) := by decide +kernel
theorem dX12_whatIs_136 : decode cX12_whatIs 136 = .ok (.iload 8, 2) := by decide +kernel
theorem dX12_whatIs_138 : decode cX12_whatIs 138 = .ok (.ifCond .ne 7, 3) := by decide +kernel
theorem dX12_whatIs_141 : decode cX12_whatIs 141 = .ok (.iconst 1, 1) := by decide +kernel
theorem dX12_whatIs_142 : decode cX12_whatIs 142 = .ok (.goto 4, 3) := by decide +kernel
theorem dX12_whatIs_145 : decode cX12_whatIs 145 = .ok (.iconst 0, 1) := by decide +kernel
theorem dX12_whatIs_146 : decode cX12_whatIs 146 = .ok (.istore 10, 2) := by decide +kernel
theorem dX12_whatIs_148 : decode cX12_whatIs 148 = .ok (.iload_n 3, 1) := by decide +kernel
theorem dX12_whatIs_149 : decode cX12_whatIs 149 = .ok (.ifCond .eq 7, 3) := by decide +kernel
theorem dX12_whatIs_152 : decode cX12_whatIs 152 = .ok (.iconst 1, 1) := by decide +kernel
theorem dX12_whatIs_153 : decode cX12_whatIs 153 = .ok (.goto 4, 3) := by decide +kernel
theorem dX12_whatIs_156 : decode cX12_whatIs 156 = .ok (.iconst 0, 1) := by decide +kernel
theorem dX12_whatIs_157 : decode cX12_whatIs 157 = .ok (.iload 5, 2) := by decide +kernel
theorem dX12_whatIs_159 : decode cX12_whatIs 159 = .ok (.ifCond .eq 7, 3) := by decide +kernel
theorem dX12_whatIs_162 : decode cX12_whatIs 162 = .ok (.iconst 2, 1) := by decide +kernel
theorem dX12_whatIs_163 : decode cX12_whatIs 163 = .ok (.goto 4, 3) := by decide +kernel
theorem dX12_whatIs_166 : decode cX12_whatIs 166 = .ok (.iconst 0, 1) := by decide +kernel
theorem dX12_whatIs_167 : decode cX12_whatIs 167 = .ok (.ior, 1) := by decide +kernel
theorem dX12_whatIs_168 : decode cX12_whatIs 168 = .ok (.iload 6, 2) := by decide +kernel
theorem dX12_whatIs_170 : decode cX12_whatIs 170 = .ok (.ifCond .eq 7, 3) := by decide +kernel
theorem dX12_whatIs_173 : decode cX12_whatIs 173 = .ok (.iconst 4, 1) := by decide +kernel
theorem dX12_whatIs_174 : decode cX12_whatIs 174 = .ok (.goto 4, 3) := by decide +kernel
theorem dX12_whatIs_177 : decode cX12_whatIs 177 = .ok (.iconst 0, 1) := by decide +kernel
theorem dX12_whatIs_178 : decode cX12_whatIs 178 = .ok (.ior, 1) := by decide +kernel
theorem dX12_whatIs_179 : decode cX12_whatIs 179 = .ok (.iload 7, 2) := by decide +kernel
theorem dX12_whatIs_181 : decode cX12_whatIs 181 = .ok (.ifCond .eq 8, 3) := by decide +kernel
theorem dX12_whatIs_184 : decode cX12_whatIs 184 = .ok (.bipush 8, 2) := by decide +kernel
theorem dX12_whatIs_186 : decode cX12_whatIs 186 = .ok (.goto 4, 3) := by decide +kernel
theorem dX12_whatIs_189 : decode cX12_whatIs 189 = .ok (.iconst 0, 1) := by decide +kernel
theorem dX12_whatIs_190 : decode cX12_whatIs 190 = .ok (.ior, 1) := by decide +kernel
theorem dX12_whatIs_191 : decode cX12_whatIs 191 = .ok (.iload 8, 2) := by decide +kernel
theorem dX12_whatIs_193 : decode cX12_whatIs 193 = .ok (.ifCond .eq 8, 3) := by decide +kernel
theorem dX12_whatIs_196 : decode cX12_whatIs 196 = .ok (.bipush 16, 2) := by decide +kernel
theorem dX12_whatIs_198 : decode cX12_whatIs 198 = .ok (.goto 4, 3) := by decide +kernel
theorem dX12_whatIs_201 : decode cX12_whatIs 201 = .ok (.iconst 0, 1) := by decide +kernel
theorem dX12_whatIs_202 : decode cX12_whatIs 202 = .ok (.ior, 1) := by decide +kernel
theorem dX12_whatIs_203 : decode cX12_whatIs 203 = .ok (.iload 9, 2) := by decide +kernel
theorem dX12_whatIs_205 : decode cX12_whatIs 205 = .ok (.ifCond .eq 8, 3) := by decide +kernel
theorem dX12_whatIs_208 : decode cX12_whatIs 208 = .ok (.bipush 32, 2) := by decide +kernel
theorem dX12_whatIs_210 : decode cX12_whatIs 210 = .ok (.goto 4, 3) := by decide +kernel
theorem dX12_whatIs_213 : decode cX12_whatIs 213 = .ok (.iconst 0, 1) := by decide +kernel
theorem dX12_whatIs_214 : decode cX12_whatIs 214 = .ok (.ior, 1) := by decide +kernel
theorem dX12_whatIs_215 : decode cX12_whatIs 215 = .ok (.iload 10, 2) := by decide +kernel
theorem dX12_whatIs_217 : decode cX12_whatIs 217 = .ok (.ifCond .eq 8, 3) := by decide +kernel
theorem dX12_whatIs_220 : decode cX12_whatIs 220 = .ok (.bipush 64, 2) := by decide +kernel
theorem dX12_whatIs_222 : decode cX12_whatIs 222 = .ok (.goto 4, 3) := by decide +kernel
theorem dX12_whatIs_225 : decode cX12_whatIs 225 = .ok (.iconst 0, 1) := by decide +kernel
theorem dX12_whatIs_226 : decode cX12_whatIs 226 = .ok (.ior, 1) := by decide +kernel
theorem dX12_whatIs_227 : decode cX12_whatIs 227 = .ok (.ireturn, 1) := by decide +kernel
theorem dX12_word_0 : decode cX12_word 0 = .ok (.aload_n 0, 1) := by decide +kernel
theorem dX12_word_1 : decode cX12_word 1 = .ok (.iconst 0, 1) := by decide +kernel
theorem dX12_word_2 : decode cX12_word 2 = .ok (.putfield 124, 3) := by decide +kernel
theorem dX12_word_5 : decode cX12_word 5 = .ok (.aload_n 0, 1) := by decide +kernel
theorem dX12_word_6 : decode cX12_word 6 = .ok (.iload_n 1, 1) := by decide +kernel
theorem dX12_word_7 : decode cX12_word 7 = .ok (.invokevirtual 321, 3) := by decide +kernel
theorem dX12_word_10 : decode cX12_word 10 = .ok (.ifCond .eq 11, 3) := by decide +kernel
theorem dX12_word_13 : decode cX12_word 13 = .ok (.aload_n 0, 1) := by decide +kernel
theorem dX12_word_14 : decode cX12_word 14 = .ok (.iload_n 1, 1) := by decide +kernel
theorem dX12_word_15 : decode cX12_word 15 = .ok (.invokevirtual 355, 3) := by decide +kernel
theorem dX12_word_18 : decode cX12_word 18 = .ok (.goto 4, 3) := by decide +kernel
theorem dX12_word_21 : decode cX12_word 21 = .ok (.iconst (-1), 1) := by decide +kernel
theorem dX12_word_22 : decode cX12_word 22 = .ok (.ireturn, 1) := by decide +kernel
theorem dX12_led_0 : decode cX12_led 0 = .ok (.aload_n 0, 1) := by decide +kernel
theorem dX12_led_1 : decode cX12_led 1 = .ok (.iconst 0, 1) := by decide +kernel
theorem dX12_led_2 : decode cX12_led 2 = .ok (.putfield 124, 3) := by decide +kernel
theorem dX12_led_5 : decode cX12_led 5 = .ok (.aload_n 0, 1) := by decide +kernel
theorem dX12_led_6 : decode cX12_led 6 = .ok (.iload_n 1, 1) := by decide +kernel
theorem dX12_led_7 : decode cX12_led 7 = .ok (.invokevirtual 321, 3) := by decide +kernel
theorem dX12_led_10 : decode cX12_led 10 = .ok (.ifCond .eq 11, 3) := by decide +kernel
theorem dX12_led_13 : decode cX12_led 13 = .ok (.aload_n 0, 1) := by decide +kernel
theorem dX12_led_14 : decode cX12_led 14 = .ok (.iload_n 1, 1) := by decide +kernel
theorem dX12_led_15 : decode cX12_led 15 = .ok (.invokevirtual 349, 3) := by decide +kernel
theorem dX12_led_18 : decode cX12_led 18 = .ok (.goto 4, 3) := by decide +kernel
theorem dX12_led_21 : decode cX12_led 21 = .ok (.iconst (-1), 1) := by decide +kernel
theorem dX12_led_22 : decode cX12_led 22 = .ok (.ireturn, 1) := by decide +kernel
theorem dX12_words_0 : decode cX12_words 0 = .ok (.aload_n 0, 1) := by decide +kernel
theorem dX12_words_1 : decode cX12_words 1 = .ok (.iconst 0, 1) := by decide +kernel
theorem dX12_words_2 : decode cX12_words 2 = .ok (.putfield 124, 3) := by decide +kernel
theorem dX12_words_5 : decode cX12_words 5 = .ok (.aload_n 0, 1) := by decide +kernel
theorem dX12_words_6 : decode cX12_words 6 = .ok (.iload_n 1, 1) := by decide +kernel
theorem dX12_words_7 : decode cX12_words 7 = .ok (.invokevirtual 315, 3) := by decide +kernel
theorem dX12_words_10 : decode cX12_words 10 = .ok (.ifCond .eq 13, 3) := by decide +kernel
theorem dX12_words_13 : decode cX12_words 13 = .ok (.iload_n 2, 1) := by decide +kernel
theorem dX12_words_14 : decode cX12_words 14 = .ok (.iconst 1, 1) := by decide +kernel
theorem dX12_words_15 : decode cX12_words 15 = .ok (.bipush 127, 2) := by decide +kernel
theorem dX12_words_17 : decode cX12_words 17 = .ok (.invokestatic 324, 3) := by decide +kernel
theorem dX12_words_20 : decode cX12_words 20 = .ok (.ifCond .ne 5, 3) := by decide +kernel
theorem dX12_words_23 : decode cX12_words 23 = .ok (.iconst (-1), 1) := by decide +kernel
theorem dX12_words_24 : decode cX12_words 24 = .ok (.ireturn, 1) := by decide +kernel
theorem dX12_words_25 : decode cX12_words 25 = .ok (.iconst 0, 1) := by decide +kernel
theorem dX12_words_26 : decode cX12_words 26 = .ok (.istore_n 3, 1) := by decide +kernel
theorem dX12_words_27 : decode cX12_words 27 = .ok (.iconst 0, 1) := by decide +kernel
theorem dX12_words_28 : decode cX12_words 28 = .ok (.istore 4, 2) := by decide +kernel
theorem dX12_words_30 : decode cX12_words 30 = .ok (.iload 4, 2) := by decide +kernel
theorem dX12_words_32 : decode cX12_words 32 = .ok (.aload_n 0, 1) := by decide +kernel
theorem dX12_words_33 : decode cX12_words 33 = .ok (.getfield 198, 3) := by decide +kernel
theorem dX12_words_36 : decode cX12_words 36 = .ok (.if_icmp .ge 49, 3) := by decide +kernel
theorem dX12_words_39 : decode cX12_words 39 = .ok (.iload_n 3, 1) := by decide +kernel
theorem dX12_words_40 : decode cX12_words 40 = .ok (.aload_n 0, 1) := by decide +kernel
theorem dX12_words_41 : decode cX12_words 41 = .ok (.iload 4, 2) := by decide +kernel
theorem dX12_words_43 : decode cX12_words 43 = .ok (.invokevirtual 321, 3) := by decide +kernel
theorem dX12_words_46 : decode cX12_words 46 = .ok (.ifCond .eq 30, 3) := by decide +kernel
theorem dX12_words_49 : decode cX12_words 49 = .ok (.aload_n 0, 1) := by decide +kernel
theorem dX12_words_50 : decode cX12_words 50 = .ok (.getfield 54, 3) := by decide +kernel
theorem dX12_words_53 : decode cX12_words 53 = .ok (.iload 4, 2) := by decide +kernel
theorem dX12_words_55 : decode cX12_words 55 = .ok (.iaload, 1) := by decide +kernel
theorem dX12_words_56 : decode cX12_words 56 = .ok (.iload_n 1, 1) := by decide +kernel
theorem dX12_words_57 : decode cX12_words 57 = .ok (.if_icmp .ne 19, 3) := by decide +kernel
theorem dX12_words_60 : decode cX12_words 60 = .ok (.aload_n 0, 1) := by decide +kernel
theorem dX12_words_61 : decode cX12_words 61 = .ok (.iload 4, 2) := by decide +kernel
theorem dX12_words_63 : decode cX12_words 63 = .ok (.invokevirtual 355, 3) := by decide +kernel
theorem dX12_words_66 : decode cX12_words 66 = .ok (.iload_n 2, 1) := by decide +kernel
theorem dX12_words_67 : decode cX12_words 67 = .ok (.iand, 1) := by decide +kernel
theorem dX12_words_68 : decode cX12_words 68 = .ok (.iload_n 2, 1) := by decide +kernel
theorem dX12_words_69 : decode cX12_words 69 = .ok (.if_icmp .ne 7, 3) := by decide +kernel
theorem dX12_words_72 : decode cX12_words 72 = .ok (.iconst 1, 1) := by decide +kernel
theorem dX12_words_73 : decode cX12_words 73 = .ok (.goto 4, 3) := by decide +kernel
theorem dX12_words_76 : decode cX12_words 76 = .ok (.iconst 0, 1) := by decide +kernel
theorem dX12_words_77 : decode cX12_words 77 = .ok (.iadd, 1) := by decide +kernel
theorem dX12_words_78 : decode cX12_words 78 = .ok (.istore_n 3, 1) := by decide +kernel
theorem dX12_words_79 : decode cX12_words 79 = .ok (.iinc 4 1, 3) := by decide +kernel
theorem dX12_words_82 : decode cX12_words 82 = .ok (.goto (-52), 3) := by decide +kernel
theorem dX12_words_85 : decode cX12_words 85 = .ok (.iload_n 3, 1) := by decide +kernel
theorem dX12_words_86 : decode cX12_words 86 = .ok (.ireturn, 1) := by decide +kernel
theorem dX12_common_0 : decode cX12_common 0 = .ok (.lload_n 0, 1) := by decide +kernel
theorem dX12_common_1 : decode cX12_common 1 = .ok (.lstore 4, 2) := by decide +kernel
theorem dX12_common_3 : decode cX12_common 3 = .ok (.lload_n 2, 1) := by decide +kernel
theorem dX12_common_4 : decode cX12_common 4 = .ok (.lstore 6, 2) := by decide +kernel
theorem dX12_common_6 : decode cX12_common 6 = .ok (.lload 6, 2) := by decide +kernel
theorem dX12_common_8 : decode cX12_common 8 = .ok (.lconst 0, 1) := by decide +kernel
theorem dX12_common_9 : decode cX12_common 9 = .ok (.lcmp, 1) := by decide +kernel
theorem dX12_common_10 : decode cX12_common 10 = .ok (.ifCond .eq 21, 3) := by decide +kernel
theorem dX12_common_13 : decode cX12_common 13 = .ok (.lload 4, 2) := by decide +kernel
theorem dX12_common_15 : decode cX12_common 15 = .ok (.lload 6, 2) := by decide +kernel
theorem dX12_common_17 : decode cX12_common 17 = .ok (.lrem, 1) := by decide +kernel
theorem dX12_common_18 : decode cX12_common 18 = .ok (.lstore 8, 2) := by decide +kernel
theorem dX12_common_20 : decode cX12_common 20 = .ok (.lload 6, 2) := by decide +kernel
theorem dX12_common_22 : decode cX12_common 22 = .ok (.lstore 4, 2) := by decide +kernel
theorem dX12_common_24 : decode cX12_common 24 = .ok (.lload 8, 2) := by decide +kernel
theorem dX12_common_26 : decode cX12_common 26 = .ok (.lstore 6, 2) := by decide +kernel
theorem dX12_common_28 : decode cX12_common 28 = .ok (.goto (-22), 3) := by decide +kernel
theorem dX12_common_31 : decode cX12_common 31 = .ok (.lload 4, 2) := by decide +kernel
theorem dX12_common_33 : decode cX12_common 33 = .ok (.lreturn, 1) := by decide +kernel
theorem dX12_least_0 : decode cX12_least 0 = .ok (.aload_n 0, 1) := by decide +kernel
theorem dX12_least_1 : decode cX12_least 1 = .ok (.getfield 358, 3) := by decide +kernel
theorem dX12_least_4 : decode cX12_least 4 = .ok (.aload_n 0, 1) := by decide +kernel
theorem dX12_least_5 : decode cX12_least 5 = .ok (.getfield 362, 3) := by decide +kernel
theorem dX12_least_8 : decode cX12_least 8 = .ok (.invokestatic 365, 3) := by decide +kernel
theorem dX12_least_11 : decode cX12_least 11 = .ok (.lstore_n 1, 1) := by decide +kernel
theorem dX12_least_12 : decode cX12_least 12 = .ok (.aload_n 0, 1) := by decide +kernel
theorem dX12_least_13 : decode cX12_least 13 = .ok (.dup, 1) := by decide +kernel
theorem dX12_least_14 : decode cX12_least 14 = .ok (.getfield 358, 3) := by decide +kernel
theorem dX12_least_17 : decode cX12_least 17 = .ok (.lload_n 1, 1) := by decide +kernel
theorem dX12_least_18 : decode cX12_least 18 = .ok (.ldiv, 1) := by decide +kernel
theorem dX12_least_19 : decode cX12_least 19 = .ok (.putfield 358, 3) := by decide +kernel
theorem dX12_least_22 : decode cX12_least 22 = .ok (.aload_n 0, 1) := by decide +kernel
theorem dX12_least_23 : decode cX12_least 23 = .ok (.dup, 1) := by decide +kernel
theorem dX12_least_24 : decode cX12_least 24 = .ok (.getfield 362, 3) := by decide +kernel
theorem dX12_least_27 : decode cX12_least 27 = .ok (.lload_n 1, 1) := by decide +kernel
theorem dX12_least_28 : decode cX12_least 28 = .ok (.ldiv, 1) := by decide +kernel
theorem dX12_least_29 : decode cX12_least 29 = .ok (.putfield 362, 3) := by decide +kernel
theorem dX12_least_32 : decode cX12_least 32 = .ok (.return_, 1) := by decide +kernel
theorem dX12_weighs_0 : decode cX12_weighs 0 = .ok (.iload_n 2, 1) := by decide +kernel
theorem dX12_weighs_1 : decode cX12_weighs 1 = .ok (.ifCond .eq 39, 3) := by decide +kernel
theorem dX12_weighs_4 : decode cX12_weighs 4 = .ok (.aload_n 0, 1) := by decide +kernel
theorem dX12_weighs_5 : decode cX12_weighs 5 = .ok (.dup, 1) := by decide +kernel
theorem dX12_weighs_6 : decode cX12_weighs 6 = .ok (.getfield 358, 3) := by decide +kernel
theorem dX12_weighs_9 : decode cX12_weighs 9 = .ok (.aload_n 0, 1) := by decide +kernel
theorem dX12_weighs_10 : decode cX12_weighs 10 = .ok (.getfield 90, 3) := by decide +kernel
theorem dX12_weighs_13 : decode cX12_weighs 13 = .ok (.aload_n 0, 1) := by decide +kernel
theorem dX12_weighs_14 : decode cX12_weighs 14 = .ok (.getfield 23, 3) := by decide +kernel
theorem dX12_weighs_17 : decode cX12_weighs 17 = .ok (.iload_n 1, 1) := by decide +kernel
theorem dX12_weighs_18 : decode cX12_weighs 18 = .ok (.iaload, 1) := by decide +kernel
theorem dX12_weighs_19 : decode cX12_weighs 19 = .ok (.imul, 1) := by decide +kernel
theorem dX12_weighs_20 : decode cX12_weighs 20 = .ok (.i2l, 1) := by decide +kernel
theorem dX12_weighs_21 : decode cX12_weighs 21 = .ok (.lmul, 1) := by decide +kernel
theorem dX12_weighs_22 : decode cX12_weighs 22 = .ok (.putfield 358, 3) := by decide +kernel
theorem dX12_weighs_25 : decode cX12_weighs 25 = .ok (.aload_n 0, 1) := by decide +kernel
theorem dX12_weighs_26 : decode cX12_weighs 26 = .ok (.dup, 1) := by decide +kernel
theorem dX12_weighs_27 : decode cX12_weighs 27 = .ok (.getfield 362, 3) := by decide +kernel
theorem dX12_weighs_30 : decode cX12_weighs 30 = .ok (.ldc2_w 369, 3) := by decide +kernel
theorem dX12_weighs_33 : decode cX12_weighs 33 = .ok (.lmul, 1) := by decide +kernel
theorem dX12_weighs_34 : decode cX12_weighs 34 = .ok (.putfield 362, 3) := by decide +kernel
theorem dX12_weighs_37 : decode cX12_weighs 37 = .ok (.goto 49, 3) := by decide +kernel
theorem dX12_weighs_40 : decode cX12_weighs 40 = .ok (.aload_n 0, 1) := by decide +kernel
theorem dX12_weighs_41 : decode cX12_weighs 41 = .ok (.dup, 1) := by decide +kernel
theorem dX12_weighs_42 : decode cX12_weighs 42 = .ok (.getfield 358, 3) := by decide +kernel
theorem dX12_weighs_45 : decode cX12_weighs 45 = .ok (.bipush 10, 2) := by decide +kernel
theorem dX12_weighs_47 : decode cX12_weighs 47 = .ok (.aload_n 0, 1) := by decide +kernel
theorem dX12_weighs_48 : decode cX12_weighs 48 = .ok (.getfield 90, 3) := by decide +kernel
theorem dX12_weighs_51 : decode cX12_weighs 51 = .ok (.isub, 1) := by decide +kernel
theorem dX12_weighs_52 : decode cX12_weighs 52 = .ok (.aload_n 0, 1) := by decide +kernel
theorem dX12_weighs_53 : decode cX12_weighs 53 = .ok (.getfield 23, 3) := by decide +kernel
theorem dX12_weighs_56 : decode cX12_weighs 56 = .ok (.iload_n 1, 1) := by decide +kernel
theorem dX12_weighs_57 : decode cX12_weighs 57 = .ok (.iaload, 1) := by decide +kernel
theorem dX12_weighs_58 : decode cX12_weighs 58 = .ok (.imul, 1) := by decide +kernel
theorem dX12_weighs_59 : decode cX12_weighs 59 = .ok (.i2l, 1) := by decide +kernel
theorem dX12_weighs_60 : decode cX12_weighs 60 = .ok (.lmul, 1) := by decide +kernel
theorem dX12_weighs_61 : decode cX12_weighs 61 = .ok (.putfield 358, 3) := by decide +kernel
theorem dX12_weighs_64 : decode cX12_weighs 64 = .ok (.aload_n 0, 1) := by decide +kernel
theorem dX12_weighs_65 : decode cX12_weighs 65 = .ok (.dup, 1) := by decide +kernel
theorem dX12_weighs_66 : decode cX12_weighs 66 = .ok (.getfield 362, 3) := by decide +kernel
theorem dX12_weighs_69 : decode cX12_weighs 69 = .ok (.ldc2_w 369, 3) := by decide +kernel
theorem dX12_weighs_72 : decode cX12_weighs 72 = .ok (.aload_n 0, 1) := by decide +kernel
theorem dX12_weighs_73 : decode cX12_weighs 73 = .ok (.getfield 23, 3) := by decide +kernel
theorem dX12_weighs_76 : decode cX12_weighs 76 = .ok (.iload_n 1, 1) := by decide +kernel
theorem dX12_weighs_77 : decode cX12_weighs 77 = .ok (.iaload, 1) := by decide +kernel
theorem dX12_weighs_78 : decode cX12_weighs 78 = .ok (.iconst 1, 1) := by decide +kernel
theorem dX12_weighs_79 : decode cX12_weighs 79 = .ok (.isub, 1) := by decide +kernel
theorem dX12_weighs_80 : decode cX12_weighs 80 = .ok (.i2l, 1) := by decide +kernel
theorem dX12_weighs_81 : decode cX12_weighs 81 = .ok (.lmul, 1) := by decide +kernel
theorem dX12_weighs_82 : decode cX12_weighs 82 = .ok (.lmul, 1) := by decide +kernel
theorem dX12_weighs_83 : decode cX12_weighs 83 = .ok (.putfield 362, 3) := by decide +kernel
theorem dX12_weighs_86 : decode cX12_weighs 86 = .ok (.aload_n 0, 1) := by decide +kernel
theorem dX12_weighs_87 : decode cX12_weighs 87 = .ok (.invokevirtual 371, 3) := by decide +kernel
theorem dX12_weighs_90 : decode cX12_weighs 90 = .ok (.return_, 1) := by decide +kernel
theorem dX12_truth_0 : decode cX12_truth 0 = .ok (.aload_n 0, 1) := by decide +kernel
theorem dX12_truth_1 : decode cX12_truth 1 = .ok (.iconst 0, 1) := by decide +kernel
theorem dX12_truth_2 : decode cX12_truth 2 = .ok (.putfield 124, 3) := by decide +kernel
theorem dX12_truth_5 : decode cX12_truth 5 = .ok (.iload_n 1, 1) := by decide +kernel
theorem dX12_truth_6 : decode cX12_truth 6 = .ok (.iconst 1, 1) := by decide +kernel
theorem dX12_truth_7 : decode cX12_truth 7 = .ok (.bipush 9, 2) := by decide +kernel
theorem dX12_truth_9 : decode cX12_truth 9 = .ok (.invokestatic 324, 3) := by decide +kernel
theorem dX12_truth_12 : decode cX12_truth 12 = .ok (.ifCond .ne 5, 3) := by decide +kernel
theorem dX12_truth_15 : decode cX12_truth 15 = .ok (.iconst 0, 1) := by decide +kernel
theorem dX12_truth_16 : decode cX12_truth 16 = .ok (.ireturn, 1) := by decide +kernel
theorem dX12_truth_17 : decode cX12_truth 17 = .ok (.aload_n 0, 1) := by decide +kernel
theorem dX12_truth_18 : decode cX12_truth 18 = .ok (.iload_n 1, 1) := by decide +kernel
theorem dX12_truth_19 : decode cX12_truth 19 = .ok (.putfield 90, 3) := by decide +kernel
theorem dX12_truth_22 : decode cX12_truth 22 = .ok (.iconst 1, 1) := by decide +kernel
theorem dX12_truth_23 : decode cX12_truth 23 = .ok (.ireturn, 1) := by decide +kernel
theorem dX12_begin_0 : decode cX12_begin 0 = .ok (.aload_n 0, 1) := by decide +kernel
theorem dX12_begin_1 : decode cX12_begin 1 = .ok (.iconst 0, 1) := by decide +kernel
theorem dX12_begin_2 : decode cX12_begin 2 = .ok (.putfield 124, 3) := by decide +kernel
theorem dX12_begin_5 : decode cX12_begin 5 = .ok (.iload_n 1, 1) := by decide +kernel
theorem dX12_begin_6 : decode cX12_begin 6 = .ok (.iconst 1, 1) := by decide +kernel
theorem dX12_begin_7 : decode cX12_begin 7 = .ok (.bipush 99, 2) := by decide +kernel
theorem dX12_begin_9 : decode cX12_begin 9 = .ok (.invokestatic 324, 3) := by decide +kernel
theorem dX12_begin_12 : decode cX12_begin 12 = .ok (.ifCond .eq 13, 3) := by decide +kernel
theorem dX12_begin_15 : decode cX12_begin 15 = .ok (.iload_n 2, 1) := by decide +kernel
theorem dX12_begin_16 : decode cX12_begin 16 = .ok (.iconst 1, 1) := by decide +kernel
theorem dX12_begin_17 : decode cX12_begin 17 = .ok (.bipush 99, 2) := by decide +kernel
theorem dX12_begin_19 : decode cX12_begin 19 = .ok (.invokestatic 324, 3) := by decide +kernel
theorem dX12_begin_22 : decode cX12_begin 22 = .ok (.ifCond .ne 5, 3) := by decide +kernel
theorem dX12_begin_25 : decode cX12_begin 25 = .ok (.iconst 0, 1) := by decide +kernel
theorem dX12_begin_26 : decode cX12_begin 26 = .ok (.ireturn, 1) := by decide +kernel
theorem dX12_begin_27 : decode cX12_begin 27 = .ok (.aload_n 0, 1) := by decide +kernel
theorem dX12_begin_28 : decode cX12_begin 28 = .ok (.iload_n 1, 1) := by decide +kernel
theorem dX12_begin_29 : decode cX12_begin 29 = .ok (.putfield 93, 3) := by decide +kernel
theorem dX12_begin_32 : decode cX12_begin 32 = .ok (.aload_n 0, 1) := by decide +kernel
theorem dX12_begin_33 : decode cX12_begin 33 = .ok (.iload_n 2, 1) := by decide +kernel
theorem dX12_begin_34 : decode cX12_begin 34 = .ok (.putfield 96, 3) := by decide +kernel
theorem dX12_begin_37 : decode cX12_begin 37 = .ok (.iconst 1, 1) := by decide +kernel
theorem dX12_begin_38 : decode cX12_begin 38 = .ok (.ireturn, 1) := by decide +kernel
theorem dX12_isFirstLine_0 : decode cX12_isFirstLine 0 = .ok (.iconst 0, 1) := by decide +kernel
theorem dX12_isFirstLine_1 : decode cX12_isFirstLine 1 = .ok (.istore_n 2, 1) := by decide +kernel
theorem dX12_isFirstLine_2 : decode cX12_isFirstLine 2 = .ok (.iload_n 2, 1) := by decide +kernel
theorem dX12_isFirstLine_3 : decode cX12_isFirstLine 3 = .ok (.iload_n 1, 1) := by decide +kernel
theorem dX12_isFirstLine_4 : decode cX12_isFirstLine 4 = .ok (.if_icmp .ge 41, 3) := by decide +kernel
theorem dX12_isFirstLine_7 : decode cX12_isFirstLine 7 = .ok (.aload_n 0, 1) := by decide +kernel
theorem dX12_isFirstLine_8 : decode cX12_isFirstLine 8 = .ok (.getfield 66, 3) := by decide +kernel
theorem dX12_isFirstLine_11 : decode cX12_isFirstLine 11 = .ok (.iload_n 2, 1) := by decide +kernel
theorem dX12_isFirstLine_12 : decode cX12_isFirstLine 12 = .ok (.iaload, 1) := by decide +kernel
theorem dX12_isFirstLine_13 : decode cX12_isFirstLine 13 = .ok (.aload_n 0, 1) := by decide +kernel
theorem dX12_isFirstLine_14 : decode cX12_isFirstLine 14 = .ok (.getfield 66, 3) := by decide +kernel
theorem dX12_isFirstLine_17 : decode cX12_isFirstLine 17 = .ok (.iload_n 1, 1) := by decide +kernel
theorem dX12_isFirstLine_18 : decode cX12_isFirstLine 18 = .ok (.iaload, 1) := by decide +kernel
theorem dX12_isFirstLine_19 : decode cX12_isFirstLine 19 = .ok (.if_icmp .ne 20, 3) := by decide +kernel
theorem dX12_isFirstLine_22 : decode cX12_isFirstLine 22 = .ok (.aload_n 0, 1) := by decide +kernel
theorem dX12_isFirstLine_23 : decode cX12_isFirstLine 23 = .ok (.getfield 69, 3) := by decide +kernel
theorem dX12_isFirstLine_26 : decode cX12_isFirstLine 26 = .ok (.iload_n 2, 1) := by decide +kernel
theorem dX12_isFirstLine_27 : decode cX12_isFirstLine 27 = .ok (.iaload, 1) := by decide +kernel
theorem dX12_isFirstLine_28 : decode cX12_isFirstLine 28 = .ok (.aload_n 0, 1) := by decide +kernel
theorem dX12_isFirstLine_29 : decode cX12_isFirstLine 29 = .ok (.getfield 69, 3) := by decide +kernel
theorem dX12_isFirstLine_32 : decode cX12_isFirstLine 32 = .ok (.iload_n 1, 1) := by decide +kernel
theorem dX12_isFirstLine_33 : decode cX12_isFirstLine 33 = .ok (.iaload, 1) := by decide +kernel
theorem dX12_isFirstLine_34 : decode cX12_isFirstLine 34 = .ok (.if_icmp .ne 5, 3) := by decide +kernel
theorem dX12_isFirstLine_37 : decode cX12_isFirstLine 37 = .ok (.iconst 0, 1) := by decide +kernel
theorem dX12_isFirstLine_38 : decode cX12_isFirstLine 38 = .ok (.ireturn, 1) := by decide +kernel
theorem dX12_isFirstLine_39 : decode cX12_isFirstLine 39 = .ok (.iinc 2 1, 3) := by decide +kernel
theorem dX12_isFirstLine_42 : decode cX12_isFirstLine 42 = .ok (.goto (-40), 3) := by decide +kernel
theorem dX12_isFirstLine_45 : decode cX12_isFirstLine 45 = .ok (.iconst 1, 1) := by decide +kernel
theorem dX12_isFirstLine_46 : decode cX12_isFirstLine 46 = .ok (.ireturn, 1) := by decide +kernel
theorem dX12_odds_0 : decode cX12_odds 0 = .ok (.aload_n 0, 1) := by decide +kernel
theorem dX12_odds_1 : decode cX12_odds 1 = .ok (.iconst 0, 1) := by decide +kernel
theorem dX12_odds_2 : decode cX12_odds 2 = .ok (.putfield 124, 3) := by decide +kernel
theorem dX12_odds_5 : decode cX12_odds 5 = .ok (.aload_n 0, 1) := by decide +kernel
theorem dX12_odds_6 : decode cX12_odds 6 = .ok (.iload_n 1, 1) := by decide +kernel
theorem dX12_odds_7 : decode cX12_odds 7 = .ok (.invokevirtual 315, 3) := by decide +kernel
theorem dX12_odds_10 : decode cX12_odds 10 = .ok (.ifCond .eq 21, 3) := by decide +kernel
theorem dX12_odds_13 : decode cX12_odds 13 = .ok (.iload_n 2, 1) := by decide +kernel
theorem dX12_odds_14 : decode cX12_odds 14 = .ok (.iconst 0, 1) := by decide +kernel
theorem dX12_odds_15 : decode cX12_odds 15 = .ok (.iconst 2, 1) := by decide +kernel
theorem dX12_odds_16 : decode cX12_odds 16 = .ok (.invokestatic 324, 3) := by decide +kernel
theorem dX12_odds_19 : decode cX12_odds 19 = .ok (.ifCond .eq 12, 3) := by decide +kernel
theorem dX12_odds_22 : decode cX12_odds 22 = .ok (.iload_n 3, 1) := by decide +kernel
theorem dX12_odds_23 : decode cX12_odds 23 = .ok (.iconst 0, 1) := by decide +kernel
theorem dX12_odds_24 : decode cX12_odds 24 = .ok (.iconst 1, 1) := by decide +kernel
theorem dX12_odds_25 : decode cX12_odds 25 = .ok (.invokestatic 324, 3) := by decide +kernel
theorem dX12_odds_28 : decode cX12_odds 28 = .ok (.ifCond .ne 7, 3) := by decide +kernel
theorem dX12_odds_31 : decode cX12_odds 31 = .ok (.ldc2_w 374, 3) := by decide +kernel
theorem dX12_odds_34 : decode cX12_odds 34 = .ok (.lreturn, 1) := by decide +kernel
theorem dX12_odds_35 : decode cX12_odds 35 = .ok (.aload_n 0, 1) := by decide +kernel
theorem dX12_odds_36 : decode cX12_odds 36 = .ok (.aload_n 0, 1) := by decide +kernel
theorem dX12_odds_37 : decode cX12_odds 37 = .ok (.getfield 93, 3) := by decide +kernel
theorem dX12_odds_40 : decode cX12_odds 40 = .ok (.i2l, 1) := by decide +kernel
theorem dX12_odds_41 : decode cX12_odds 41 = .ok (.putfield 358, 3) := by decide +kernel
theorem dX12_odds_44 : decode cX12_odds 44 = .ok (.aload_n 0, 1) := by decide +kernel
theorem dX12_odds_45 : decode cX12_odds 45 = .ok (.aload_n 0, 1) := by decide +kernel
theorem dX12_odds_46 : decode cX12_odds 46 = .ok (.getfield 96, 3) := by decide +kernel
theorem dX12_odds_49 : decode cX12_odds 49 = .ok (.i2l, 1) := by decide +kernel
theorem dX12_odds_50 : decode cX12_odds 50 = .ok (.putfield 362, 3) := by decide +kernel
theorem dX12_odds_53 : decode cX12_odds 53 = .ok (.aload_n 0, 1) := by decide +kernel
theorem dX12_odds_54 : decode cX12_odds 54 = .ok (.invokevirtual 371, 3) := by decide +kernel
theorem dX12_odds_57 : decode cX12_odds 57 = .ok (.iload_n 2, 1) := by decide +kernel
theorem dX12_odds_58 : decode cX12_odds 58 = .ok (.iconst 2, 1) := by decide +kernel
theorem dX12_odds_59 : decode cX12_odds 59 = .ok (.if_icmp .ne 82, 3) := by decide +kernel
theorem dX12_odds_62 : decode cX12_odds 62 = .ok (.iconst 0, 1) := by decide +kernel
theorem dX12_odds_63 : decode cX12_odds 63 = .ok (.istore 4, 2) := by decide +kernel
theorem dX12_odds_65 : decode cX12_odds 65 = .ok (.iload 4, 2) := by decide +kernel
theorem dX12_odds_67 : decode cX12_odds 67 = .ok (.aload_n 0, 1) := by decide +kernel
theorem dX12_odds_68 : decode cX12_odds 68 = .ok (.getfield 201, 3) := by decide +kernel
theorem dX12_odds_71 : decode cX12_odds 71 = .ok (.if_icmp .ge 67, 3) := by decide +kernel
theorem dX12_odds_74 : decode cX12_odds 74 = .ok (.aload_n 0, 1) := by decide +kernel
theorem dX12_odds_75 : decode cX12_odds 75 = .ok (.getfield 66, 3) := by decide +kernel
theorem dX12_odds_78 : decode cX12_odds 78 = .ok (.iload 4, 2) := by decide +kernel
theorem dX12_odds_80 : decode cX12_odds 80 = .ok (.iaload, 1) := by decide +kernel
theorem dX12_odds_81 : decode cX12_odds 81 = .ok (.iload_n 1, 1) := by decide +kernel
theorem dX12_odds_82 : decode cX12_odds 82 = .ok (.if_icmp .ne 50, 3) := by decide +kernel
theorem dX12_odds_85 : decode cX12_odds 85 = .ok (.aload_n 0, 1) := by decide +kernel
theorem dX12_odds_86 : decode cX12_odds 86 = .ok (.iload 4, 2) := by decide +kernel
theorem dX12_odds_88 : decode cX12_odds 88 = .ok (.invokevirtual 376, 3) := by decide +kernel
theorem dX12_odds_91 : decode cX12_odds 91 = .ok (.ifCond .eq 41, 3) := by decide +kernel
theorem dX12_odds_94 : decode cX12_odds 94 = .ok (.aload_n 0, 1) := by decide +kernel
theorem dX12_odds_95 : decode cX12_odds 95 = .ok (.aload_n 0, 1) := by decide +kernel
theorem dX12_odds_96 : decode cX12_odds 96 = .ok (.getfield 69, 3) := by decide +kernel
theorem dX12_odds_99 : decode cX12_odds 99 = .ok (.iload 4, 2) := by decide +kernel
theorem dX12_odds_101 : decode cX12_odds 101 = .ok (.iaload, 1) := by decide +kernel
theorem dX12_odds_102 : decode cX12_odds 102 = .ok (.aload_n 0, 1) := by decide +kernel
theorem dX12_odds_103 : decode cX12_odds 103 = .ok (.getfield 72, 3) := by decide +kernel
theorem dX12_odds_106 : decode cX12_odds 106 = .ok (.iload 4, 2) := by decide +kernel
theorem dX12_odds_108 : decode cX12_odds 108 = .ok (.iaload, 1) := by decide +kernel
theorem dX12_odds_109 : decode cX12_odds 109 = .ok (.aload_n 0, 1) := by decide +kernel
theorem dX12_odds_110 : decode cX12_odds 110 = .ok (.getfield 26, 3) := by decide +kernel
theorem dX12_odds_113 : decode cX12_odds 113 = .ok (.aload_n 0, 1) := by decide +kernel
theorem dX12_odds_114 : decode cX12_odds 114 = .ok (.getfield 69, 3) := by decide +kernel
theorem dX12_odds_117 : decode cX12_odds 117 = .ok (.iload 4, 2) := by decide +kernel
theorem dX12_odds_119 : decode cX12_odds 119 = .ok (.iaload, 1) := by decide +kernel
theorem dX12_odds_120 : decode cX12_odds 120 = .ok (.iaload, 1) := by decide +kernel
theorem dX12_odds_121 : decode cX12_odds 121 = .ok (.if_icmp .ne 7, 3) := by decide +kernel
theorem dX12_odds_124 : decode cX12_odds 124 = .ok (.iconst 1, 1) := by decide +kernel
theorem dX12_odds_125 : decode cX12_odds 125 = .ok (.goto 4, 3) := by decide +kernel
theorem dX12_odds_128 : decode cX12_odds 128 = .ok (.iconst 0, 1) := by decide +kernel
theorem dX12_odds_129 : decode cX12_odds 129 = .ok (.invokevirtual 379, 3) := by decide +kernel
theorem dX12_odds_132 : decode cX12_odds 132 = .ok (.iinc 4 1, 3) := by decide +kernel
theorem dX12_odds_135 : decode cX12_odds 135 = .ok (.goto (-70), 3) := by decide +kernel
theorem dX12_odds_138 : decode cX12_odds 138 = .ok (.goto 91, 3) := by decide +kernel
theorem dX12_odds_141 : decode cX12_odds 141 = .ok (.iconst 0, 1) := by decide +kernel
theorem dX12_odds_142 : decode cX12_odds 142 = .ok (.istore 4, 2) := by decide +kernel
theorem dX12_odds_144 : decode cX12_odds 144 = .ok (.iload 4, 2) := by decide +kernel
theorem dX12_odds_146 : decode cX12_odds 146 = .ok (.aload_n 0, 1) := by decide +kernel
theorem dX12_odds_147 : decode cX12_odds 147 = .ok (.getfield 198, 3) := by decide +kernel
theorem dX12_odds_150 : decode cX12_odds 150 = .ok (.if_icmp .ge 79, 3) := by decide +kernel
theorem dX12_odds_153 : decode cX12_odds 153 = .ok (.aload_n 0, 1) := by decide +kernel
theorem dX12_odds_154 : decode cX12_odds 154 = .ok (.iload 4, 2) := by decide +kernel
theorem dX12_odds_156 : decode cX12_odds 156 = .ok (.invokevirtual 321, 3) := by decide +kernel
theorem dX12_odds_159 : decode cX12_odds 159 = .ok (.ifCond .eq 64, 3) := by decide +kernel
theorem dX12_odds_162 : decode cX12_odds 162 = .ok (.aload_n 0, 1) := by decide +kernel
theorem dX12_odds_163 : decode cX12_odds 163 = .ok (.getfield 54, 3) := by decide +kernel
theorem dX12_odds_166 : decode cX12_odds 166 = .ok (.iload 4, 2) := by decide +kernel
theorem dX12_odds_168 : decode cX12_odds 168 = .ok (.iaload, 1) := by decide +kernel
theorem dX12_odds_169 : decode cX12_odds 169 = .ok (.iload_n 1, 1) := by decide +kernel
theorem dX12_odds_170 : decode cX12_odds 170 = .ok (.if_icmp .eq 6, 3) := by decide +kernel
theorem dX12_odds_173 : decode cX12_odds 173 = .ok (.goto 50, 3) := by decide +kernel
theorem dX12_odds_176 : decode cX12_odds 176 = .ok (.aload_n 0, 1) := by decide +kernel
theorem dX12_odds_177 : decode cX12_odds 177 = .ok (.iload 4, 2) := by decide +kernel
theorem dX12_odds_179 : decode cX12_odds 179 = .ok (.invokevirtual 355, 3) := by decide +kernel
theorem dX12_odds_182 : decode cX12_odds 182 = .ok (.istore 5, 2) := by decide +kernel
theorem dX12_odds_184 : decode cX12_odds 184 = .ok (.iload 5, 2) := by decide +kernel
theorem dX12_odds_186 : decode cX12_odds 186 = .ok (.bipush 14, 2) := by decide +kernel
theorem dX12_odds_188 : decode cX12_odds 188 = .ok (.iand, 1) := by decide +kernel
theorem dX12_odds_189 : decode cX12_odds 189 = .ok (.iconst 2, 1) := by decide +kernel
theorem dX12_odds_190 : decode cX12_odds 190 = .ok (.if_icmp .ne 33, 3) := by decide +kernel
theorem dX12_odds_193 : decode cX12_odds 193 = .ok (.iload_n 2, 1) := by decide +kernel
theorem dX12_odds_194 : decode cX12_odds 194 = .ok (.iconst 1, 1) := by decide +kernel
theorem dX12_odds_195 : decode cX12_odds 195 = .ok (.if_icmp .eq 11, 3) := by decide +kernel
theorem dX12_odds_198 : decode cX12_odds 198 = .ok (.iload 5, 2) := by decide +kernel
theorem dX12_odds_200 : decode cX12_odds 200 = .ok (.bipush 16, 2) := by decide +kernel
theorem dX12_odds_202 : decode cX12_odds 202 = .ok (.iand, 1) := by decide +kernel
theorem dX12_odds_203 : decode cX12_odds 203 = .ok (.ifCond .ne 20, 3) := by decide +kernel
theorem dX12_odds_206 : decode cX12_odds 206 = .ok (.aload_n 0, 1) := by decide +kernel
theorem dX12_odds_207 : decode cX12_odds 207 = .ok (.aload_n 0, 1) := by decide +kernel
theorem dX12_odds_208 : decode cX12_odds 208 = .ok (.getfield 60, 3) := by decide +kernel
theorem dX12_odds_211 : decode cX12_odds 211 = .ok (.iload 4, 2) := by decide +kernel
theorem dX12_odds_213 : decode cX12_odds 213 = .ok (.iaload, 1) := by decide +kernel
theorem dX12_odds_214 : decode cX12_odds 214 = .ok (.aload_n 0, 1) := by decide +kernel
theorem dX12_odds_215 : decode cX12_odds 215 = .ok (.iload 4, 2) := by decide +kernel
theorem dX12_odds_217 : decode cX12_odds 217 = .ok (.invokevirtual 343, 3) := by decide +kernel
theorem dX12_odds_220 : decode cX12_odds 220 = .ok (.invokevirtual 379, 3) := by decide +kernel
theorem dX12_odds_223 : decode cX12_odds 223 = .ok (.iinc 4 1, 3) := by decide +kernel
theorem dX12_odds_226 : decode cX12_odds 226 = .ok (.goto (-82), 3) := by decide +kernel
theorem dX12_odds_229 : decode cX12_odds 229 = .ok (.iload_n 3, 1) := by decide +kernel
theorem dX12_odds_230 : decode cX12_odds 230 = .ok (.ifCond .ne 10, 3) := by decide +kernel
theorem dX12_odds_233 : decode cX12_odds 233 = .ok (.aload_n 0, 1) := by decide +kernel
theorem dX12_odds_234 : decode cX12_odds 234 = .ok (.getfield 358, 3) := by decide +kernel
theorem dX12_odds_237 : decode cX12_odds 237 = .ok (.goto 7, 3) := by decide +kernel
theorem dX12_odds_240 : decode cX12_odds 240 = .ok (.aload_n 0, 1) := by decide +kernel
theorem dX12_odds_241 : decode cX12_odds 241 = .ok (.getfield 362, 3) := by decide +kernel
theorem dX12_odds_244 : decode cX12_odds 244 = .ok (.lreturn, 1) := by decide +kernel
theorem dX12_latestWord_0 : decode cX12_latestWord 0 = .ok (.iconst (-1), 1) := by decide +kernel
theorem dX12_latestWord_1 : decode cX12_latestWord 1 = .ok (.istore_n 3, 1) := by decide +kernel
theorem dX12_latestWord_2 : decode cX12_latestWord 2 = .ok (.iconst 0, 1) := by decide +kernel
theorem dX12_latestWord_3 : decode cX12_latestWord 3 = .ok (.istore 4, 2) := by decide +kernel
theorem dX12_latestWord_5 : decode cX12_latestWord 5 = .ok (.iload 4, 2) := by decide +kernel
theorem dX12_latestWord_7 : decode cX12_latestWord 7 = .ok (.aload_n 0, 1) := by decide +kernel
theorem dX12_latestWord_8 : decode cX12_latestWord 8 = .ok (.getfield 198, 3) := by decide +kernel
theorem dX12_latestWord_11 : decode cX12_latestWord 11 = .ok (.if_icmp .ge 27, 3) := by decide +kernel
theorem dX12_latestWord_14 : decode cX12_latestWord 14 = .ok (.aload_n 0, 1) := by decide +kernel
theorem dX12_latestWord_15 : decode cX12_latestWord 15 = .ok (.iload 4, 2) := by decide +kernel
theorem dX12_latestWord_17 : decode cX12_latestWord 17 = .ok (.iload_n 1, 1) := by decide +kernel
theorem dX12_latestWord_18 : decode cX12_latestWord 18 = .ok (.iload_n 2, 1) := by decide +kernel
theorem dX12_latestWord_19 : decode cX12_latestWord 19 = .ok (.invokevirtual 331, 3) := by decide +kernel
theorem dX12_latestWord_22 : decode cX12_latestWord 22 = .ok (.ifCond .eq 8, 3) := by decide +kernel
theorem dX12_latestWord_25 : decode cX12_latestWord 25 = .ok (.iload 4, 2) := by decide +kernel
theorem dX12_latestWord_27 : decode cX12_latestWord 27 = .ok (.goto 4, 3) := by decide +kernel
theorem dX12_latestWord_30 : decode cX12_latestWord 30 = .ok (.iload_n 3, 1) := by decide +kernel
theorem dX12_latestWord_31 : decode cX12_latestWord 31 = .ok (.istore_n 3, 1) := by decide +kernel
theorem dX12_latestWord_32 : decode cX12_latestWord 32 = .ok (.iinc 4 1, 3) := by decide +kernel
theorem dX12_latestWord_35 : decode cX12_latestWord 35 = .ok (.goto (-30), 3) := by decide +kernel
theorem dX12_latestWord_38 : decode cX12_latestWord 38 = .ok (.iload_n 3, 1) := by decide +kernel
theorem dX12_latestWord_39 : decode cX12_latestWord 39 = .ok (.ireturn, 1) := by decide +kernel
theorem dX12_firstSaid_0 : decode cX12_firstSaid 0 = .ok (.iconst 0, 1) := by decide +kernel
theorem dX12_firstSaid_1 : decode cX12_firstSaid 1 = .ok (.istore 4, 2) := by decide +kernel
theorem dX12_firstSaid_3 : decode cX12_firstSaid 3 = .ok (.iload 4, 2) := by decide +kernel
theorem dX12_firstSaid_5 : decode cX12_firstSaid 5 = .ok (.aload_n 0, 1) := by decide +kernel
theorem dX12_firstSaid_6 : decode cX12_firstSaid 6 = .ok (.getfield 198, 3) := by decide +kernel
theorem dX12_firstSaid_9 : decode cX12_firstSaid 9 = .ok (.if_icmp .ge 34, 3) := by decide +kernel
theorem dX12_firstSaid_12 : decode cX12_firstSaid 12 = .ok (.aload_n 0, 1) := by decide +kernel
theorem dX12_firstSaid_13 : decode cX12_firstSaid 13 = .ok (.iload 4, 2) := by decide +kernel
theorem dX12_firstSaid_15 : decode cX12_firstSaid 15 = .ok (.iload_n 1, 1) := by decide +kernel
theorem dX12_firstSaid_16 : decode cX12_firstSaid 16 = .ok (.iload_n 2, 1) := by decide +kernel
theorem dX12_firstSaid_17 : decode cX12_firstSaid 17 = .ok (.invokevirtual 331, 3) := by decide +kernel
theorem dX12_firstSaid_20 : decode cX12_firstSaid 20 = .ok (.ifCond .eq 17, 3) := by decide +kernel
theorem dX12_firstSaid_23 : decode cX12_firstSaid 23 = .ok (.aload_n 0, 1) := by decide +kernel
theorem dX12_firstSaid_24 : decode cX12_firstSaid 24 = .ok (.getfield 63, 3) := by decide +kernel
theorem dX12_firstSaid_27 : decode cX12_firstSaid 27 = .ok (.iload 4, 2) := by decide +kernel
theorem dX12_firstSaid_29 : decode cX12_firstSaid 29 = .ok (.iaload, 1) := by decide +kernel
theorem dX12_firstSaid_30 : decode cX12_firstSaid 30 = .ok (.iload_n 3, 1) := by decide +kernel
theorem dX12_firstSaid_31 : decode cX12_firstSaid 31 = .ok (.if_icmp .ne 6, 3) := by decide +kernel
theorem dX12_firstSaid_34 : decode cX12_firstSaid 34 = .ok (.iload 4, 2) := by decide +kernel
theorem dX12_firstSaid_36 : decode cX12_firstSaid 36 = .ok (.ireturn, 1) := by decide +kernel
theorem dX12_firstSaid_37 : decode cX12_firstSaid 37 = .ok (.iinc 4 1, 3) := by decide +kernel
theorem dX12_firstSaid_40 : decode cX12_firstSaid 40 = .ok (.goto (-37), 3) := by decide +kernel
theorem dX12_firstSaid_43 : decode cX12_firstSaid 43 = .ok (.iconst (-1), 1) := by decide +kernel
theorem dX12_firstSaid_44 : decode cX12_firstSaid 44 = .ok (.ireturn, 1) := by decide +kernel
theorem dX12_pageIs_0 : decode cX12_pageIs 0 = .ok (.aload_n 0, 1) := by decide +kernel
theorem dX12_pageIs_1 : decode cX12_pageIs 1 = .ok (.aload_n 0, 1) := by decide +kernel
theorem dX12_pageIs_2 : decode cX12_pageIs 2 = .ok (.getfield 66, 3) := by decide +kernel
theorem dX12_pageIs_5 : decode cX12_pageIs 5 = .ok (.iload_n 1, 1) := by decide +kernel
theorem dX12_pageIs_6 : decode cX12_pageIs 6 = .ok (.iaload, 1) := by decide +kernel
theorem dX12_pageIs_7 : decode cX12_pageIs 7 = .ok (.aload_n 0, 1) := by decide +kernel
theorem dX12_pageIs_8 : decode cX12_pageIs 8 = .ok (.getfield 69, 3) := by decide +kernel
theorem dX12_pageIs_11 : decode cX12_pageIs 11 = .ok (.iload_n 1, 1) := by decide +kernel
theorem dX12_pageIs_12 : decode cX12_pageIs 12 = .ok (.iaload, 1) := by decide +kernel
theorem dX12_pageIs_13 : decode cX12_pageIs 13 = .ok (.invokevirtual 383, 3) := by decide +kernel
theorem dX12_pageIs_16 : decode cX12_pageIs 16 = .ok (.istore_n 2, 1) := by decide +kernel
theorem dX12_pageIs_17 : decode cX12_pageIs 17 = .ok (.iload_n 2, 1) := by decide +kernel
theorem dX12_pageIs_18 : decode cX12_pageIs 18 = .ok (.ifCond .ge 5, 3) := by decide +kernel
theorem dX12_pageIs_21 : decode cX12_pageIs 21 = .ok (.iconst 3, 1) := by decide +kernel
theorem dX12_pageIs_22 : decode cX12_pageIs 22 = .ok (.ireturn, 1) := by decide +kernel
theorem dX12_pageIs_23 : decode cX12_pageIs 23 = .ok (.aload_n 0, 1) := by decide +kernel
theorem dX12_pageIs_24 : decode cX12_pageIs 24 = .ok (.getfield 63, 3) := by decide +kernel
theorem dX12_pageIs_27 : decode cX12_pageIs 27 = .ok (.iload_n 2, 1) := by decide +kernel
theorem dX12_pageIs_28 : decode cX12_pageIs 28 = .ok (.iaload, 1) := by decide +kernel
theorem dX12_pageIs_29 : decode cX12_pageIs 29 = .ok (.aload_n 0, 1) := by decide +kernel
theorem dX12_pageIs_30 : decode cX12_pageIs 30 = .ok (.getfield 72, 3) := by decide +kernel
theorem dX12_pageIs_33 : decode cX12_pageIs 33 = .ok (.iload_n 1, 1) := by decide +kernel
theorem dX12_pageIs_34 : decode cX12_pageIs 34 = .ok (.iaload, 1) := by decide +kernel
theorem dX12_pageIs_35 : decode cX12_pageIs 35 = .ok (.if_icmp .ne 5, 3) := by decide +kernel
theorem dX12_pageIs_38 : decode cX12_pageIs 38 = .ok (.iconst 0, 1) := by decide +kernel
theorem dX12_pageIs_39 : decode cX12_pageIs 39 = .ok (.ireturn, 1) := by decide +kernel
theorem dX12_pageIs_40 : decode cX12_pageIs 40 = .ok (.aload_n 0, 1) := by decide +kernel
theorem dX12_pageIs_41 : decode cX12_pageIs 41 = .ok (.aload_n 0, 1) := by decide +kernel
theorem dX12_pageIs_42 : decode cX12_pageIs 42 = .ok (.getfield 66, 3) := by decide +kernel
theorem dX12_pageIs_45 : decode cX12_pageIs 45 = .ok (.iload_n 1, 1) := by decide +kernel
theorem dX12_pageIs_46 : decode cX12_pageIs 46 = .ok (.iaload, 1) := by decide +kernel
theorem dX12_pageIs_47 : decode cX12_pageIs 47 = .ok (.aload_n 0, 1) := by decide +kernel
theorem dX12_pageIs_48 : decode cX12_pageIs 48 = .ok (.getfield 69, 3) := by decide +kernel
theorem dX12_pageIs_51 : decode cX12_pageIs 51 = .ok (.iload_n 1, 1) := by decide +kernel
theorem dX12_pageIs_52 : decode cX12_pageIs 52 = .ok (.iaload, 1) := by decide +kernel
theorem dX12_pageIs_53 : decode cX12_pageIs 53 = .ok (.aload_n 0, 1) := by decide +kernel
theorem dX12_pageIs_54 : decode cX12_pageIs 54 = .ok (.getfield 72, 3) := by decide +kernel
theorem dX12_pageIs_57 : decode cX12_pageIs 57 = .ok (.iload_n 1, 1) := by decide +kernel
theorem dX12_pageIs_58 : decode cX12_pageIs 58 = .ok (.iaload, 1) := by decide +kernel
theorem dX12_pageIs_59 : decode cX12_pageIs 59 = .ok (.invokevirtual 386, 3) := by decide +kernel
theorem dX12_pageIs_62 : decode cX12_pageIs 62 = .ok (.ifCond .lt 7, 3) := by decide +kernel
theorem dX12_pageIs_65 : decode cX12_pageIs 65 = .ok (.iconst 1, 1) := by decide +kernel
theorem dX12_pageIs_66 : decode cX12_pageIs 66 = .ok (.goto 4, 3) := by decide +kernel
theorem dX12_pageIs_69 : decode cX12_pageIs 69 = .ok (.iconst 2, 1) := by decide +kernel
theorem dX12_pageIs_70 : decode cX12_pageIs 70 = .ok (.ireturn, 1) := by decide +kernel
theorem dX12_page_0 : decode cX12_page 0 = .ok (.aload_n 0, 1) := by decide +kernel
theorem dX12_page_1 : decode cX12_page 1 = .ok (.iconst 0, 1) := by decide +kernel
theorem dX12_page_2 : decode cX12_page 2 = .ok (.putfield 124, 3) := by decide +kernel
theorem dX12_page_5 : decode cX12_page 5 = .ok (.iload_n 1, 1) := by decide +kernel
theorem dX12_page_6 : decode cX12_page 6 = .ok (.ifCond .lt 11, 3) := by decide +kernel
theorem dX12_page_9 : decode cX12_page 9 = .ok (.iload_n 1, 1) := by decide +kernel
theorem dX12_page_10 : decode cX12_page 10 = .ok (.aload_n 0, 1) := by decide +kernel
theorem dX12_page_11 : decode cX12_page 11 = .ok (.getfield 201, 3) := by decide +kernel
theorem dX12_page_14 : decode cX12_page 14 = .ok (.if_icmp .lt 7, 3) := by decide +kernel
theorem dX12_page_17 : decode cX12_page 17 = .ok (.iconst (-1), 1) := by decide +kernel
theorem dX12_page_18 : decode cX12_page 18 = .ok (.goto 8, 3) := by decide +kernel
theorem dX12_page_21 : decode cX12_page 21 = .ok (.aload_n 0, 1) := by decide +kernel
theorem dX12_page_22 : decode cX12_page 22 = .ok (.iload_n 1, 1) := by decide +kernel
theorem dX12_page_23 : decode cX12_page 23 = .ok (.invokevirtual 389, 3) := by decide +kernel
theorem dX12_page_26 : decode cX12_page 26 = .ok (.ireturn, 1) := by decide +kernel
theorem dX12_isOnPage_0 : decode cX12_isOnPage 0 = .ok (.iconst 0, 1) := by decide +kernel
theorem dX12_isOnPage_1 : decode cX12_isOnPage 1 = .ok (.istore 4, 2) := by decide +kernel
theorem dX12_isOnPage_3 : decode cX12_isOnPage 3 = .ok (.iload 4, 2) := by decide +kernel
theorem dX12_isOnPage_5 : decode cX12_isOnPage 5 = .ok (.aload_n 0, 1) := by decide +kernel
theorem dX12_isOnPage_6 : decode cX12_isOnPage 6 = .ok (.getfield 201, 3) := by decide +kernel
theorem dX12_isOnPage_9 : decode cX12_isOnPage 9 = .ok (.if_icmp .ge 44, 3) := by decide +kernel
theorem dX12_isOnPage_12 : decode cX12_isOnPage 12 = .ok (.aload_n 0, 1) := by decide +kernel
theorem dX12_isOnPage_13 : decode cX12_isOnPage 13 = .ok (.getfield 66, 3) := by decide +kernel
theorem dX12_isOnPage_16 : decode cX12_isOnPage 16 = .ok (.iload 4, 2) := by decide +kernel
theorem dX12_isOnPage_18 : decode cX12_isOnPage 18 = .ok (.iaload, 1) := by decide +kernel
theorem dX12_isOnPage_19 : decode cX12_isOnPage 19 = .ok (.iload_n 1, 1) := by decide +kernel
theorem dX12_isOnPage_20 : decode cX12_isOnPage 20 = .ok (.if_icmp .ne 27, 3) := by decide +kernel
theorem dX12_isOnPage_23 : decode cX12_isOnPage 23 = .ok (.aload_n 0, 1) := by decide +kernel
theorem dX12_isOnPage_24 : decode cX12_isOnPage 24 = .ok (.getfield 69, 3) := by decide +kernel
theorem dX12_isOnPage_27 : decode cX12_isOnPage 27 = .ok (.iload 4, 2) := by decide +kernel
theorem dX12_isOnPage_29 : decode cX12_isOnPage 29 = .ok (.iaload, 1) := by decide +kernel
theorem dX12_isOnPage_30 : decode cX12_isOnPage 30 = .ok (.iload_n 2, 1) := by decide +kernel
theorem dX12_isOnPage_31 : decode cX12_isOnPage 31 = .ok (.if_icmp .ne 16, 3) := by decide +kernel
theorem dX12_isOnPage_34 : decode cX12_isOnPage 34 = .ok (.aload_n 0, 1) := by decide +kernel
theorem dX12_isOnPage_35 : decode cX12_isOnPage 35 = .ok (.getfield 72, 3) := by decide +kernel
theorem dX12_isOnPage_38 : decode cX12_isOnPage 38 = .ok (.iload 4, 2) := by decide +kernel
theorem dX12_isOnPage_40 : decode cX12_isOnPage 40 = .ok (.iaload, 1) := by decide +kernel
theorem dX12_isOnPage_41 : decode cX12_isOnPage 41 = .ok (.iload_n 3, 1) := by decide +kernel
theorem dX12_isOnPage_42 : decode cX12_isOnPage 42 = .ok (.if_icmp .ne 5, 3) := by decide +kernel
theorem dX12_isOnPage_45 : decode cX12_isOnPage 45 = .ok (.iconst 1, 1) := by decide +kernel
theorem dX12_isOnPage_46 : decode cX12_isOnPage 46 = .ok (.ireturn, 1) := by decide +kernel
theorem dX12_isOnPage_47 : decode cX12_isOnPage 47 = .ok (.iinc 4 1, 3) := by decide +kernel
theorem dX12_isOnPage_50 : decode cX12_isOnPage 50 = .ok (.goto (-47), 3) := by decide +kernel
theorem dX12_isOnPage_53 : decode cX12_isOnPage 53 = .ok (.iconst 0, 1) := by decide +kernel
theorem dX12_isOnPage_54 : decode cX12_isOnPage 54 = .ok (.ireturn, 1) := by decide +kernel
theorem dX12_left_0 : decode cX12_left 0 = .ok (.aload_n 0, 1) := by decide +kernel
theorem dX12_left_1 : decode cX12_left 1 = .ok (.iconst 0, 1) := by decide +kernel
theorem dX12_left_2 : decode cX12_left 2 = .ok (.putfield 124, 3) := by decide +kernel
theorem dX12_left_5 : decode cX12_left 5 = .ok (.aload_n 0, 1) := by decide +kernel
theorem dX12_left_6 : decode cX12_left 6 = .ok (.iload_n 1, 1) := by decide +kernel
theorem dX12_left_7 : decode cX12_left 7 = .ok (.invokevirtual 315, 3) := by decide +kernel
theorem dX12_left_10 : decode cX12_left 10 = .ok (.ifCond .ne 5, 3) := by decide +kernel
theorem dX12_left_13 : decode cX12_left 13 = .ok (.iconst (-1), 1) := by decide +kernel
theorem dX12_left_14 : decode cX12_left 14 = .ok (.ireturn, 1) := by decide +kernel
theorem dX12_left_15 : decode cX12_left 15 = .ok (.iconst 0, 1) := by decide +kernel
theorem dX12_left_16 : decode cX12_left 16 = .ok (.istore_n 2, 1) := by decide +kernel
theorem dX12_left_17 : decode cX12_left 17 = .ok (.iconst 0, 1) := by decide +kernel
theorem dX12_left_18 : decode cX12_left 18 = .ok (.istore_n 3, 1) := by decide +kernel
theorem dX12_left_19 : decode cX12_left 19 = .ok (.iload_n 3, 1) := by decide +kernel
theorem dX12_left_20 : decode cX12_left 20 = .ok (.aload_n 0, 1) := by decide +kernel
theorem dX12_left_21 : decode cX12_left 21 = .ok (.getfield 198, 3) := by decide +kernel
theorem dX12_left_24 : decode cX12_left 24 = .ok (.if_icmp .ge 63, 3) := by decide +kernel
theorem dX12_left_27 : decode cX12_left 27 = .ok (.iload_n 2, 1) := by decide +kernel
theorem dX12_left_28 : decode cX12_left 28 = .ok (.aload_n 0, 1) := by decide +kernel
theorem dX12_left_29 : decode cX12_left 29 = .ok (.iload_n 3, 1) := by decide +kernel
theorem dX12_left_30 : decode cX12_left 30 = .ok (.invokevirtual 321, 3) := by decide +kernel
theorem dX12_left_33 : decode cX12_left 33 = .ok (.ifCond .eq 45, 3) := by decide +kernel
theorem dX12_left_36 : decode cX12_left 36 = .ok (.aload_n 0, 1) := by decide +kernel
theorem dX12_left_37 : decode cX12_left 37 = .ok (.getfield 54, 3) := by decide +kernel
theorem dX12_left_40 : decode cX12_left 40 = .ok (.iload_n 3, 1) := by decide +kernel
theorem dX12_left_41 : decode cX12_left 41 = .ok (.iaload, 1) := by decide +kernel
theorem dX12_left_42 : decode cX12_left 42 = .ok (.iload_n 1, 1) := by decide +kernel
theorem dX12_left_43 : decode cX12_left 43 = .ok (.if_icmp .ne 35, 3) := by decide +kernel
theorem dX12_left_46 : decode cX12_left 46 = .ok (.aload_n 0, 1) := by decide +kernel
theorem dX12_left_47 : decode cX12_left 47 = .ok (.iload_n 3, 1) := by decide +kernel
theorem dX12_left_48 : decode cX12_left 48 = .ok (.invokevirtual 343, 3) := by decide +kernel
theorem dX12_left_51 : decode cX12_left 51 = .ok (.ifCond .ne 27, 3) := by decide +kernel
theorem dX12_left_54 : decode cX12_left 54 = .ok (.aload_n 0, 1) := by decide +kernel
theorem dX12_left_55 : decode cX12_left 55 = .ok (.iload_n 1, 1) := by decide +kernel
theorem dX12_left_56 : decode cX12_left 56 = .ok (.aload_n 0, 1) := by decide +kernel
theorem dX12_left_57 : decode cX12_left 57 = .ok (.getfield 60, 3) := by decide +kernel
theorem dX12_left_60 : decode cX12_left 60 = .ok (.iload_n 3, 1) := by decide +kernel
theorem dX12_left_61 : decode cX12_left 61 = .ok (.iaload, 1) := by decide +kernel
theorem dX12_left_62 : decode cX12_left 62 = .ok (.aload_n 0, 1) := by decide +kernel
theorem dX12_left_63 : decode cX12_left 63 = .ok (.getfield 63, 3) := by decide +kernel
theorem dX12_left_66 : decode cX12_left 66 = .ok (.iload_n 3, 1) := by decide +kernel
theorem dX12_left_67 : decode cX12_left 67 = .ok (.iaload, 1) := by decide +kernel
theorem dX12_left_68 : decode cX12_left 68 = .ok (.invokevirtual 392, 3) := by decide +kernel
theorem dX12_left_71 : decode cX12_left 71 = .ok (.ifCond .ne 7, 3) := by decide +kernel
theorem dX12_left_74 : decode cX12_left 74 = .ok (.iconst 1, 1) := by decide +kernel
theorem dX12_left_75 : decode cX12_left 75 = .ok (.goto 4, 3) := by decide +kernel
theorem dX12_left_78 : decode cX12_left 78 = .ok (.iconst 0, 1) := by decide +kernel
theorem dX12_left_79 : decode cX12_left 79 = .ok (.iadd, 1) := by decide +kernel
theorem dX12_left_80 : decode cX12_left 80 = .ok (.istore_n 2, 1) := by decide +kernel
theorem dX12_left_81 : decode cX12_left 81 = .ok (.iinc 3 1, 3) := by decide +kernel
theorem dX12_left_84 : decode cX12_left 84 = .ok (.goto (-65), 3) := by decide +kernel
theorem dX12_left_87 : decode cX12_left 87 = .ok (.iload_n 2, 1) := by decide +kernel
theorem dX12_left_88 : decode cX12_left 88 = .ok (.ireturn, 1) := by decide +kernel
theorem dX12_moved_0 : decode cX12_moved 0 = .ok (.aload_n 0, 1) := by decide +kernel
theorem dX12_moved_1 : decode cX12_moved 1 = .ok (.iconst 0, 1) := by decide +kernel
theorem dX12_moved_2 : decode cX12_moved 2 = .ok (.putfield 124, 3) := by decide +kernel
theorem dX12_moved_5 : decode cX12_moved 5 = .ok (.aload_n 0, 1) := by decide +kernel
theorem dX12_moved_6 : decode cX12_moved 6 = .ok (.iload_n 1, 1) := by decide +kernel
theorem dX12_moved_7 : decode cX12_moved 7 = .ok (.invokevirtual 315, 3) := by decide +kernel
theorem dX12_moved_10 : decode cX12_moved 10 = .ok (.ifCond .ne 5, 3) := by decide +kernel
theorem dX12_moved_13 : decode cX12_moved 13 = .ok (.iconst (-1), 1) := by decide +kernel
theorem dX12_moved_14 : decode cX12_moved 14 = .ok (.ireturn, 1) := by decide +kernel
theorem dX12_moved_15 : decode cX12_moved 15 = .ok (.iconst 0, 1) := by decide +kernel
theorem dX12_moved_16 : decode cX12_moved 16 = .ok (.istore_n 2, 1) := by decide +kernel
theorem dX12_moved_17 : decode cX12_moved 17 = .ok (.iconst 0, 1) := by decide +kernel
theorem dX12_moved_18 : decode cX12_moved 18 = .ok (.istore_n 3, 1) := by decide +kernel
theorem dX12_moved_19 : decode cX12_moved 19 = .ok (.iconst 0, 1) := by decide +kernel
theorem dX12_moved_20 : decode cX12_moved 20 = .ok (.istore 4, 2) := by decide +kernel
theorem dX12_moved_22 : decode cX12_moved 22 = .ok (.iload 4, 2) := by decide +kernel
theorem dX12_moved_24 : decode cX12_moved 24 = .ok (.aload_n 0, 1) := by decide +kernel
theorem dX12_moved_25 : decode cX12_moved 25 = .ok (.getfield 201, 3) := by decide +kernel
theorem dX12_moved_28 : decode cX12_moved 28 = .ok (.if_icmp .ge 151, 3) := by decide +kernel
theorem dX12_moved_31 : decode cX12_moved 31 = .ok (.aload_n 0, 1) := by decide +kernel
theorem dX12_moved_32 : decode cX12_moved 32 = .ok (.getfield 66, 3) := by decide +kernel
theorem dX12_moved_35 : decode cX12_moved 35 = .ok (.iload 4, 2) := by decide +kernel
theorem dX12_moved_37 : decode cX12_moved 37 = .ok (.iaload, 1) := by decide +kernel
theorem dX12_moved_38 : decode cX12_moved 38 = .ok (.iload_n 1, 1) := by decide +kernel
theorem dX12_moved_39 : decode cX12_moved 39 = .ok (.if_icmp .ne 134, 3) := by decide +kernel
theorem dX12_moved_42 : decode cX12_moved 42 = .ok (.aload_n 0, 1) := by decide +kernel
theorem dX12_moved_43 : decode cX12_moved 43 = .ok (.iload 4, 2) := by decide +kernel
theorem dX12_moved_45 : decode cX12_moved 45 = .ok (.invokevirtual 389, 3) := by decide +kernel
theorem dX12_moved_48 : decode cX12_moved 48 = .ok (.iconst 1, 1) := by decide +kernel
theorem dX12_moved_49 : decode cX12_moved 49 = .ok (.if_icmp .le 6, 3) := by decide +kernel
theorem dX12_moved_52 : decode cX12_moved 52 = .ok (.goto 121, 3) := by decide +kernel
theorem dX12_moved_55 : decode cX12_moved 55 = .ok (.aload_n 0, 1) := by decide +kernel
theorem dX12_moved_56 : decode cX12_moved 56 = .ok (.getfield 105, 3) := by decide +kernel
theorem dX12_moved_59 : decode cX12_moved 59 = .ok (.iload_n 2, 1) := by decide +kernel
theorem dX12_moved_60 : decode cX12_moved 60 = .ok (.aload_n 0, 1) := by decide +kernel
theorem dX12_moved_61 : decode cX12_moved 61 = .ok (.iload_n 1, 1) := by decide +kernel
theorem dX12_moved_62 : decode cX12_moved 62 = .ok (.aload_n 0, 1) := by decide +kernel
theorem dX12_moved_63 : decode cX12_moved 63 = .ok (.getfield 69, 3) := by decide +kernel
theorem dX12_moved_66 : decode cX12_moved 66 = .ok (.iload 4, 2) := by decide +kernel
theorem dX12_moved_68 : decode cX12_moved 68 = .ok (.iaload, 1) := by decide +kernel
theorem dX12_moved_69 : decode cX12_moved 69 = .ok (.aload_n 0, 1) := by decide +kernel
theorem dX12_moved_70 : decode cX12_moved 70 = .ok (.getfield 72, 3) := by decide +kernel
theorem dX12_moved_73 : decode cX12_moved 73 = .ok (.iload 4, 2) := by decide +kernel
theorem dX12_moved_75 : decode cX12_moved 75 = .ok (.iaload, 1) := by decide +kernel
theorem dX12_moved_76 : decode cX12_moved 76 = .ok (.invokevirtual 386, 3) := by decide +kernel
theorem dX12_moved_79 : decode cX12_moved 79 = .ok (.iastore, 1) := by decide +kernel
theorem dX12_moved_80 : decode cX12_moved 80 = .ok (.aload_n 0, 1) := by decide +kernel
theorem dX12_moved_81 : decode cX12_moved 81 = .ok (.getfield 108, 3) := by decide +kernel
theorem dX12_moved_84 : decode cX12_moved 84 = .ok (.iload_n 2, 1) := by decide +kernel
theorem dX12_moved_85 : decode cX12_moved 85 = .ok (.iconst 1, 1) := by decide +kernel
theorem dX12_moved_86 : decode cX12_moved 86 = .ok (.iastore, 1) := by decide +kernel
theorem dX12_moved_87 : decode cX12_moved 87 = .ok (.iconst 0, 1) := by decide +kernel
theorem dX12_moved_88 : decode cX12_moved 88 = .ok (.istore 5, 2) := by decide +kernel
theorem dX12_moved_90 : decode cX12_moved 90 = .ok (.iload 5, 2) := by decide +kernel
theorem dX12_moved_92 : decode cX12_moved 92 = .ok (.iload_n 2, 1) := by decide +kernel
theorem dX12_moved_93 : decode cX12_moved 93 = .ok (.if_icmp .ge 56, 3) := by decide +kernel
theorem dX12_moved_96 : decode cX12_moved 96 = .ok (.aload_n 0, 1) := by decide +kernel
theorem dX12_moved_97 : decode cX12_moved 97 = .ok (.getfield 105, 3) := by decide +kernel
theorem dX12_moved_100 : decode cX12_moved 100 = .ok (.iload 5, 2) := by decide +kernel
theorem dX12_moved_102 : decode cX12_moved 102 = .ok (.iaload, 1) := by decide +kernel
theorem dX12_moved_103 : decode cX12_moved 103 = .ok (.aload_n 0, 1) := by decide +kernel
theorem dX12_moved_104 : decode cX12_moved 104 = .ok (.getfield 105, 3) := by decide +kernel
theorem dX12_moved_107 : decode cX12_moved 107 = .ok (.iload_n 2, 1) := by decide +kernel
theorem dX12_moved_108 : decode cX12_moved 108 = .ok (.iaload, 1) := by decide +kernel
theorem dX12_moved_109 : decode cX12_moved 109 = .ok (.if_icmp .gt 34, 3) := by decide +kernel
theorem dX12_moved_112 : decode cX12_moved 112 = .ok (.aload_n 0, 1) := by decide +kernel
theorem dX12_moved_113 : decode cX12_moved 113 = .ok (.getfield 108, 3) := by decide +kernel
theorem dX12_moved_116 : decode cX12_moved 116 = .ok (.iload 5, 2) := by decide +kernel
theorem dX12_moved_118 : decode cX12_moved 118 = .ok (.iaload, 1) := by decide +kernel
theorem dX12_moved_119 : decode cX12_moved 119 = .ok (.aload_n 0, 1) := by decide +kernel
theorem dX12_moved_120 : decode cX12_moved 120 = .ok (.getfield 108, 3) := by decide +kernel
theorem dX12_moved_123 : decode cX12_moved 123 = .ok (.iload_n 2, 1) := by decide +kernel
theorem dX12_moved_124 : decode cX12_moved 124 = .ok (.iaload, 1) := by decide +kernel
theorem dX12_moved_125 : decode cX12_moved 125 = .ok (.if_icmp .lt 18, 3) := by decide +kernel
theorem dX12_moved_128 : decode cX12_moved 128 = .ok (.aload_n 0, 1) := by decide +kernel
theorem dX12_moved_129 : decode cX12_moved 129 = .ok (.getfield 108, 3) := by decide +kernel
theorem dX12_moved_132 : decode cX12_moved 132 = .ok (.iload_n 2, 1) := by decide +kernel
theorem dX12_moved_133 : decode cX12_moved 133 = .ok (.aload_n 0, 1) := by decide +kernel
theorem dX12_moved_134 : decode cX12_moved 134 = .ok (.getfield 108, 3) := by decide +kernel
theorem dX12_moved_137 : decode cX12_moved 137 = .ok (.iload 5, 2) := by decide +kernel
theorem dX12_moved_139 : decode cX12_moved 139 = .ok (.iaload, 1) := by decide +kernel
theorem dX12_moved_140 : decode cX12_moved 140 = .ok (.iconst 1, 1) := by decide +kernel
theorem dX12_moved_141 : decode cX12_moved 141 = .ok (.iadd, 1) := by decide +kernel
theorem dX12_moved_142 : decode cX12_moved 142 = .ok (.iastore, 1) := by decide +kernel
theorem dX12_moved_143 : decode cX12_moved 143 = .ok (.iinc 5 1, 3) := by decide +kernel
theorem dX12_moved_146 : decode cX12_moved 146 = .ok (.goto (-56), 3) := by decide +kernel
theorem dX12_moved_149 : decode cX12_moved 149 = .ok (.aload_n 0, 1) := by decide +kernel
theorem dX12_moved_150 : decode cX12_moved 150 = .ok (.getfield 108, 3) := by decide +kernel
theorem dX12_moved_153 : decode cX12_moved 153 = .ok (.iload_n 2, 1) := by decide +kernel
theorem dX12_moved_154 : decode cX12_moved 154 = .ok (.iaload, 1) := by decide +kernel
theorem dX12_moved_155 : decode cX12_moved 155 = .ok (.iload_n 3, 1) := by decide +kernel
theorem dX12_moved_156 : decode cX12_moved 156 = .ok (.if_icmp .le 12, 3) := by decide +kernel
theorem dX12_moved_159 : decode cX12_moved 159 = .ok (.aload_n 0, 1) := by decide +kernel
theorem dX12_moved_160 : decode cX12_moved 160 = .ok (.getfield 108, 3) := by decide +kernel
theorem dX12_moved_163 : decode cX12_moved 163 = .ok (.iload_n 2, 1) := by decide +kernel
theorem dX12_moved_164 : decode cX12_moved 164 = .ok (.iaload, 1) := by decide +kernel
theorem dX12_moved_165 : decode cX12_moved 165 = .ok (.goto 4, 3) := by decide +kernel
theorem dX12_moved_168 : decode cX12_moved 168 = .ok (.iload_n 3, 1) := by decide +kernel
theorem dX12_moved_169 : decode cX12_moved 169 = .ok (.istore_n 3, 1) := by decide +kernel
theorem dX12_moved_170 : decode cX12_moved 170 = .ok (.iinc 2 1, 3) := by decide +kernel
theorem dX12_moved_173 : decode cX12_moved 173 = .ok (.iinc 4 1, 3) := by decide +kernel
theorem dX12_moved_176 : decode cX12_moved 176 = .ok (.goto (-154), 3) := by decide +kernel
theorem dX12_moved_179 : decode cX12_moved 179 = .ok (.iload_n 2, 1) := by decide +kernel
theorem dX12_moved_180 : decode cX12_moved 180 = .ok (.iload_n 3, 1) := by decide +kernel
theorem dX12_moved_181 : decode cX12_moved 181 = .ok (.isub, 1) := by decide +kernel
theorem dX12_moved_182 : decode cX12_moved 182 = .ok (.ireturn, 1) := by decide +kernel
theorem dX12_storyOf_0 : decode cX12_storyOf 0 = .ok (.aload_n 0, 1) := by decide +kernel
theorem dX12_storyOf_1 : decode cX12_storyOf 1 = .ok (.iload_n 1, 1) := by decide +kernel
theorem dX12_storyOf_2 : decode cX12_storyOf 2 = .ok (.iload_n 2, 1) := by decide +kernel
theorem dX12_storyOf_3 : decode cX12_storyOf 3 = .ok (.invokevirtual 383, 3) := by decide +kernel
theorem dX12_storyOf_6 : decode cX12_storyOf 6 = .ok (.istore_n 3, 1) := by decide +kernel
theorem dX12_storyOf_7 : decode cX12_storyOf 7 = .ok (.iload_n 3, 1) := by decide +kernel
theorem dX12_storyOf_8 : decode cX12_storyOf 8 = .ok (.ifCond .ge 7, 3) := by decide +kernel
theorem dX12_storyOf_11 : decode cX12_storyOf 11 = .ok (.iconst (-1), 1) := by decide +kernel
theorem dX12_storyOf_12 : decode cX12_storyOf 12 = .ok (.goto 9, 3) := by decide +kernel
theorem dX12_storyOf_15 : decode cX12_storyOf 15 = .ok (.aload_n 0, 1) := by decide +kernel
theorem dX12_storyOf_16 : decode cX12_storyOf 16 = .ok (.getfield 63, 3) := by decide +kernel
theorem dX12_storyOf_19 : decode cX12_storyOf 19 = .ok (.iload_n 3, 1) := by decide +kernel
theorem dX12_storyOf_20 : decode cX12_storyOf 20 = .ok (.iaload, 1) := by decide +kernel
theorem dX12_storyOf_21 : decode cX12_storyOf 21 = .ok (.ireturn, 1) := by decide +kernel
theorem dX12_story_0 : decode cX12_story 0 = .ok (.aload_n 0, 1) := by decide +kernel
theorem dX12_story_1 : decode cX12_story 1 = .ok (.iconst 0, 1) := by decide +kernel
theorem dX12_story_2 : decode cX12_story 2 = .ok (.putfield 124, 3) := by decide +kernel
theorem dX12_story_5 : decode cX12_story 5 = .ok (.aload_n 0, 1) := by decide +kernel
theorem dX12_story_6 : decode cX12_story 6 = .ok (.iload_n 1, 1) := by decide +kernel
theorem dX12_story_7 : decode cX12_story 7 = .ok (.invokevirtual 315, 3) := by decide +kernel
theorem dX12_story_10 : decode cX12_story 10 = .ok (.ifCond .eq 20, 3) := by decide +kernel
theorem dX12_story_13 : decode cX12_story 13 = .ok (.aload_n 0, 1) := by decide +kernel
theorem dX12_story_14 : decode cX12_story 14 = .ok (.iload_n 2, 1) := by decide +kernel
theorem dX12_story_15 : decode cX12_story 15 = .ok (.invokevirtual 309, 3) := by decide +kernel
theorem dX12_story_18 : decode cX12_story 18 = .ok (.ifCond .eq 12, 3) := by decide +kernel
theorem dX12_story_21 : decode cX12_story 21 = .ok (.aload_n 0, 1) := by decide +kernel
theorem dX12_story_22 : decode cX12_story 22 = .ok (.iload_n 1, 1) := by decide +kernel
theorem dX12_story_23 : decode cX12_story 23 = .ok (.iload_n 2, 1) := by decide +kernel
theorem dX12_story_24 : decode cX12_story 24 = .ok (.invokevirtual 395, 3) := by decide +kernel
theorem dX12_story_27 : decode cX12_story 27 = .ok (.goto 5, 3) := by decide +kernel
theorem dX12_story_30 : decode cX12_story 30 = .ok (.bipush (-2), 2) := by decide +kernel
theorem dX12_story_32 : decode cX12_story 32 = .ok (.ireturn, 1) := by decide +kernel
theorem dX12_clashes_0 : decode cX12_clashes 0 = .ok (.iconst 0, 1) := by decide +kernel
theorem dX12_clashes_1 : decode cX12_clashes 1 = .ok (.istore_n 3, 1) := by decide +kernel
theorem dX12_clashes_2 : decode cX12_clashes 2 = .ok (.iconst 0, 1) := by decide +kernel
theorem dX12_clashes_3 : decode cX12_clashes 3 = .ok (.istore 4, 2) := by decide +kernel
theorem dX12_clashes_5 : decode cX12_clashes 5 = .ok (.iload 4, 2) := by decide +kernel
theorem dX12_clashes_7 : decode cX12_clashes 7 = .ok (.aload_n 0, 1) := by decide +kernel
theorem dX12_clashes_8 : decode cX12_clashes 8 = .ok (.getfield 192, 3) := by decide +kernel
theorem dX12_clashes_11 : decode cX12_clashes 11 = .ok (.if_icmp .ge 52, 3) := by decide +kernel
theorem dX12_clashes_14 : decode cX12_clashes 14 = .ok (.aload_n 0, 1) := by decide +kernel
theorem dX12_clashes_15 : decode cX12_clashes 15 = .ok (.iload_n 1, 1) := by decide +kernel
theorem dX12_clashes_16 : decode cX12_clashes 16 = .ok (.iload 4, 2) := by decide +kernel
theorem dX12_clashes_18 : decode cX12_clashes 18 = .ok (.invokevirtual 395, 3) := by decide +kernel
theorem dX12_clashes_21 : decode cX12_clashes 21 = .ok (.istore 5, 2) := by decide +kernel
theorem dX12_clashes_23 : decode cX12_clashes 23 = .ok (.aload_n 0, 1) := by decide +kernel
theorem dX12_clashes_24 : decode cX12_clashes 24 = .ok (.iload_n 2, 1) := by decide +kernel
theorem dX12_clashes_25 : decode cX12_clashes 25 = .ok (.iload 4, 2) := by decide +kernel
theorem dX12_clashes_27 : decode cX12_clashes 27 = .ok (.invokevirtual 395, 3) := by decide +kernel
theorem dX12_clashes_30 : decode cX12_clashes 30 = .ok (.istore 6, 2) := by decide +kernel
theorem dX12_clashes_32 : decode cX12_clashes 32 = .ok (.iload_n 3, 1) := by decide +kernel
theorem dX12_clashes_33 : decode cX12_clashes 33 = .ok (.iload 5, 2) := by decide +kernel
theorem dX12_clashes_35 : decode cX12_clashes 35 = .ok (.ifCond .lt 19, 3) := by decide +kernel
theorem dX12_clashes_38 : decode cX12_clashes 38 = .ok (.iload 6, 2) := by decide +kernel
theorem dX12_clashes_40 : decode cX12_clashes 40 = .ok (.ifCond .lt 14, 3) := by decide +kernel
theorem dX12_clashes_43 : decode cX12_clashes 43 = .ok (.iload 5, 2) := by decide +kernel
theorem dX12_clashes_45 : decode cX12_clashes 45 = .ok (.iload 6, 2) := by decide +kernel
theorem dX12_clashes_47 : decode cX12_clashes 47 = .ok (.if_icmp .eq 7, 3) := by decide +kernel
theorem dX12_clashes_50 : decode cX12_clashes 50 = .ok (.iconst 1, 1) := by decide +kernel
theorem dX12_clashes_51 : decode cX12_clashes 51 = .ok (.goto 4, 3) := by decide +kernel
theorem dX12_clashes_54 : decode cX12_clashes 54 = .ok (.iconst 0, 1) := by decide +kernel
theorem dX12_clashes_55 : decode cX12_clashes 55 = .ok (.iadd, 1) := by decide +kernel
theorem dX12_clashes_56 : decode cX12_clashes 56 = .ok (.istore_n 3, 1) := by decide +kernel
theorem dX12_clashes_57 : decode cX12_clashes 57 = .ok (.iinc 4 1, 3) := by decide +kernel
theorem dX12_clashes_60 : decode cX12_clashes 60 = .ok (.goto (-55), 3) := by decide +kernel
theorem dX12_clashes_63 : decode cX12_clashes 63 = .ok (.iload_n 3, 1) := by decide +kernel
theorem dX12_clashes_64 : decode cX12_clashes 64 = .ok (.ireturn, 1) := by decide +kernel
theorem dX12_clash_0 : decode cX12_clash 0 = .ok (.aload_n 0, 1) := by decide +kernel
theorem dX12_clash_1 : decode cX12_clash 1 = .ok (.iconst 0, 1) := by decide +kernel
theorem dX12_clash_2 : decode cX12_clash 2 = .ok (.putfield 124, 3) := by decide +kernel
theorem dX12_clash_5 : decode cX12_clash 5 = .ok (.aload_n 0, 1) := by decide +kernel
theorem dX12_clash_6 : decode cX12_clash 6 = .ok (.iload_n 1, 1) := by decide +kernel
theorem dX12_clash_7 : decode cX12_clash 7 = .ok (.invokevirtual 315, 3) := by decide +kernel
theorem dX12_clash_10 : decode cX12_clash 10 = .ok (.ifCond .eq 25, 3) := by decide +kernel
theorem dX12_clash_13 : decode cX12_clash 13 = .ok (.aload_n 0, 1) := by decide +kernel
theorem dX12_clash_14 : decode cX12_clash 14 = .ok (.iload_n 2, 1) := by decide +kernel
theorem dX12_clash_15 : decode cX12_clash 15 = .ok (.invokevirtual 315, 3) := by decide +kernel
theorem dX12_clash_18 : decode cX12_clash 18 = .ok (.ifCond .eq 17, 3) := by decide +kernel
theorem dX12_clash_21 : decode cX12_clash 21 = .ok (.iload_n 1, 1) := by decide +kernel
theorem dX12_clash_22 : decode cX12_clash 22 = .ok (.iload_n 2, 1) := by decide +kernel
theorem dX12_clash_23 : decode cX12_clash 23 = .ok (.if_icmp .eq 12, 3) := by decide +kernel
theorem dX12_clash_26 : decode cX12_clash 26 = .ok (.aload_n 0, 1) := by decide +kernel
theorem dX12_clash_27 : decode cX12_clash 27 = .ok (.iload_n 1, 1) := by decide +kernel
theorem dX12_clash_28 : decode cX12_clash 28 = .ok (.iload_n 2, 1) := by decide +kernel
theorem dX12_clash_29 : decode cX12_clash 29 = .ok (.invokevirtual 398, 3) := by decide +kernel
theorem dX12_clash_32 : decode cX12_clash 32 = .ok (.goto 4, 3) := by decide +kernel
theorem dX12_clash_35 : decode cX12_clash 35 = .ok (.iconst (-1), 1) := by decide +kernel
theorem dX12_clash_36 : decode cX12_clash 36 = .ok (.ireturn, 1) := by decide +kernel
theorem dX12_together_0 : decode cX12_together 0 = .ok (.aload_n 0, 1) := by decide +kernel
theorem dX12_together_1 : decode cX12_together 1 = .ok (.iconst 0, 1) := by decide +kernel
theorem dX12_together_2 : decode cX12_together 2 = .ok (.putfield 124, 3) := by decide +kernel
theorem dX12_together_5 : decode cX12_together 5 = .ok (.iconst 0, 1) := by decide +kernel
theorem dX12_together_6 : decode cX12_together 6 = .ok (.istore_n 1, 1) := by decide +kernel
theorem dX12_together_7 : decode cX12_together 7 = .ok (.iconst 1, 1) := by decide +kernel
theorem dX12_together_8 : decode cX12_together 8 = .ok (.istore_n 2, 1) := by decide +kernel
theorem dX12_together_9 : decode cX12_together 9 = .ok (.iload_n 2, 1) := by decide +kernel
theorem dX12_together_10 : decode cX12_together 10 = .ok (.iconst 1, 1) := by decide +kernel
theorem dX12_together_11 : decode cX12_together 11 = .ok (.aload_n 0, 1) := by decide +kernel
theorem dX12_together_12 : decode cX12_together 12 = .ok (.getfield 195, 3) := by decide +kernel
theorem dX12_together_15 : decode cX12_together 15 = .ok (.ishl, 1) := by decide +kernel
theorem dX12_together_16 : decode cX12_together 16 = .ok (.if_icmp .ge 101, 3) := by decide +kernel
theorem dX12_together_19 : decode cX12_together 19 = .ok (.iconst 1, 1) := by decide +kernel
theorem dX12_together_20 : decode cX12_together 20 = .ok (.istore_n 3, 1) := by decide +kernel
theorem dX12_together_21 : decode cX12_together 21 = .ok (.iconst 0, 1) := by decide +kernel
theorem dX12_together_22 : decode cX12_together 22 = .ok (.istore 4, 2) := by decide +kernel
theorem dX12_together_24 : decode cX12_together 24 = .ok (.iload 4, 2) := by decide +kernel
theorem dX12_together_26 : decode cX12_together 26 = .ok (.aload_n 0, 1) := by decide +kernel
theorem dX12_together_27 : decode cX12_together 27 = .ok (.getfield 195, 3) := by decide +kernel
theorem dX12_together_30 : decode cX12_together 30 = .ok (.if_icmp .ge 64, 3) := by decide +kernel
theorem dX12_together_33 : decode cX12_together 33 = .ok (.iconst 0, 1) := by decide +kernel
theorem dX12_together_34 : decode cX12_together 34 = .ok (.istore 5, 2) := by decide +kernel
theorem dX12_together_36 : decode cX12_together 36 = .ok (.iload 5, 2) := by decide +kernel
theorem dX12_together_38 : decode cX12_together 38 = .ok (.iload 4, 2) := by decide +kernel
theorem dX12_together_40 : decode cX12_together 40 = .ok (.if_icmp .ge 48, 3) := by decide +kernel
theorem dX12_together_43 : decode cX12_together 43 = .ok (.iload_n 3, 1) := by decide +kernel
theorem dX12_together_44 : decode cX12_together 44 = .ok (.ifCond .eq 36, 3) := by decide +kernel
theorem dX12_together_47 : decode cX12_together 47 = .ok (.iload_n 2, 1) := by decide +kernel
theorem dX12_together_48 : decode cX12_together 48 = .ok (.iload 4, 2) := by decide +kernel
theorem dX12_together_50 : decode cX12_together 50 = .ok (.invokestatic 401, 3) := by decide +kernel
theorem dX12_together_53 : decode cX12_together 53 = .ok (.ifCond .eq 23, 3) := by decide +kernel
theorem dX12_together_56 : decode cX12_together 56 = .ok (.iload_n 2, 1) := by decide +kernel
theorem dX12_together_57 : decode cX12_together 57 = .ok (.iload 5, 2) := by decide +kernel
theorem dX12_together_59 : decode cX12_together 59 = .ok (.invokestatic 401, 3) := by decide +kernel
theorem dX12_together_62 : decode cX12_together 62 = .ok (.ifCond .eq 14, 3) := by decide +kernel
theorem dX12_together_65 : decode cX12_together 65 = .ok (.aload_n 0, 1) := by decide +kernel
theorem dX12_together_66 : decode cX12_together 66 = .ok (.iload 4, 2) := by decide +kernel
theorem dX12_together_68 : decode cX12_together 68 = .ok (.iload 5, 2) := by decide +kernel
theorem dX12_together_70 : decode cX12_together 70 = .ok (.invokevirtual 398, 3) := by decide +kernel
theorem dX12_together_73 : decode cX12_together 73 = .ok (.ifCond .ne 7, 3) := by decide +kernel
theorem dX12_together_76 : decode cX12_together 76 = .ok (.iconst 1, 1) := by decide +kernel
theorem dX12_together_77 : decode cX12_together 77 = .ok (.goto 4, 3) := by decide +kernel
theorem dX12_together_80 : decode cX12_together 80 = .ok (.iconst 0, 1) := by decide +kernel
theorem dX12_together_81 : decode cX12_together 81 = .ok (.istore_n 3, 1) := by decide +kernel
theorem dX12_together_82 : decode cX12_together 82 = .ok (.iinc 5 1, 3) := by decide +kernel
theorem dX12_together_85 : decode cX12_together 85 = .ok (.goto (-49), 3) := by decide +kernel
theorem dX12_together_88 : decode cX12_together 88 = .ok (.iinc 4 1, 3) := by decide +kernel
theorem dX12_together_91 : decode cX12_together 91 = .ok (.goto (-67), 3) := by decide +kernel
theorem dX12_together_94 : decode cX12_together 94 = .ok (.iload_n 3, 1) := by decide +kernel
theorem dX12_together_95 : decode cX12_together 95 = .ok (.ifCond .eq 16, 3) := by decide +kernel
theorem dX12_together_98 : decode cX12_together 98 = .ok (.iload_n 2, 1) := by decide +kernel
theorem dX12_together_99 : decode cX12_together 99 = .ok (.invokestatic 404, 3) := by decide +kernel
theorem dX12_together_102 : decode cX12_together 102 = .ok (.iload_n 1, 1) := by decide +kernel
theorem dX12_together_103 : decode cX12_together 103 = .ok (.invokestatic 404, 3) := by decide +kernel
theorem dX12_together_106 : decode cX12_together 106 = .ok (.if_icmp .le 5, 3) := by decide +kernel
theorem dX12_together_109 : decode cX12_together 109 = .ok (.iload_n 2, 1) := by decide +kernel
theorem dX12_together_110 : decode cX12_together 110 = .ok (.istore_n 1, 1) := by decide +kernel
theorem dX12_together_111 : decode cX12_together 111 = .ok (.iinc 2 1, 3) := by decide +kernel
theorem dX12_together_114 : decode cX12_together 114 = .ok (.goto (-105), 3) := by decide +kernel
theorem dX12_together_117 : decode cX12_together 117 = .ok (.iload_n 1, 1) := by decide +kernel
theorem dX12_together_118 : decode cX12_together 118 = .ok (.ireturn, 1) := by decide +kernel
theorem dX12_isSet_0 : decode cX12_isSet 0 = .ok (.iload_n 1, 1) := by decide +kernel
theorem dX12_isSet_1 : decode cX12_isSet 1 = .ok (.ifCond .lt 17, 3) := by decide +kernel
theorem dX12_isSet_4 : decode cX12_isSet 4 = .ok (.iload_n 1, 1) := by decide +kernel
theorem dX12_isSet_5 : decode cX12_isSet 5 = .ok (.iconst 1, 1) := by decide +kernel
theorem dX12_isSet_6 : decode cX12_isSet 6 = .ok (.aload_n 0, 1) := by decide +kernel
theorem dX12_isSet_7 : decode cX12_isSet 7 = .ok (.getfield 195, 3) := by decide +kernel
theorem dX12_isSet_10 : decode cX12_isSet 10 = .ok (.ishl, 1) := by decide +kernel
theorem dX12_isSet_11 : decode cX12_isSet 11 = .ok (.if_icmp .ge 7, 3) := by decide +kernel
theorem dX12_isSet_14 : decode cX12_isSet 14 = .ok (.iconst 1, 1) := by decide +kernel
theorem dX12_isSet_15 : decode cX12_isSet 15 = .ok (.goto 4, 3) := by decide +kernel
theorem dX12_isSet_18 : decode cX12_isSet 18 = .ok (.iconst 0, 1) := by decide +kernel
theorem dX12_isSet_19 : decode cX12_isSet 19 = .ok (.ireturn, 1) := by decide +kernel
theorem dX12_lies_0 : decode cX12_lies 0 = .ok (.aload_n 0, 1) := by decide +kernel
theorem dX12_lies_1 : decode cX12_lies 1 = .ok (.iconst 0, 1) := by decide +kernel
theorem dX12_lies_2 : decode cX12_lies 2 = .ok (.putfield 124, 3) := by decide +kernel
theorem dX12_lies_5 : decode cX12_lies 5 = .ok (.aload_n 0, 1) := by decide +kernel
theorem dX12_lies_6 : decode cX12_lies 6 = .ok (.iload_n 1, 1) := by decide +kernel
theorem dX12_lies_7 : decode cX12_lies 7 = .ok (.invokevirtual 407, 3) := by decide +kernel
theorem dX12_lies_10 : decode cX12_lies 10 = .ok (.ifCond .ne 5, 3) := by decide +kernel
theorem dX12_lies_13 : decode cX12_lies 13 = .ok (.iconst (-1), 1) := by decide +kernel
theorem dX12_lies_14 : decode cX12_lies 14 = .ok (.ireturn, 1) := by decide +kernel
theorem dX12_lies_15 : decode cX12_lies 15 = .ok (.iconst 0, 1) := by decide +kernel
theorem dX12_lies_16 : decode cX12_lies 16 = .ok (.istore_n 2, 1) := by decide +kernel
theorem dX12_lies_17 : decode cX12_lies 17 = .ok (.iconst 0, 1) := by decide +kernel
theorem dX12_lies_18 : decode cX12_lies 18 = .ok (.istore_n 3, 1) := by decide +kernel
theorem dX12_lies_19 : decode cX12_lies 19 = .ok (.iload_n 3, 1) := by decide +kernel
theorem dX12_lies_20 : decode cX12_lies 20 = .ok (.aload_n 0, 1) := by decide +kernel
theorem dX12_lies_21 : decode cX12_lies 21 = .ok (.getfield 192, 3) := by decide +kernel
theorem dX12_lies_24 : decode cX12_lies 24 = .ok (.if_icmp .ge 118, 3) := by decide +kernel
theorem dX12_lies_27 : decode cX12_lies 27 = .ok (.iconst 0, 1) := by decide +kernel
theorem dX12_lies_28 : decode cX12_lies 28 = .ok (.istore 4, 2) := by decide +kernel
theorem dX12_lies_30 : decode cX12_lies 30 = .ok (.iconst 0, 1) := by decide +kernel
theorem dX12_lies_31 : decode cX12_lies 31 = .ok (.istore 5, 2) := by decide +kernel
theorem dX12_lies_33 : decode cX12_lies 33 = .ok (.iconst 0, 1) := by decide +kernel
theorem dX12_lies_34 : decode cX12_lies 34 = .ok (.istore 6, 2) := by decide +kernel
theorem dX12_lies_36 : decode cX12_lies 36 = .ok (.iload 6, 2) := by decide +kernel
theorem dX12_lies_38 : decode cX12_lies 38 = .ok (.aload_n 0, 1) := by decide +kernel
theorem dX12_lies_39 : decode cX12_lies 39 = .ok (.getfield 23, 3) := by decide +kernel
theorem dX12_lies_42 : decode cX12_lies 42 = .ok (.iload_n 3, 1) := by decide +kernel
theorem dX12_lies_43 : decode cX12_lies 43 = .ok (.iaload, 1) := by decide +kernel
theorem dX12_lies_44 : decode cX12_lies 44 = .ok (.if_icmp .ge 84, 3) := by decide +kernel
theorem dX12_lies_47 : decode cX12_lies 47 = .ok (.iconst 0, 1) := by decide +kernel
theorem dX12_lies_48 : decode cX12_lies 48 = .ok (.istore 7, 2) := by decide +kernel
theorem dX12_lies_50 : decode cX12_lies 50 = .ok (.iconst 0, 1) := by decide +kernel
theorem dX12_lies_51 : decode cX12_lies 51 = .ok (.istore 8, 2) := by decide +kernel
theorem dX12_lies_53 : decode cX12_lies 53 = .ok (.iload 8, 2) := by decide +kernel
theorem dX12_lies_55 : decode cX12_lies 55 = .ok (.aload_n 0, 1) := by decide +kernel
theorem dX12_lies_56 : decode cX12_lies 56 = .ok (.getfield 195, 3) := by decide +kernel
theorem dX12_lies_59 : decode cX12_lies 59 = .ok (.if_icmp .ge 40, 3) := by decide +kernel
theorem dX12_lies_62 : decode cX12_lies 62 = .ok (.iload 7, 2) := by decide +kernel
theorem dX12_lies_64 : decode cX12_lies 64 = .ok (.iload_n 1, 1) := by decide +kernel
theorem dX12_lies_65 : decode cX12_lies 65 = .ok (.iload 8, 2) := by decide +kernel
theorem dX12_lies_67 : decode cX12_lies 67 = .ok (.invokestatic 401, 3) := by decide +kernel
theorem dX12_lies_70 : decode cX12_lies 70 = .ok (.ifCond .eq 19, 3) := by decide +kernel
theorem dX12_lies_73 : decode cX12_lies 73 = .ok (.aload_n 0, 1) := by decide +kernel
theorem dX12_lies_74 : decode cX12_lies 74 = .ok (.iload 8, 2) := by decide +kernel
theorem dX12_lies_76 : decode cX12_lies 76 = .ok (.iload_n 3, 1) := by decide +kernel
theorem dX12_lies_77 : decode cX12_lies 77 = .ok (.invokevirtual 395, 3) := by decide +kernel
theorem dX12_lies_80 : decode cX12_lies 80 = .ok (.iload 6, 2) := by decide +kernel
theorem dX12_lies_82 : decode cX12_lies 82 = .ok (.if_icmp .ne 7, 3) := by decide +kernel
theorem dX12_lies_85 : decode cX12_lies 85 = .ok (.iconst 1, 1) := by decide +kernel
theorem dX12_lies_86 : decode cX12_lies 86 = .ok (.goto 4, 3) := by decide +kernel
theorem dX12_lies_89 : decode cX12_lies 89 = .ok (.iconst 0, 1) := by decide +kernel
theorem dX12_lies_90 : decode cX12_lies 90 = .ok (.iadd, 1) := by decide +kernel
theorem dX12_lies_91 : decode cX12_lies 91 = .ok (.istore 7, 2) := by decide +kernel
theorem dX12_lies_93 : decode cX12_lies 93 = .ok (.iinc 8 1, 3) := by decide +kernel
theorem dX12_lies_96 : decode cX12_lies 96 = .ok (.goto (-43), 3) := by decide +kernel
theorem dX12_lies_99 : decode cX12_lies 99 = .ok (.iload 4, 2) := by decide +kernel
theorem dX12_lies_101 : decode cX12_lies 101 = .ok (.iload 7, 2) := by decide +kernel
theorem dX12_lies_103 : decode cX12_lies 103 = .ok (.iadd, 1) := by decide +kernel
theorem dX12_lies_104 : decode cX12_lies 104 = .ok (.istore 4, 2) := by decide +kernel
theorem dX12_lies_106 : decode cX12_lies 106 = .ok (.iload 7, 2) := by decide +kernel
theorem dX12_lies_108 : decode cX12_lies 108 = .ok (.iload 5, 2) := by decide +kernel
theorem dX12_lies_110 : decode cX12_lies 110 = .ok (.if_icmp .le 8, 3) := by decide +kernel
theorem dX12_lies_113 : decode cX12_lies 113 = .ok (.iload 7, 2) := by decide +kernel
theorem dX12_lies_115 : decode cX12_lies 115 = .ok (.goto 5, 3) := by decide +kernel
theorem dX12_lies_118 : decode cX12_lies 118 = .ok (.iload 5, 2) := by decide +kernel
theorem dX12_lies_120 : decode cX12_lies 120 = .ok (.istore 5, 2) := by decide +kernel
theorem dX12_lies_122 : decode cX12_lies 122 = .ok (.iinc 6 1, 3) := by decide +kernel
theorem dX12_lies_125 : decode cX12_lies 125 = .ok (.goto (-89), 3) := by decide +kernel
theorem dX12_lies_128 : decode cX12_lies 128 = .ok (.iload_n 2, 1) := by decide +kernel
theorem dX12_lies_129 : decode cX12_lies 129 = .ok (.iload 4, 2) := by decide +kernel
theorem dX12_lies_131 : decode cX12_lies 131 = .ok (.iload 5, 2) := by decide +kernel
theorem dX12_lies_133 : decode cX12_lies 133 = .ok (.isub, 1) := by decide +kernel
theorem dX12_lies_134 : decode cX12_lies 134 = .ok (.iadd, 1) := by decide +kernel
theorem dX12_lies_135 : decode cX12_lies 135 = .ok (.istore_n 2, 1) := by decide +kernel
theorem dX12_lies_136 : decode cX12_lies 136 = .ok (.iinc 3 1, 3) := by decide +kernel
theorem dX12_lies_139 : decode cX12_lies 139 = .ok (.goto (-120), 3) := by decide +kernel
theorem dX12_lies_142 : decode cX12_lies 142 = .ok (.iload_n 2, 1) := by decide +kernel
theorem dX12_lies_143 : decode cX12_lies 143 = .ok (.ireturn, 1) := by decide +kernel
theorem dX12_isTaped_0 : decode cX12_isTaped 0 = .ok (.aload_n 0, 1) := by decide +kernel
theorem dX12_isTaped_1 : decode cX12_isTaped 1 = .ok (.getfield 47, 3) := by decide +kernel
theorem dX12_isTaped_4 : decode cX12_isTaped 4 = .ok (.aload_n 0, 1) := by decide +kernel
theorem dX12_isTaped_5 : decode cX12_isTaped 5 = .ok (.getfield 54, 3) := by decide +kernel
theorem dX12_isTaped_8 : decode cX12_isTaped 8 = .ok (.iload_n 1, 1) := by decide +kernel
theorem dX12_isTaped_9 : decode cX12_isTaped 9 = .ok (.iaload, 1) := by decide +kernel
theorem dX12_isTaped_10 : decode cX12_isTaped 10 = .ok (.iaload, 1) := by decide +kernel
theorem dX12_isTaped_11 : decode cX12_isTaped 11 = .ok (.ifCond .lt 27, 3) := by decide +kernel
theorem dX12_isTaped_14 : decode cX12_isTaped 14 = .ok (.aload_n 0, 1) := by decide +kernel
theorem dX12_isTaped_15 : decode cX12_isTaped 15 = .ok (.getfield 57, 3) := by decide +kernel
theorem dX12_isTaped_18 : decode cX12_isTaped 18 = .ok (.iload_n 1, 1) := by decide +kernel
theorem dX12_isTaped_19 : decode cX12_isTaped 19 = .ok (.iaload, 1) := by decide +kernel
theorem dX12_isTaped_20 : decode cX12_isTaped 20 = .ok (.aload_n 0, 1) := by decide +kernel
theorem dX12_isTaped_21 : decode cX12_isTaped 21 = .ok (.getfield 47, 3) := by decide +kernel
theorem dX12_isTaped_24 : decode cX12_isTaped 24 = .ok (.aload_n 0, 1) := by decide +kernel
theorem dX12_isTaped_25 : decode cX12_isTaped 25 = .ok (.getfield 54, 3) := by decide +kernel
theorem dX12_isTaped_28 : decode cX12_isTaped 28 = .ok (.iload_n 1, 1) := by decide +kernel
theorem dX12_isTaped_29 : decode cX12_isTaped 29 = .ok (.iaload, 1) := by decide +kernel
theorem dX12_isTaped_30 : decode cX12_isTaped 30 = .ok (.iaload, 1) := by decide +kernel
theorem dX12_isTaped_31 : decode cX12_isTaped 31 = .ok (.if_icmp .lt 7, 3) := by decide +kernel
theorem dX12_isTaped_34 : decode cX12_isTaped 34 = .ok (.iconst 1, 1) := by decide +kernel
theorem dX12_isTaped_35 : decode cX12_isTaped 35 = .ok (.goto 4, 3) := by decide +kernel
theorem dX12_isTaped_38 : decode cX12_isTaped 38 = .ok (.iconst 0, 1) := by decide +kernel
theorem dX12_isTaped_39 : decode cX12_isTaped 39 = .ok (.ireturn, 1) := by decide +kernel
theorem dX12_wasAsked_0 : decode cX12_wasAsked 0 = .ok (.iconst 0, 1) := by decide +kernel
theorem dX12_wasAsked_1 : decode cX12_wasAsked 1 = .ok (.istore_n 2, 1) := by decide +kernel
theorem dX12_wasAsked_2 : decode cX12_wasAsked 2 = .ok (.iload_n 2, 1) := by decide +kernel
theorem dX12_wasAsked_3 : decode cX12_wasAsked 3 = .ok (.iload_n 1, 1) := by decide +kernel
theorem dX12_wasAsked_4 : decode cX12_wasAsked 4 = .ok (.if_icmp .ge 48, 3) := by decide +kernel
theorem dX12_wasAsked_7 : decode cX12_wasAsked 7 = .ok (.aload_n 0, 1) := by decide +kernel
theorem dX12_wasAsked_8 : decode cX12_wasAsked 8 = .ok (.iload_n 2, 1) := by decide +kernel
theorem dX12_wasAsked_9 : decode cX12_wasAsked 9 = .ok (.aload_n 0, 1) := by decide +kernel
theorem dX12_wasAsked_10 : decode cX12_wasAsked 10 = .ok (.getfield 54, 3) := by decide +kernel
theorem dX12_wasAsked_13 : decode cX12_wasAsked 13 = .ok (.iload_n 1, 1) := by decide +kernel
theorem dX12_wasAsked_14 : decode cX12_wasAsked 14 = .ok (.iaload, 1) := by decide +kernel
theorem dX12_wasAsked_15 : decode cX12_wasAsked 15 = .ok (.invokevirtual 334, 3) := by decide +kernel
theorem dX12_wasAsked_18 : decode cX12_wasAsked 18 = .ok (.ifCond .eq 28, 3) := by decide +kernel
theorem dX12_wasAsked_21 : decode cX12_wasAsked 21 = .ok (.aload_n 0, 1) := by decide +kernel
theorem dX12_wasAsked_22 : decode cX12_wasAsked 22 = .ok (.getfield 60, 3) := by decide +kernel
theorem dX12_wasAsked_25 : decode cX12_wasAsked 25 = .ok (.iload_n 2, 1) := by decide +kernel
theorem dX12_wasAsked_26 : decode cX12_wasAsked 26 = .ok (.iaload, 1) := by decide +kernel
theorem dX12_wasAsked_27 : decode cX12_wasAsked 27 = .ok (.aload_n 0, 1) := by decide +kernel
theorem dX12_wasAsked_28 : decode cX12_wasAsked 28 = .ok (.getfield 60, 3) := by decide +kernel
theorem dX12_wasAsked_31 : decode cX12_wasAsked 31 = .ok (.iload_n 1, 1) := by decide +kernel
theorem dX12_wasAsked_32 : decode cX12_wasAsked 32 = .ok (.iaload, 1) := by decide +kernel
theorem dX12_wasAsked_33 : decode cX12_wasAsked 33 = .ok (.if_icmp .ne 13, 3) := by decide +kernel
theorem dX12_wasAsked_36 : decode cX12_wasAsked 36 = .ok (.aload_n 0, 1) := by decide +kernel
theorem dX12_wasAsked_37 : decode cX12_wasAsked 37 = .ok (.iload_n 2, 1) := by decide +kernel
theorem dX12_wasAsked_38 : decode cX12_wasAsked 38 = .ok (.invokevirtual 410, 3) := by decide +kernel
theorem dX12_wasAsked_41 : decode cX12_wasAsked 41 = .ok (.ifCond .eq 5, 3) := by decide +kernel
theorem dX12_wasAsked_44 : decode cX12_wasAsked 44 = .ok (.iconst 1, 1) := by decide +kernel
theorem dX12_wasAsked_45 : decode cX12_wasAsked 45 = .ok (.ireturn, 1) := by decide +kernel
theorem dX12_wasAsked_46 : decode cX12_wasAsked 46 = .ok (.iinc 2 1, 3) := by decide +kernel
theorem dX12_wasAsked_49 : decode cX12_wasAsked 49 = .ok (.goto (-47), 3) := by decide +kernel
theorem dX12_wasAsked_52 : decode cX12_wasAsked 52 = .ok (.iconst 0, 1) := by decide +kernel
theorem dX12_wasAsked_53 : decode cX12_wasAsked 53 = .ok (.ireturn, 1) := by decide +kernel
theorem dX12_supposed_0 : decode cX12_supposed 0 = .ok (.aload_n 0, 1) := by decide +kernel
theorem dX12_supposed_1 : decode cX12_supposed 1 = .ok (.iconst 0, 1) := by decide +kernel
theorem dX12_supposed_2 : decode cX12_supposed 2 = .ok (.putfield 124, 3) := by decide +kernel
theorem dX12_supposed_5 : decode cX12_supposed 5 = .ok (.aload_n 0, 1) := by decide +kernel
theorem dX12_supposed_6 : decode cX12_supposed 6 = .ok (.iload_n 1, 1) := by decide +kernel
theorem dX12_supposed_7 : decode cX12_supposed 7 = .ok (.invokevirtual 315, 3) := by decide +kernel
theorem dX12_supposed_10 : decode cX12_supposed 10 = .ok (.ifCond .ne 5, 3) := by decide +kernel
theorem dX12_supposed_13 : decode cX12_supposed 13 = .ok (.iconst (-1), 1) := by decide +kernel
theorem dX12_supposed_14 : decode cX12_supposed 14 = .ok (.ireturn, 1) := by decide +kernel
theorem dX12_supposed_15 : decode cX12_supposed 15 = .ok (.iconst 0, 1) := by decide +kernel
theorem dX12_supposed_16 : decode cX12_supposed 16 = .ok (.istore_n 2, 1) := by decide +kernel
theorem dX12_supposed_17 : decode cX12_supposed 17 = .ok (.aload_n 0, 1) := by decide +kernel
theorem dX12_supposed_18 : decode cX12_supposed 18 = .ok (.getfield 47, 3) := by decide +kernel
theorem dX12_supposed_21 : decode cX12_supposed 21 = .ok (.iload_n 1, 1) := by decide +kernel
theorem dX12_supposed_22 : decode cX12_supposed 22 = .ok (.iaload, 1) := by decide +kernel
theorem dX12_supposed_23 : decode cX12_supposed 23 = .ok (.aload_n 0, 1) := by decide +kernel
theorem dX12_supposed_24 : decode cX12_supposed 24 = .ok (.getfield 41, 3) := by decide +kernel
theorem dX12_supposed_27 : decode cX12_supposed 27 = .ok (.iload_n 1, 1) := by decide +kernel
theorem dX12_supposed_28 : decode cX12_supposed 28 = .ok (.iaload, 1) := by decide +kernel
theorem dX12_supposed_29 : decode cX12_supposed 29 = .ok (.if_icmp .gt 5, 3) := by decide +kernel
theorem dX12_supposed_32 : decode cX12_supposed 32 = .ok (.iconst 0, 1) := by decide +kernel
theorem dX12_supposed_33 : decode cX12_supposed 33 = .ok (.ireturn, 1) := by decide +kernel
theorem dX12_supposed_34 : decode cX12_supposed 34 = .ok (.iconst 0, 1) := by decide +kernel
theorem dX12_supposed_35 : decode cX12_supposed 35 = .ok (.istore_n 3, 1) := by decide +kernel
theorem dX12_supposed_36 : decode cX12_supposed 36 = .ok (.iload_n 3, 1) := by decide +kernel
theorem dX12_supposed_37 : decode cX12_supposed 37 = .ok (.aload_n 0, 1) := by decide +kernel
theorem dX12_supposed_38 : decode cX12_supposed 38 = .ok (.getfield 198, 3) := by decide +kernel
theorem dX12_supposed_41 : decode cX12_supposed 41 = .ok (.if_icmp .ge 88, 3) := by decide +kernel
theorem dX12_supposed_44 : decode cX12_supposed 44 = .ok (.aload_n 0, 1) := by decide +kernel
theorem dX12_supposed_45 : decode cX12_supposed 45 = .ok (.iload_n 3, 1) := by decide +kernel
theorem dX12_supposed_46 : decode cX12_supposed 46 = .ok (.invokevirtual 321, 3) := by decide +kernel
theorem dX12_supposed_49 : decode cX12_supposed 49 = .ok (.ifCond .eq 74, 3) := by decide +kernel
theorem dX12_supposed_52 : decode cX12_supposed 52 = .ok (.aload_n 0, 1) := by decide +kernel
theorem dX12_supposed_53 : decode cX12_supposed 53 = .ok (.getfield 54, 3) := by decide +kernel
theorem dX12_supposed_56 : decode cX12_supposed 56 = .ok (.iload_n 3, 1) := by decide +kernel
theorem dX12_supposed_57 : decode cX12_supposed 57 = .ok (.iaload, 1) := by decide +kernel
theorem dX12_supposed_58 : decode cX12_supposed 58 = .ok (.iload_n 1, 1) := by decide +kernel
theorem dX12_supposed_59 : decode cX12_supposed 59 = .ok (.if_icmp .ne 64, 3) := by decide +kernel
theorem dX12_supposed_62 : decode cX12_supposed 62 = .ok (.aload_n 0, 1) := by decide +kernel
theorem dX12_supposed_63 : decode cX12_supposed 63 = .ok (.iload_n 3, 1) := by decide +kernel
theorem dX12_supposed_64 : decode cX12_supposed 64 = .ok (.invokevirtual 410, 3) := by decide +kernel
theorem dX12_supposed_67 : decode cX12_supposed 67 = .ok (.ifCond .eq 56, 3) := by decide +kernel
theorem dX12_supposed_70 : decode cX12_supposed 70 = .ok (.aload_n 0, 1) := by decide +kernel
theorem dX12_supposed_71 : decode cX12_supposed 71 = .ok (.iload_n 3, 1) := by decide +kernel
theorem dX12_supposed_72 : decode cX12_supposed 72 = .ok (.invokevirtual 343, 3) := by decide +kernel
theorem dX12_supposed_75 : decode cX12_supposed 75 = .ok (.ifCond .eq 48, 3) := by decide +kernel
theorem dX12_supposed_78 : decode cX12_supposed 78 = .ok (.aload_n 0, 1) := by decide +kernel
theorem dX12_supposed_79 : decode cX12_supposed 79 = .ok (.getfield 32, 3) := by decide +kernel
theorem dX12_supposed_82 : decode cX12_supposed 82 = .ok (.aload_n 0, 1) := by decide +kernel
theorem dX12_supposed_83 : decode cX12_supposed 83 = .ok (.getfield 60, 3) := by decide +kernel
theorem dX12_supposed_86 : decode cX12_supposed 86 = .ok (.iload_n 3, 1) := by decide +kernel
theorem dX12_supposed_87 : decode cX12_supposed 87 = .ok (.iaload, 1) := by decide +kernel
theorem dX12_supposed_88 : decode cX12_supposed 88 = .ok (.iaload, 1) := by decide +kernel
theorem dX12_supposed_89 : decode cX12_supposed 89 = .ok (.aload_n 0, 1) := by decide +kernel
theorem dX12_supposed_90 : decode cX12_supposed 90 = .ok (.getfield 47, 3) := by decide +kernel
theorem dX12_supposed_93 : decode cX12_supposed 93 = .ok (.iload_n 1, 1) := by decide +kernel
theorem dX12_supposed_94 : decode cX12_supposed 94 = .ok (.iaload, 1) := by decide +kernel
theorem dX12_supposed_95 : decode cX12_supposed 95 = .ok (.invokestatic 340, 3) := by decide +kernel
theorem dX12_supposed_98 : decode cX12_supposed 98 = .ok (.ifCond .eq 25, 3) := by decide +kernel
theorem dX12_supposed_101 : decode cX12_supposed 101 = .ok (.aload_n 0, 1) := by decide +kernel
theorem dX12_supposed_102 : decode cX12_supposed 102 = .ok (.iload_n 3, 1) := by decide +kernel
theorem dX12_supposed_103 : decode cX12_supposed 103 = .ok (.invokevirtual 413, 3) := by decide +kernel
theorem dX12_supposed_106 : decode cX12_supposed 106 = .ok (.ifCond .eq 6, 3) := by decide +kernel
theorem dX12_supposed_109 : decode cX12_supposed 109 = .ok (.goto 14, 3) := by decide +kernel
theorem dX12_supposed_112 : decode cX12_supposed 112 = .ok (.iload_n 2, 1) := by decide +kernel
theorem dX12_supposed_113 : decode cX12_supposed 113 = .ok (.iconst 1, 1) := by decide +kernel
theorem dX12_supposed_114 : decode cX12_supposed 114 = .ok (.aload_n 0, 1) := by decide +kernel
theorem dX12_supposed_115 : decode cX12_supposed 115 = .ok (.getfield 60, 3) := by decide +kernel
theorem dX12_supposed_118 : decode cX12_supposed 118 = .ok (.iload_n 3, 1) := by decide +kernel
theorem dX12_supposed_119 : decode cX12_supposed 119 = .ok (.iaload, 1) := by decide +kernel
theorem dX12_supposed_120 : decode cX12_supposed 120 = .ok (.ishl, 1) := by decide +kernel
theorem dX12_supposed_121 : decode cX12_supposed 121 = .ok (.ior, 1) := by decide +kernel
theorem dX12_supposed_122 : decode cX12_supposed 122 = .ok (.istore_n 2, 1) := by decide +kernel
theorem dX12_supposed_123 : decode cX12_supposed 123 = .ok (.iinc 3 1, 3) := by decide +kernel
theorem dX12_supposed_126 : decode cX12_supposed 126 = .ok (.goto (-90), 3) := by decide +kernel
theorem dX12_supposed_129 : decode cX12_supposed 129 = .ok (.iload_n 2, 1) := by decide +kernel
theorem dX12_supposed_130 : decode cX12_supposed 130 = .ok (.ireturn, 1) := by decide +kernel
theorem dX12_bounded_0 : decode cX12_bounded 0 = .ok (.aload_n 0, 1) := by decide +kernel
theorem dX12_bounded_1 : decode cX12_bounded 1 = .ok (.aload_n 0, 1) := by decide +kernel
theorem dX12_bounded_2 : decode cX12_bounded 2 = .ok (.getfield 416, 3) := by decide +kernel
theorem dX12_bounded_5 : decode cX12_bounded 5 = .ok (.ifCond .ne 19, 3) := by decide +kernel
theorem dX12_bounded_8 : decode cX12_bounded 8 = .ok (.lload_n 1, 1) := by decide +kernel
theorem dX12_bounded_9 : decode cX12_bounded 9 = .ok (.ldc2_w 419, 3) := by decide +kernel
theorem dX12_bounded_12 : decode cX12_bounded 12 = .ok (.lcmp, 1) := by decide +kernel
theorem dX12_bounded_13 : decode cX12_bounded 13 = .ok (.ifCond .gt 11, 3) := by decide +kernel
theorem dX12_bounded_16 : decode cX12_bounded 16 = .ok (.lload_n 1, 1) := by decide +kernel
theorem dX12_bounded_17 : decode cX12_bounded 17 = .ok (.ldc2_w 421, 3) := by decide +kernel
theorem dX12_bounded_20 : decode cX12_bounded 20 = .ok (.lcmp, 1) := by decide +kernel
theorem dX12_bounded_21 : decode cX12_bounded 21 = .ok (.ifCond .ge 7, 3) := by decide +kernel
theorem dX12_bounded_24 : decode cX12_bounded 24 = .ok (.iconst 1, 1) := by decide +kernel
theorem dX12_bounded_25 : decode cX12_bounded 25 = .ok (.goto 4, 3) := by decide +kernel
theorem dX12_bounded_28 : decode cX12_bounded 28 = .ok (.iconst 0, 1) := by decide +kernel
theorem dX12_bounded_29 : decode cX12_bounded 29 = .ok (.putfield 416, 3) := by decide +kernel
theorem dX12_bounded_32 : decode cX12_bounded 32 = .ok (.aload_n 0, 1) := by decide +kernel
theorem dX12_bounded_33 : decode cX12_bounded 33 = .ok (.getfield 416, 3) := by decide +kernel
theorem dX12_bounded_36 : decode cX12_bounded 36 = .ok (.ifCond .eq 7, 3) := by decide +kernel
theorem dX12_bounded_39 : decode cX12_bounded 39 = .ok (.lconst 0, 1) := by decide +kernel
theorem dX12_bounded_40 : decode cX12_bounded 40 = .ok (.goto 4, 3) := by decide +kernel
theorem dX12_bounded_43 : decode cX12_bounded 43 = .ok (.lload_n 1, 1) := by decide +kernel
theorem dX12_bounded_44 : decode cX12_bounded 44 = .ok (.lreturn, 1) := by decide +kernel
theorem dX12_compares_0 : decode cX12_compares 0 = .ok (.iload_n 0, 1) := by decide +kernel
theorem dX12_compares_1 : decode cX12_compares 1 = .ok (.tableswitch 95 5 9 #[35, 47, 59, 71, 83], 35) := by decide +kernel
theorem dX12_compares_36 : decode cX12_compares 36 = .ok (.lload_n 1, 1) := by decide +kernel
theorem dX12_compares_37 : decode cX12_compares 37 = .ok (.lload_n 3, 1) := by decide +kernel
theorem dX12_compares_38 : decode cX12_compares 38 = .ok (.lcmp, 1) := by decide +kernel
theorem dX12_compares_39 : decode cX12_compares 39 = .ok (.ifCond .ge 7, 3) := by decide +kernel
theorem dX12_compares_42 : decode cX12_compares 42 = .ok (.iconst 1, 1) := by decide +kernel
theorem dX12_compares_43 : decode cX12_compares 43 = .ok (.goto 4, 3) := by decide +kernel
theorem dX12_compares_46 : decode cX12_compares 46 = .ok (.iconst 0, 1) := by decide +kernel
theorem dX12_compares_47 : decode cX12_compares 47 = .ok (.ireturn, 1) := by decide +kernel
theorem dX12_compares_48 : decode cX12_compares 48 = .ok (.lload_n 1, 1) := by decide +kernel
theorem dX12_compares_49 : decode cX12_compares 49 = .ok (.lload_n 3, 1) := by decide +kernel
theorem dX12_compares_50 : decode cX12_compares 50 = .ok (.lcmp, 1) := by decide +kernel
theorem dX12_compares_51 : decode cX12_compares 51 = .ok (.ifCond .gt 7, 3) := by decide +kernel
theorem dX12_compares_54 : decode cX12_compares 54 = .ok (.iconst 1, 1) := by decide +kernel
theorem dX12_compares_55 : decode cX12_compares 55 = .ok (.goto 4, 3) := by decide +kernel
theorem dX12_compares_58 : decode cX12_compares 58 = .ok (.iconst 0, 1) := by decide +kernel
theorem dX12_compares_59 : decode cX12_compares 59 = .ok (.ireturn, 1) := by decide +kernel
theorem dX12_compares_60 : decode cX12_compares 60 = .ok (.lload_n 1, 1) := by decide +kernel
theorem dX12_compares_61 : decode cX12_compares 61 = .ok (.lload_n 3, 1) := by decide +kernel
theorem dX12_compares_62 : decode cX12_compares 62 = .ok (.lcmp, 1) := by decide +kernel
theorem dX12_compares_63 : decode cX12_compares 63 = .ok (.ifCond .ne 7, 3) := by decide +kernel
theorem dX12_compares_66 : decode cX12_compares 66 = .ok (.iconst 1, 1) := by decide +kernel
theorem dX12_compares_67 : decode cX12_compares 67 = .ok (.goto 4, 3) := by decide +kernel
theorem dX12_compares_70 : decode cX12_compares 70 = .ok (.iconst 0, 1) := by decide +kernel
theorem dX12_compares_71 : decode cX12_compares 71 = .ok (.ireturn, 1) := by decide +kernel
theorem dX12_compares_72 : decode cX12_compares 72 = .ok (.lload_n 1, 1) := by decide +kernel
theorem dX12_compares_73 : decode cX12_compares 73 = .ok (.lload_n 3, 1) := by decide +kernel
theorem dX12_compares_74 : decode cX12_compares 74 = .ok (.lcmp, 1) := by decide +kernel
theorem dX12_compares_75 : decode cX12_compares 75 = .ok (.ifCond .eq 7, 3) := by decide +kernel
theorem dX12_compares_78 : decode cX12_compares 78 = .ok (.iconst 1, 1) := by decide +kernel
theorem dX12_compares_79 : decode cX12_compares 79 = .ok (.goto 4, 3) := by decide +kernel
theorem dX12_compares_82 : decode cX12_compares 82 = .ok (.iconst 0, 1) := by decide +kernel
theorem dX12_compares_83 : decode cX12_compares 83 = .ok (.ireturn, 1) := by decide +kernel
theorem dX12_compares_84 : decode cX12_compares 84 = .ok (.lload_n 1, 1) := by decide +kernel
theorem dX12_compares_85 : decode cX12_compares 85 = .ok (.lload_n 3, 1) := by decide +kernel
theorem dX12_compares_86 : decode cX12_compares 86 = .ok (.lcmp, 1) := by decide +kernel
theorem dX12_compares_87 : decode cX12_compares 87 = .ok (.ifCond .lt 7, 3) := by decide +kernel
theorem dX12_compares_90 : decode cX12_compares 90 = .ok (.iconst 1, 1) := by decide +kernel
theorem dX12_compares_91 : decode cX12_compares 91 = .ok (.goto 4, 3) := by decide +kernel
theorem dX12_compares_94 : decode cX12_compares 94 = .ok (.iconst 0, 1) := by decide +kernel
theorem dX12_compares_95 : decode cX12_compares 95 = .ok (.ireturn, 1) := by decide +kernel
theorem dX12_compares_96 : decode cX12_compares 96 = .ok (.lload_n 1, 1) := by decide +kernel
theorem dX12_compares_97 : decode cX12_compares 97 = .ok (.lload_n 3, 1) := by decide +kernel
theorem dX12_compares_98 : decode cX12_compares 98 = .ok (.lcmp, 1) := by decide +kernel
theorem dX12_compares_99 : decode cX12_compares 99 = .ok (.ifCond .le 7, 3) := by decide +kernel
theorem dX12_compares_102 : decode cX12_compares 102 = .ok (.iconst 1, 1) := by decide +kernel
theorem dX12_compares_103 : decode cX12_compares 103 = .ok (.goto 4, 3) := by decide +kernel
theorem dX12_compares_106 : decode cX12_compares 106 = .ok (.iconst 0, 1) := by decide +kernel
theorem dX12_compares_107 : decode cX12_compares 107 = .ok (.ireturn, 1) := by decide +kernel
theorem dX12_times_0 : decode cX12_times 0 = .ok (.lload_n 1, 1) := by decide +kernel
theorem dX12_times_1 : decode cX12_times 1 = .ok (.lconst 0, 1) := by decide +kernel
theorem dX12_times_2 : decode cX12_times 2 = .ok (.lcmp, 1) := by decide +kernel
theorem dX12_times_3 : decode cX12_times 3 = .ok (.ifCond .eq 45, 3) := by decide +kernel
