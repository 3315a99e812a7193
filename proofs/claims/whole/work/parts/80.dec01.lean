theorem dX7_init_37 : decode cX7_init 37 = .ok (.iconst 0, 1) := by decide +kernel
theorem dX7_init_38 : decode cX7_init 38 = .ok (.putfield 32, 3) := by decide +kernel
theorem dX7_init_41 : decode cX7_init 41 = .ok (.aload_n 0, 1) := by decide +kernel
theorem dX7_init_42 : decode cX7_init 42 = .ok (.bipush 72, 2) := by decide +kernel
theorem dX7_init_44 : decode cX7_init 44 = .ok (.newarray .int, 2) := by decide +kernel
theorem dX7_init_46 : decode cX7_init 46 = .ok (.putfield 35, 3) := by decide +kernel
theorem dX7_init_49 : decode cX7_init 49 = .ok (.aload_n 0, 1) := by decide +kernel
theorem dX7_init_50 : decode cX7_init 50 = .ok (.iconst 0, 1) := by decide +kernel
theorem dX7_init_51 : decode cX7_init 51 = .ok (.putfield 39, 3) := by decide +kernel
theorem dX7_init_54 : decode cX7_init 54 = .ok (.aload_n 0, 1) := by decide +kernel
theorem dX7_init_55 : decode cX7_init 55 = .ok (.iconst 0, 1) := by decide +kernel
theorem dX7_init_56 : decode cX7_init 56 = .ok (.putfield 42, 3) := by decide +kernel
theorem dX7_init_59 : decode cX7_init 59 = .ok (.aload_n 0, 1) := by decide +kernel
theorem dX7_init_60 : decode cX7_init 60 = .ok (.iconst 1, 1) := by decide +kernel
theorem dX7_init_61 : decode cX7_init 61 = .ok (.putfield 45, 3) := by decide +kernel
theorem dX7_init_64 : decode cX7_init 64 = .ok (.aload_n 0, 1) := by decide +kernel
theorem dX7_init_65 : decode cX7_init 65 = .ok (.iconst 1, 1) := by decide +kernel
theorem dX7_init_66 : decode cX7_init 66 = .ok (.putfield 49, 3) := by decide +kernel
theorem dX7_init_69 : decode cX7_init 69 = .ok (.return_, 1) := by decide +kernel
theorem dX7_readCase_0 : decode cX7_readCase 0 = .ok (.aload_n 0, 1) := by decide +kernel
theorem dX7_readCase_1 : decode cX7_readCase 1 = .ok (.getfield 21, 3) := by decide +kernel
theorem dX7_readCase_4 : decode cX7_readCase 4 = .ok (.invokevirtual 52, 3) := by decide +kernel
theorem dX7_readCase_7 : decode cX7_readCase 7 = .ok (.aload_n 0, 1) := by decide +kernel
theorem dX7_readCase_8 : decode cX7_readCase 8 = .ok (.iconst 0, 1) := by decide +kernel
theorem dX7_readCase_9 : decode cX7_readCase 9 = .ok (.putfield 25, 3) := by decide +kernel
theorem dX7_readCase_12 : decode cX7_readCase 12 = .ok (.aload_n 0, 1) := by decide +kernel
theorem dX7_readCase_13 : decode cX7_readCase 13 = .ok (.iconst (-1), 1) := by decide +kernel
theorem dX7_readCase_14 : decode cX7_readCase 14 = .ok (.putfield 29, 3) := by decide +kernel
theorem dX7_readCase_17 : decode cX7_readCase 17 = .ok (.iconst 1, 1) := by decide +kernel
theorem dX7_readCase_18 : decode cX7_readCase 18 = .ok (.istore_n 1, 1) := by decide +kernel
theorem dX7_readCase_19 : decode cX7_readCase 19 = .ok (.iconst 0, 1) := by decide +kernel
theorem dX7_readCase_20 : decode cX7_readCase 20 = .ok (.istore_n 2, 1) := by decide +kernel
theorem dX7_readCase_21 : decode cX7_readCase 21 = .ok (.iload_n 2, 1) := by decide +kernel
theorem dX7_readCase_22 : decode cX7_readCase 22 = .ok (.sipush 800, 3) := by decide +kernel
theorem dX7_readCase_25 : decode cX7_readCase 25 = .ok (.if_icmp .ge 62, 3) := by decide +kernel
theorem dX7_readCase_28 : decode cX7_readCase 28 = .ok (.iload_n 1, 1) := by decide +kernel
theorem dX7_readCase_29 : decode cX7_readCase 29 = .ok (.ifCond .eq 58, 3) := by decide +kernel
theorem dX7_readCase_32 : decode cX7_readCase 32 = .ok (.aload_n 0, 1) := by decide +kernel
theorem dX7_readCase_33 : decode cX7_readCase 33 = .ok (.getfield 12, 3) := by decide +kernel
theorem dX7_readCase_36 : decode cX7_readCase 36 = .ok (.getfield 55, 3) := by decide +kernel
theorem dX7_readCase_39 : decode cX7_readCase 39 = .ok (.sipush 1000, 3) := by decide +kernel
theorem dX7_readCase_42 : decode cX7_readCase 42 = .ok (.if_icmp .eq 45, 3) := by decide +kernel
theorem dX7_readCase_45 : decode cX7_readCase 45 = .ok (.aload_n 0, 1) := by decide +kernel
theorem dX7_readCase_46 : decode cX7_readCase 46 = .ok (.invokevirtual 58, 3) := by decide +kernel
theorem dX7_readCase_49 : decode cX7_readCase 49 = .ok (.ifCond .eq 17, 3) := by decide +kernel
theorem dX7_readCase_52 : decode cX7_readCase 52 = .ok (.aload_n 0, 1) := by decide +kernel
theorem dX7_readCase_53 : decode cX7_readCase 53 = .ok (.sipush 1010, 3) := by decide +kernel
theorem dX7_readCase_56 : decode cX7_readCase 56 = .ok (.invokevirtual 62, 3) := by decide +kernel
theorem dX7_readCase_59 : decode cX7_readCase 59 = .ok (.ifCond .eq 7, 3) := by decide +kernel
theorem dX7_readCase_62 : decode cX7_readCase 62 = .ok (.iconst 1, 1) := by decide +kernel
theorem dX7_readCase_63 : decode cX7_readCase 63 = .ok (.goto 4, 3) := by decide +kernel
theorem dX7_readCase_66 : decode cX7_readCase 66 = .ok (.iconst 0, 1) := by decide +kernel
theorem dX7_readCase_67 : decode cX7_readCase 67 = .ok (.istore_n 1, 1) := by decide +kernel
theorem dX7_readCase_68 : decode cX7_readCase 68 = .ok (.aload_n 0, 1) := by decide +kernel
theorem dX7_readCase_69 : decode cX7_readCase 69 = .ok (.getfield 21, 3) := by decide +kernel
theorem dX7_readCase_72 : decode cX7_readCase 72 = .ok (.dup, 1) := by decide +kernel
theorem dX7_readCase_73 : decode cX7_readCase 73 = .ok (.getfield 66, 3) := by decide +kernel
theorem dX7_readCase_76 : decode cX7_readCase 76 = .ok (.iconst 1, 1) := by decide +kernel
theorem dX7_readCase_77 : decode cX7_readCase 77 = .ok (.iadd, 1) := by decide +kernel
theorem dX7_readCase_78 : decode cX7_readCase 78 = .ok (.putfield 66, 3) := by decide +kernel
theorem dX7_readCase_81 : decode cX7_readCase 81 = .ok (.iinc 2 1, 3) := by decide +kernel
theorem dX7_readCase_84 : decode cX7_readCase 84 = .ok (.goto (-63), 3) := by decide +kernel
theorem dX7_readCase_87 : decode cX7_readCase 87 = .ok (.aload_n 0, 1) := by decide +kernel
theorem dX7_readCase_88 : decode cX7_readCase 88 = .ok (.getfield 21, 3) := by decide +kernel
theorem dX7_readCase_91 : decode cX7_readCase 91 = .ok (.getfield 69, 3) := by decide +kernel
theorem dX7_readCase_94 : decode cX7_readCase 94 = .ok (.aload_n 0, 1) := by decide +kernel
theorem dX7_readCase_95 : decode cX7_readCase 95 = .ok (.getfield 21, 3) := by decide +kernel
theorem dX7_readCase_98 : decode cX7_readCase 98 = .ok (.getfield 69, 3) := by decide +kernel
theorem dX7_readCase_101 : decode cX7_readCase 101 = .ok (.getfield 73, 3) := by decide +kernel
theorem dX7_readCase_104 : decode cX7_readCase 104 = .ok (.putfield 78, 3) := by decide +kernel
theorem dX7_readCase_107 : decode cX7_readCase 107 = .ok (.iload_n 1, 1) := by decide +kernel
theorem dX7_readCase_108 : decode cX7_readCase 108 = .ok (.ireturn, 1) := by decide +kernel
theorem dX7_readLine_0 : decode cX7_readLine 0 = .ok (.aload_n 0, 1) := by decide +kernel
theorem dX7_readLine_1 : decode cX7_readLine 1 = .ok (.getfield 12, 3) := by decide +kernel
theorem dX7_readLine_4 : decode cX7_readLine 4 = .ok (.getfield 55, 3) := by decide +kernel
theorem dX7_readLine_7 : decode cX7_readLine 7 = .ok (.tableswitch 132 1100 1113 #[69, 132, 132, 132, 74, 132, 132, 132, 79, 85, 91, 96, 108, 120], 69) := by decide +kernel
theorem dX7_readLine_76 : decode cX7_readLine 76 = .ok (.aload_n 0, 1) := by decide +kernel
theorem dX7_readLine_77 : decode cX7_readLine 77 = .ok (.invokevirtual 81, 3) := by decide +kernel
theorem dX7_readLine_80 : decode cX7_readLine 80 = .ok (.ireturn, 1) := by decide +kernel
theorem dX7_readLine_81 : decode cX7_readLine 81 = .ok (.aload_n 0, 1) := by decide +kernel
theorem dX7_readLine_82 : decode cX7_readLine 82 = .ok (.invokevirtual 84, 3) := by decide +kernel
theorem dX7_readLine_85 : decode cX7_readLine 85 = .ok (.ireturn, 1) := by decide +kernel
theorem dX7_readLine_86 : decode cX7_readLine 86 = .ok (.aload_n 0, 1) := by decide +kernel
theorem dX7_readLine_87 : decode cX7_readLine 87 = .ok (.iconst 0, 1) := by decide +kernel
theorem dX7_readLine_88 : decode cX7_readLine 88 = .ok (.invokevirtual 87, 3) := by decide +kernel
theorem dX7_readLine_91 : decode cX7_readLine 91 = .ok (.ireturn, 1) := by decide +kernel
theorem dX7_readLine_92 : decode cX7_readLine 92 = .ok (.aload_n 0, 1) := by decide +kernel
theorem dX7_readLine_93 : decode cX7_readLine 93 = .ok (.iconst 1, 1) := by decide +kernel
theorem dX7_readLine_94 : decode cX7_readLine 94 = .ok (.invokevirtual 87, 3) := by decide +kernel
theorem dX7_readLine_97 : decode cX7_readLine 97 = .ok (.ireturn, 1) := by decide +kernel
theorem dX7_readLine_98 : decode cX7_readLine 98 = .ok (.aload_n 0, 1) := by decide +kernel
theorem dX7_readLine_99 : decode cX7_readLine 99 = .ok (.invokevirtual 91, 3) := by decide +kernel
theorem dX7_readLine_102 : decode cX7_readLine 102 = .ok (.ireturn, 1) := by decide +kernel
theorem dX7_readLine_103 : decode cX7_readLine 103 = .ok (.aload_n 0, 1) := by decide +kernel
theorem dX7_readLine_104 : decode cX7_readLine 104 = .ok (.aload_n 0, 1) := by decide +kernel
theorem dX7_readLine_105 : decode cX7_readLine 105 = .ok (.getfield 21, 3) := by decide +kernel
theorem dX7_readLine_108 : decode cX7_readLine 108 = .ok (.getfield 94, 3) := by decide +kernel
theorem dX7_readLine_111 : decode cX7_readLine 111 = .ok (.invokevirtual 98, 3) := by decide +kernel
theorem dX7_readLine_114 : decode cX7_readLine 114 = .ok (.ireturn, 1) := by decide +kernel
theorem dX7_readLine_115 : decode cX7_readLine 115 = .ok (.aload_n 0, 1) := by decide +kernel
theorem dX7_readLine_116 : decode cX7_readLine 116 = .ok (.aload_n 0, 1) := by decide +kernel
theorem dX7_readLine_117 : decode cX7_readLine 117 = .ok (.getfield 21, 3) := by decide +kernel
theorem dX7_readLine_120 : decode cX7_readLine 120 = .ok (.getfield 102, 3) := by decide +kernel
theorem dX7_readLine_123 : decode cX7_readLine 123 = .ok (.invokevirtual 98, 3) := by decide +kernel
theorem dX7_readLine_126 : decode cX7_readLine 126 = .ok (.ireturn, 1) := by decide +kernel
theorem dX7_readLine_127 : decode cX7_readLine 127 = .ok (.aload_n 0, 1) := by decide +kernel
theorem dX7_readLine_128 : decode cX7_readLine 128 = .ok (.aload_n 0, 1) := by decide +kernel
theorem dX7_readLine_129 : decode cX7_readLine 129 = .ok (.getfield 21, 3) := by decide +kernel
theorem dX7_readLine_132 : decode cX7_readLine 132 = .ok (.getfield 105, 3) := by decide +kernel
theorem dX7_readLine_135 : decode cX7_readLine 135 = .ok (.invokevirtual 98, 3) := by decide +kernel
theorem dX7_readLine_138 : decode cX7_readLine 138 = .ok (.ireturn, 1) := by decide +kernel
theorem dX7_readLine_139 : decode cX7_readLine 139 = .ok (.aload_n 0, 1) := by decide +kernel
theorem dX7_readLine_140 : decode cX7_readLine 140 = .ok (.iconst 1, 1) := by decide +kernel
theorem dX7_readLine_141 : decode cX7_readLine 141 = .ok (.invokevirtual 108, 3) := by decide +kernel
theorem dX7_readLine_144 : decode cX7_readLine 144 = .ok (.ireturn, 1) := by decide +kernel
theorem dX7_wrong_0 : decode cX7_wrong 0 = .ok (.aload_n 0, 1) := by decide +kernel
theorem dX7_wrong_1 : decode cX7_wrong 1 = .ok (.iload_n 1, 1) := by decide +kernel
theorem dX7_wrong_2 : decode cX7_wrong 2 = .ok (.putfield 25, 3) := by decide +kernel
theorem dX7_wrong_5 : decode cX7_wrong 5 = .ok (.aload_n 0, 1) := by decide +kernel
theorem dX7_wrong_6 : decode cX7_wrong 6 = .ok (.aload_n 0, 1) := by decide +kernel
theorem dX7_wrong_7 : decode cX7_wrong 7 = .ok (.getfield 12, 3) := by decide +kernel
theorem dX7_wrong_10 : decode cX7_wrong 10 = .ok (.getfield 111, 3) := by decide +kernel
theorem dX7_wrong_13 : decode cX7_wrong 13 = .ok (.putfield 29, 3) := by decide +kernel
theorem dX7_wrong_16 : decode cX7_wrong 16 = .ok (.iconst 0, 1) := by decide +kernel
theorem dX7_wrong_17 : decode cX7_wrong 17 = .ok (.ireturn, 1) := by decide +kernel
theorem dX7_take_0 : decode cX7_take 0 = .ok (.aload_n 0, 1) := by decide +kernel
theorem dX7_take_1 : decode cX7_take 1 = .ok (.getfield 12, 3) := by decide +kernel
theorem dX7_take_4 : decode cX7_take 4 = .ok (.getfield 55, 3) := by decide +kernel
theorem dX7_take_7 : decode cX7_take 7 = .ok (.iload_n 1, 1) := by decide +kernel
theorem dX7_take_8 : decode cX7_take 8 = .ok (.if_icmp .eq 9, 3) := by decide +kernel
theorem dX7_take_11 : decode cX7_take 11 = .ok (.aload_n 0, 1) := by decide +kernel
theorem dX7_take_12 : decode cX7_take 12 = .ok (.iconst 1, 1) := by decide +kernel
theorem dX7_take_13 : decode cX7_take 13 = .ok (.invokevirtual 108, 3) := by decide +kernel
theorem dX7_take_16 : decode cX7_take 16 = .ok (.ireturn, 1) := by decide +kernel
theorem dX7_take_17 : decode cX7_take 17 = .ok (.aload_n 0, 1) := by decide +kernel
theorem dX7_take_18 : decode cX7_take 18 = .ok (.aload_n 0, 1) := by decide +kernel
theorem dX7_take_19 : decode cX7_take 19 = .ok (.getfield 12, 3) := by decide +kernel
theorem dX7_take_22 : decode cX7_take 22 = .ok (.getfield 112, 3) := by decide +kernel
theorem dX7_take_25 : decode cX7_take 25 = .ok (.putfield 32, 3) := by decide +kernel
theorem dX7_take_28 : decode cX7_take 28 = .ok (.aload_n 0, 1) := by decide +kernel
theorem dX7_take_29 : decode cX7_take 29 = .ok (.getfield 12, 3) := by decide +kernel
theorem dX7_take_32 : decode cX7_take 32 = .ok (.invokevirtual 115, 3) := by decide +kernel
theorem dX7_take_35 : decode cX7_take 35 = .ok (.iconst 1, 1) := by decide +kernel
theorem dX7_take_36 : decode cX7_take 36 = .ok (.ireturn, 1) := by decide +kernel
theorem dX7_takeNumber_0 : decode cX7_takeNumber 0 = .ok (.aload_n 0, 1) := by decide +kernel
theorem dX7_takeNumber_1 : decode cX7_takeNumber 1 = .ok (.getfield 12, 3) := by decide +kernel
theorem dX7_takeNumber_4 : decode cX7_takeNumber 4 = .ok (.getfield 55, 3) := by decide +kernel
theorem dX7_takeNumber_7 : decode cX7_takeNumber 7 = .ok (.sipush 1002, 3) := by decide +kernel
theorem dX7_takeNumber_10 : decode cX7_takeNumber 10 = .ok (.if_icmp .ne 31, 3) := by decide +kernel
theorem dX7_takeNumber_13 : decode cX7_takeNumber 13 = .ok (.aload_n 0, 1) := by decide +kernel
theorem dX7_takeNumber_14 : decode cX7_takeNumber 14 = .ok (.getfield 12, 3) := by decide +kernel
theorem dX7_takeNumber_17 : decode cX7_takeNumber 17 = .ok (.getfield 112, 3) := by decide +kernel
theorem dX7_takeNumber_20 : decode cX7_takeNumber 20 = .ok (.iload_n 1, 1) := by decide +kernel
theorem dX7_takeNumber_21 : decode cX7_takeNumber 21 = .ok (.if_icmp .lt 14, 3) := by decide +kernel
theorem dX7_takeNumber_24 : decode cX7_takeNumber 24 = .ok (.aload_n 0, 1) := by decide +kernel
theorem dX7_takeNumber_25 : decode cX7_takeNumber 25 = .ok (.getfield 12, 3) := by decide +kernel
theorem dX7_takeNumber_28 : decode cX7_takeNumber 28 = .ok (.getfield 112, 3) := by decide +kernel
theorem dX7_takeNumber_31 : decode cX7_takeNumber 31 = .ok (.iload_n 2, 1) := by decide +kernel
theorem dX7_takeNumber_32 : decode cX7_takeNumber 32 = .ok (.if_icmp .le 9, 3) := by decide +kernel
theorem dX7_takeNumber_35 : decode cX7_takeNumber 35 = .ok (.aload_n 0, 1) := by decide +kernel
theorem dX7_takeNumber_36 : decode cX7_takeNumber 36 = .ok (.iconst 2, 1) := by decide +kernel
theorem dX7_takeNumber_37 : decode cX7_takeNumber 37 = .ok (.invokevirtual 108, 3) := by decide +kernel
theorem dX7_takeNumber_40 : decode cX7_takeNumber 40 = .ok (.ireturn, 1) := by decide +kernel
theorem dX7_takeNumber_41 : decode cX7_takeNumber 41 = .ok (.aload_n 0, 1) := by decide +kernel
theorem dX7_takeNumber_42 : decode cX7_takeNumber 42 = .ok (.sipush 1002, 3) := by decide +kernel
theorem dX7_takeNumber_45 : decode cX7_takeNumber 45 = .ok (.invokevirtual 62, 3) := by decide +kernel
theorem dX7_takeNumber_48 : decode cX7_takeNumber 48 = .ok (.ireturn, 1) := by decide +kernel
theorem dX7_takeHour_0 : decode cX7_takeHour 0 = .ok (.aload_n 0, 1) := by decide +kernel
theorem dX7_takeHour_1 : decode cX7_takeHour 1 = .ok (.getfield 12, 3) := by decide +kernel
theorem dX7_takeHour_4 : decode cX7_takeHour 4 = .ok (.getfield 112, 3) := by decide +kernel
theorem dX7_takeHour_7 : decode cX7_takeHour 7 = .ok (.istore_n 2, 1) := by decide +kernel
theorem dX7_takeHour_8 : decode cX7_takeHour 8 = .ok (.iload_n 2, 1) := by decide +kernel
theorem dX7_takeHour_9 : decode cX7_takeHour 9 = .ok (.aload_n 0, 1) := by decide +kernel
theorem dX7_takeHour_10 : decode cX7_takeHour 10 = .ok (.getfield 21, 3) := by decide +kernel
theorem dX7_takeHour_13 : decode cX7_takeHour 13 = .ok (.getfield 118, 3) := by decide +kernel
theorem dX7_takeHour_16 : decode cX7_takeHour 16 = .ok (.getfield 122, 3) := by decide +kernel
theorem dX7_takeHour_19 : decode cX7_takeHour 19 = .ok (.iload_n 1, 1) := by decide +kernel
theorem dX7_takeHour_20 : decode cX7_takeHour 20 = .ok (.iaload, 1) := by decide +kernel
theorem dX7_takeHour_21 : decode cX7_takeHour 21 = .ok (.if_icmp .lt 23, 3) := by decide +kernel
theorem dX7_takeHour_24 : decode cX7_takeHour 24 = .ok (.iload_n 2, 1) := by decide +kernel
theorem dX7_takeHour_25 : decode cX7_takeHour 25 = .ok (.aload_n 0, 1) := by decide +kernel
theorem dX7_takeHour_26 : decode cX7_takeHour 26 = .ok (.getfield 21, 3) := by decide +kernel
theorem dX7_takeHour_29 : decode cX7_takeHour 29 = .ok (.getfield 118, 3) := by decide +kernel
theorem dX7_takeHour_32 : decode cX7_takeHour 32 = .ok (.getfield 127, 3) := by decide +kernel
theorem dX7_takeHour_35 : decode cX7_takeHour 35 = .ok (.iload_n 1, 1) := by decide +kernel
theorem dX7_takeHour_36 : decode cX7_takeHour 36 = .ok (.iaload, 1) := by decide +kernel
theorem dX7_takeHour_37 : decode cX7_takeHour 37 = .ok (.if_icmp .gt 7, 3) := by decide +kernel
theorem dX7_takeHour_40 : decode cX7_takeHour 40 = .ok (.iconst 1, 1) := by decide +kernel
theorem dX7_takeHour_41 : decode cX7_takeHour 41 = .ok (.goto 4, 3) := by decide +kernel
theorem dX7_takeHour_44 : decode cX7_takeHour 44 = .ok (.iconst 0, 1) := by decide +kernel
theorem dX7_takeHour_45 : decode cX7_takeHour 45 = .ok (.istore_n 3, 1) := by decide +kernel
theorem dX7_takeHour_46 : decode cX7_takeHour 46 = .ok (.aload_n 0, 1) := by decide +kernel
theorem dX7_takeHour_47 : decode cX7_takeHour 47 = .ok (.getfield 12, 3) := by decide +kernel
theorem dX7_takeHour_50 : decode cX7_takeHour 50 = .ok (.getfield 55, 3) := by decide +kernel
theorem dX7_takeHour_53 : decode cX7_takeHour 53 = .ok (.sipush 1002, 3) := by decide +kernel
theorem dX7_takeHour_56 : decode cX7_takeHour 56 = .ok (.if_icmp .ne 28, 3) := by decide +kernel
theorem dX7_takeHour_59 : decode cX7_takeHour 59 = .ok (.iload_n 3, 1) := by decide +kernel
theorem dX7_takeHour_60 : decode cX7_takeHour 60 = .ok (.ifCond .eq 24, 3) := by decide +kernel
theorem dX7_takeHour_63 : decode cX7_takeHour 63 = .ok (.iload_n 2, 1) := by decide +kernel
theorem dX7_takeHour_64 : decode cX7_takeHour 64 = .ok (.aload_n 0, 1) := by decide +kernel
theorem dX7_takeHour_65 : decode cX7_takeHour 65 = .ok (.getfield 21, 3) := by decide +kernel
theorem dX7_takeHour_68 : decode cX7_takeHour 68 = .ok (.getfield 69, 3) := by decide +kernel
theorem dX7_takeHour_71 : decode cX7_takeHour 71 = .ok (.iload_n 1, 1) := by decide +kernel
theorem dX7_takeHour_72 : decode cX7_takeHour 72 = .ok (.invokevirtual 130, 3) := by decide +kernel
theorem dX7_takeHour_75 : decode cX7_takeHour 75 = .ok (.if_icmp .ge 9, 3) := by decide +kernel
theorem dX7_takeHour_78 : decode cX7_takeHour 78 = .ok (.aload_n 0, 1) := by decide +kernel
theorem dX7_takeHour_79 : decode cX7_takeHour 79 = .ok (.iconst 5, 1) := by decide +kernel
theorem dX7_takeHour_80 : decode cX7_takeHour 80 = .ok (.invokevirtual 108, 3) := by decide +kernel
theorem dX7_takeHour_83 : decode cX7_takeHour 83 = .ok (.ireturn, 1) := by decide +kernel
theorem dX7_takeHour_84 : decode cX7_takeHour 84 = .ok (.aload_n 0, 1) := by decide +kernel
theorem dX7_takeHour_85 : decode cX7_takeHour 85 = .ok (.aload_n 0, 1) := by decide +kernel
theorem dX7_takeHour_86 : decode cX7_takeHour 86 = .ok (.getfield 21, 3) := by decide +kernel
theorem dX7_takeHour_89 : decode cX7_takeHour 89 = .ok (.getfield 118, 3) := by decide +kernel
theorem dX7_takeHour_92 : decode cX7_takeHour 92 = .ok (.getfield 122, 3) := by decide +kernel
theorem dX7_takeHour_95 : decode cX7_takeHour 95 = .ok (.iload_n 1, 1) := by decide +kernel
theorem dX7_takeHour_96 : decode cX7_takeHour 96 = .ok (.iaload, 1) := by decide +kernel
theorem dX7_takeHour_97 : decode cX7_takeHour 97 = .ok (.aload_n 0, 1) := by decide +kernel
theorem dX7_takeHour_98 : decode cX7_takeHour 98 = .ok (.getfield 21, 3) := by decide +kernel
theorem dX7_takeHour_101 : decode cX7_takeHour 101 = .ok (.getfield 118, 3) := by decide +kernel
theorem dX7_takeHour_104 : decode cX7_takeHour 104 = .ok (.getfield 127, 3) := by decide +kernel
theorem dX7_takeHour_107 : decode cX7_takeHour 107 = .ok (.iload_n 1, 1) := by decide +kernel
theorem dX7_takeHour_108 : decode cX7_takeHour 108 = .ok (.iaload, 1) := by decide +kernel
theorem dX7_takeHour_109 : decode cX7_takeHour 109 = .ok (.invokevirtual 134, 3) := by decide +kernel
theorem dX7_takeHour_112 : decode cX7_takeHour 112 = .ok (.ireturn, 1) := by decide +kernel
theorem dX7_takeNewName_0 : decode cX7_takeNewName 0 = .ok (.aload_n 0, 1) := by decide +kernel
theorem dX7_takeNewName_1 : decode cX7_takeNewName 1 = .ok (.getfield 12, 3) := by decide +kernel
theorem dX7_takeNewName_4 : decode cX7_takeNewName 4 = .ok (.getfield 55, 3) := by decide +kernel
theorem dX7_takeNewName_7 : decode cX7_takeNewName 7 = .ok (.sipush 1003, 3) := by decide +kernel
theorem dX7_takeNewName_10 : decode cX7_takeNewName 10 = .ok (.if_icmp .ne 14, 3) := by decide +kernel
theorem dX7_takeNewName_13 : decode cX7_takeNewName 13 = .ok (.iload_n 1, 1) := by decide +kernel
theorem dX7_takeNewName_14 : decode cX7_takeNewName 14 = .ok (.iconst (-1), 1) := by decide +kernel
theorem dX7_takeNewName_15 : decode cX7_takeNewName 15 = .ok (.if_icmp .eq 9, 3) := by decide +kernel
theorem dX7_takeNewName_18 : decode cX7_takeNewName 18 = .ok (.aload_n 0, 1) := by decide +kernel
theorem dX7_takeNewName_19 : decode cX7_takeNewName 19 = .ok (.iconst 3, 1) := by decide +kernel
theorem dX7_takeNewName_20 : decode cX7_takeNewName 20 = .ok (.invokevirtual 108, 3) := by decide +kernel
theorem dX7_takeNewName_23 : decode cX7_takeNewName 23 = .ok (.ireturn, 1) := by decide +kernel
theorem dX7_takeNewName_24 : decode cX7_takeNewName 24 = .ok (.aload_n 0, 1) := by decide +kernel
theorem dX7_takeNewName_25 : decode cX7_takeNewName 25 = .ok (.sipush 1003, 3) := by decide +kernel
theorem dX7_takeNewName_28 : decode cX7_takeNewName 28 = .ok (.invokevirtual 62, 3) := by decide +kernel
theorem dX7_takeNewName_31 : decode cX7_takeNewName 31 = .ok (.ireturn, 1) := by decide +kernel
theorem dX7_takeOldName_0 : decode cX7_takeOldName 0 = .ok (.aload_n 0, 1) := by decide +kernel
theorem dX7_takeOldName_1 : decode cX7_takeOldName 1 = .ok (.getfield 12, 3) := by decide +kernel
theorem dX7_takeOldName_4 : decode cX7_takeOldName 4 = .ok (.getfield 55, 3) := by decide +kernel
theorem dX7_takeOldName_7 : decode cX7_takeOldName 7 = .ok (.sipush 1003, 3) := by decide +kernel
theorem dX7_takeOldName_10 : decode cX7_takeOldName 10 = .ok (.if_icmp .ne 14, 3) := by decide +kernel
theorem dX7_takeOldName_13 : decode cX7_takeOldName 13 = .ok (.iload_n 1, 1) := by decide +kernel
theorem dX7_takeOldName_14 : decode cX7_takeOldName 14 = .ok (.iconst (-1), 1) := by decide +kernel
theorem dX7_takeOldName_15 : decode cX7_takeOldName 15 = .ok (.if_icmp .ne 9, 3) := by decide +kernel
theorem dX7_takeOldName_18 : decode cX7_takeOldName 18 = .ok (.aload_n 0, 1) := by decide +kernel
theorem dX7_takeOldName_19 : decode cX7_takeOldName 19 = .ok (.iconst 4, 1) := by decide +kernel
theorem dX7_takeOldName_20 : decode cX7_takeOldName 20 = .ok (.invokevirtual 108, 3) := by decide +kernel
theorem dX7_takeOldName_23 : decode cX7_takeOldName 23 = .ok (.ireturn, 1) := by decide +kernel
theorem dX7_takeOldName_24 : decode cX7_takeOldName 24 = .ok (.aload_n 0, 1) := by decide +kernel
theorem dX7_takeOldName_25 : decode cX7_takeOldName 25 = .ok (.sipush 1003, 3) := by decide +kernel
theorem dX7_takeOldName_28 : decode cX7_takeOldName 28 = .ok (.invokevirtual 62, 3) := by decide +kernel
theorem dX7_takeOldName_31 : decode cX7_takeOldName 31 = .ok (.istore_n 2, 1) := by decide +kernel
theorem dX7_takeOldName_32 : decode cX7_takeOldName 32 = .ok (.aload_n 0, 1) := by decide +kernel
theorem dX7_takeOldName_33 : decode cX7_takeOldName 33 = .ok (.iload_n 1, 1) := by decide +kernel
theorem dX7_takeOldName_34 : decode cX7_takeOldName 34 = .ok (.putfield 32, 3) := by decide +kernel
theorem dX7_takeOldName_37 : decode cX7_takeOldName 37 = .ok (.iload_n 2, 1) := by decide +kernel
theorem dX7_takeOldName_38 : decode cX7_takeOldName 38 = .ok (.ireturn, 1) := by decide +kernel
theorem dX7_takeTeller_0 : decode cX7_takeTeller 0 = .ok (.aload_n 0, 1) := by decide +kernel
theorem dX7_takeTeller_1 : decode cX7_takeTeller 1 = .ok (.aload_n 0, 1) := by decide +kernel
theorem dX7_takeTeller_2 : decode cX7_takeTeller 2 = .ok (.getfield 21, 3) := by decide +kernel
theorem dX7_takeTeller_5 : decode cX7_takeTeller 5 = .ok (.getfield 118, 3) := by decide +kernel
theorem dX7_takeTeller_8 : decode cX7_takeTeller 8 = .ok (.aload_n 0, 1) := by decide +kernel
theorem dX7_takeTeller_9 : decode cX7_takeTeller 9 = .ok (.getfield 12, 3) := by decide +kernel
theorem dX7_takeTeller_12 : decode cX7_takeTeller 12 = .ok (.getfield 112, 3) := by decide +kernel
theorem dX7_takeTeller_15 : decode cX7_takeTeller 15 = .ok (.invokevirtual 138, 3) := by decide +kernel
theorem dX7_takeTeller_18 : decode cX7_takeTeller 18 = .ok (.invokevirtual 141, 3) := by decide +kernel
theorem dX7_takeTeller_21 : decode cX7_takeTeller 21 = .ok (.ireturn, 1) := by decide +kernel
theorem dX7_takeThing_0 : decode cX7_takeThing 0 = .ok (.aload_n 0, 1) := by decide +kernel
theorem dX7_takeThing_1 : decode cX7_takeThing 1 = .ok (.aload_n 0, 1) := by decide +kernel
theorem dX7_takeThing_2 : decode cX7_takeThing 2 = .ok (.getfield 21, 3) := by decide +kernel
theorem dX7_takeThing_5 : decode cX7_takeThing 5 = .ok (.getfield 144, 3) := by decide +kernel
theorem dX7_takeThing_8 : decode cX7_takeThing 8 = .ok (.aload_n 0, 1) := by decide +kernel
theorem dX7_takeThing_9 : decode cX7_takeThing 9 = .ok (.getfield 12, 3) := by decide +kernel
theorem dX7_takeThing_12 : decode cX7_takeThing 12 = .ok (.getfield 112, 3) := by decide +kernel
theorem dX7_takeThing_15 : decode cX7_takeThing 15 = .ok (.invokevirtual 148, 3) := by decide +kernel
theorem dX7_takeThing_18 : decode cX7_takeThing 18 = .ok (.invokevirtual 141, 3) := by decide +kernel
theorem dX7_takeThing_21 : decode cX7_takeThing 21 = .ok (.ireturn, 1) := by decide +kernel
theorem dX7_takeValue_0 : decode cX7_takeValue 0 = .ok (.aload_n 0, 1) := by decide +kernel
theorem dX7_takeValue_1 : decode cX7_takeValue 1 = .ok (.iconst 0, 1) := by decide +kernel
theorem dX7_takeValue_2 : decode cX7_takeValue 2 = .ok (.aload_n 0, 1) := by decide +kernel
theorem dX7_takeValue_3 : decode cX7_takeValue 3 = .ok (.getfield 21, 3) := by decide +kernel
theorem dX7_takeValue_6 : decode cX7_takeValue 6 = .ok (.getfield 144, 3) := by decide +kernel
theorem dX7_takeValue_9 : decode cX7_takeValue 9 = .ok (.getfield 151, 3) := by decide +kernel
theorem dX7_takeValue_12 : decode cX7_takeValue 12 = .ok (.iload_n 1, 1) := by decide +kernel
theorem dX7_takeValue_13 : decode cX7_takeValue 13 = .ok (.iaload, 1) := by decide +kernel
theorem dX7_takeValue_14 : decode cX7_takeValue 14 = .ok (.iconst 1, 1) := by decide +kernel
theorem dX7_takeValue_15 : decode cX7_takeValue 15 = .ok (.isub, 1) := by decide +kernel
theorem dX7_takeValue_16 : decode cX7_takeValue 16 = .ok (.invokevirtual 134, 3) := by decide +kernel
theorem dX7_takeValue_19 : decode cX7_takeValue 19 = .ok (.ireturn, 1) := by decide +kernel
theorem dX7_readThing_0 : decode cX7_readThing 0 = .ok (.aload_n 0, 1) := by decide +kernel
theorem dX7_readThing_1 : decode cX7_readThing 1 = .ok (.getfield 21, 3) := by decide +kernel
theorem dX7_readThing_4 : decode cX7_readThing 4 = .ok (.getfield 144, 3) := by decide +kernel
theorem dX7_readThing_7 : decode cX7_readThing 7 = .ok (.astore_n 1, 1) := by decide +kernel
theorem dX7_readThing_8 : decode cX7_readThing 8 = .ok (.aload_n 1, 1) := by decide +kernel
theorem dX7_readThing_9 : decode cX7_readThing 9 = .ok (.getfield 154, 3) := by decide +kernel
theorem dX7_readThing_12 : decode cX7_readThing 12 = .ok (.bipush 8, 2) := by decide +kernel
theorem dX7_readThing_14 : decode cX7_readThing 14 = .ok (.if_icmp .lt 9, 3) := by decide +kernel
theorem dX7_readThing_17 : decode cX7_readThing 17 = .ok (.aload_n 0, 1) := by decide +kernel
theorem dX7_readThing_18 : decode cX7_readThing 18 = .ok (.iconst 2, 1) := by decide +kernel
theorem dX7_readThing_19 : decode cX7_readThing 19 = .ok (.invokevirtual 108, 3) := by decide +kernel
theorem dX7_readThing_22 : decode cX7_readThing 22 = .ok (.ireturn, 1) := by decide +kernel
theorem dX7_readThing_23 : decode cX7_readThing 23 = .ok (.aload_n 0, 1) := by decide +kernel
theorem dX7_readThing_24 : decode cX7_readThing 24 = .ok (.getfield 12, 3) := by decide +kernel
theorem dX7_readThing_27 : decode cX7_readThing 27 = .ok (.invokevirtual 115, 3) := by decide +kernel
theorem dX7_readThing_30 : decode cX7_readThing 30 = .ok (.aload_n 0, 1) := by decide +kernel
theorem dX7_readThing_31 : decode cX7_readThing 31 = .ok (.aload_n 1, 1) := by decide +kernel
theorem dX7_readThing_32 : decode cX7_readThing 32 = .ok (.aload_n 0, 1) := by decide +kernel
theorem dX7_readThing_33 : decode cX7_readThing 33 = .ok (.getfield 12, 3) := by decide +kernel
theorem dX7_readThing_36 : decode cX7_readThing 36 = .ok (.getfield 112, 3) := by decide +kernel
theorem dX7_readThing_39 : decode cX7_readThing 39 = .ok (.invokevirtual 148, 3) := by decide +kernel
theorem dX7_readThing_42 : decode cX7_readThing 42 = .ok (.invokevirtual 155, 3) := by decide +kernel
theorem dX7_readThing_45 : decode cX7_readThing 45 = .ok (.ifCond .ne 5, 3) := by decide +kernel
theorem dX7_readThing_48 : decode cX7_readThing 48 = .ok (.iconst 0, 1) := by decide +kernel
theorem dX7_readThing_49 : decode cX7_readThing 49 = .ok (.ireturn, 1) := by decide +kernel
theorem dX7_readThing_50 : decode cX7_readThing 50 = .ok (.aload_n 0, 1) := by decide +kernel
theorem dX7_readThing_51 : decode cX7_readThing 51 = .ok (.getfield 32, 3) := by decide +kernel
theorem dX7_readThing_54 : decode cX7_readThing 54 = .ok (.istore_n 2, 1) := by decide +kernel
theorem dX7_readThing_55 : decode cX7_readThing 55 = .ok (.aload_n 0, 1) := by decide +kernel
theorem dX7_readThing_56 : decode cX7_readThing 56 = .ok (.iconst 2, 1) := by decide +kernel
theorem dX7_readThing_57 : decode cX7_readThing 57 = .ok (.bipush 9, 2) := by decide +kernel
theorem dX7_readThing_59 : decode cX7_readThing 59 = .ok (.invokevirtual 134, 3) := by decide +kernel
theorem dX7_readThing_62 : decode cX7_readThing 62 = .ok (.ifCond .ne 5, 3) := by decide +kernel
theorem dX7_readThing_65 : decode cX7_readThing 65 = .ok (.iconst 0, 1) := by decide +kernel
theorem dX7_readThing_66 : decode cX7_readThing 66 = .ok (.ireturn, 1) := by decide +kernel
theorem dX7_readThing_67 : decode cX7_readThing 67 = .ok (.aload_n 0, 1) := by decide +kernel
theorem dX7_readThing_68 : decode cX7_readThing 68 = .ok (.getfield 32, 3) := by decide +kernel
theorem dX7_readThing_71 : decode cX7_readThing 71 = .ok (.istore_n 3, 1) := by decide +kernel
theorem dX7_readThing_72 : decode cX7_readThing 72 = .ok (.aload_n 0, 1) := by decide +kernel
theorem dX7_readThing_73 : decode cX7_readThing 73 = .ok (.sipush 1101, 3) := by decide +kernel
theorem dX7_readThing_76 : decode cX7_readThing 76 = .ok (.invokevirtual 62, 3) := by decide +kernel
theorem dX7_readThing_79 : decode cX7_readThing 79 = .ok (.ifCond .eq 14, 3) := by decide +kernel
theorem dX7_readThing_82 : decode cX7_readThing 82 = .ok (.aload_n 0, 1) := by decide +kernel
theorem dX7_readThing_83 : decode cX7_readThing 83 = .ok (.iconst 0, 1) := by decide +kernel
theorem dX7_readThing_84 : decode cX7_readThing 84 = .ok (.iload_n 3, 1) := by decide +kernel
theorem dX7_readThing_85 : decode cX7_readThing 85 = .ok (.iconst 1, 1) := by decide +kernel
theorem dX7_readThing_86 : decode cX7_readThing 86 = .ok (.isub, 1) := by decide +kernel
theorem dX7_readThing_87 : decode cX7_readThing 87 = .ok (.invokevirtual 134, 3) := by decide +kernel
theorem dX7_readThing_90 : decode cX7_readThing 90 = .ok (.ifCond .ne 5, 3) := by decide +kernel
theorem dX7_readThing_93 : decode cX7_readThing 93 = .ok (.iconst 0, 1) := by decide +kernel
theorem dX7_readThing_94 : decode cX7_readThing 94 = .ok (.ireturn, 1) := by decide +kernel
theorem dX7_readThing_95 : decode cX7_readThing 95 = .ok (.aload_n 1, 1) := by decide +kernel
theorem dX7_readThing_96 : decode cX7_readThing 96 = .ok (.iload_n 2, 1) := by decide +kernel
theorem dX7_readThing_97 : decode cX7_readThing 97 = .ok (.iload_n 3, 1) := by decide +kernel
theorem dX7_readThing_98 : decode cX7_readThing 98 = .ok (.aload_n 0, 1) := by decide +kernel
theorem dX7_readThing_99 : decode cX7_readThing 99 = .ok (.getfield 32, 3) := by decide +kernel
theorem dX7_readThing_102 : decode cX7_readThing 102 = .ok (.invokevirtual 158, 3) := by decide +kernel
theorem dX7_readThing_105 : decode cX7_readThing 105 = .ok (.iconst 1, 1) := by decide +kernel
theorem dX7_readThing_106 : decode cX7_readThing 106 = .ok (.istore 4, 2) := by decide +kernel
theorem dX7_readThing_108 : decode cX7_readThing 108 = .ok (.iconst 0, 1) := by decide +kernel
theorem dX7_readThing_109 : decode cX7_readThing 109 = .ok (.istore 5, 2) := by decide +kernel
theorem dX7_readThing_111 : decode cX7_readThing 111 = .ok (.iload 5, 2) := by decide +kernel
theorem dX7_readThing_113 : decode cX7_readThing 113 = .ok (.iconst 3, 1) := by decide +kernel
theorem dX7_readThing_114 : decode cX7_readThing 114 = .ok (.if_icmp .ge 63, 3) := by decide +kernel
theorem dX7_readThing_117 : decode cX7_readThing 117 = .ok (.iload 4, 2) := by decide +kernel
theorem dX7_readThing_119 : decode cX7_readThing 119 = .ok (.ifCond .eq 58, 3) := by decide +kernel
theorem dX7_readThing_122 : decode cX7_readThing 122 = .ok (.aload_n 0, 1) := by decide +kernel
theorem dX7_readThing_123 : decode cX7_readThing 123 = .ok (.getfield 12, 3) := by decide +kernel
theorem dX7_readThing_126 : decode cX7_readThing 126 = .ok (.getfield 55, 3) := by decide +kernel
theorem dX7_readThing_129 : decode cX7_readThing 129 = .ok (.sipush 1102, 3) := by decide +kernel
theorem dX7_readThing_132 : decode cX7_readThing 132 = .ok (.if_icmp .ne 16, 3) := by decide +kernel
theorem dX7_readThing_135 : decode cX7_readThing 135 = .ok (.aload_n 0, 1) := by decide +kernel
theorem dX7_readThing_136 : decode cX7_readThing 136 = .ok (.aload_n 1, 1) := by decide +kernel
theorem dX7_readThing_137 : decode cX7_readThing 137 = .ok (.getfield 162, 3) := by decide +kernel
theorem dX7_readThing_140 : decode cX7_readThing 140 = .ok (.invokevirtual 165, 3) := by decide +kernel
theorem dX7_readThing_143 : decode cX7_readThing 143 = .ok (.istore 4, 2) := by decide +kernel
theorem dX7_readThing_145 : decode cX7_readThing 145 = .ok (.goto 26, 3) := by decide +kernel
theorem dX7_readThing_148 : decode cX7_readThing 148 = .ok (.aload_n 0, 1) := by decide +kernel
theorem dX7_readThing_149 : decode cX7_readThing 149 = .ok (.getfield 12, 3) := by decide +kernel
theorem dX7_readThing_152 : decode cX7_readThing 152 = .ok (.getfield 55, 3) := by decide +kernel
theorem dX7_readThing_155 : decode cX7_readThing 155 = .ok (.sipush 1103, 3) := by decide +kernel
theorem dX7_readThing_158 : decode cX7_readThing 158 = .ok (.if_icmp .ne 13, 3) := by decide +kernel
theorem dX7_readThing_161 : decode cX7_readThing 161 = .ok (.aload_n 0, 1) := by decide +kernel
theorem dX7_readThing_162 : decode cX7_readThing 162 = .ok (.aload_n 1, 1) := by decide +kernel
theorem dX7_readThing_163 : decode cX7_readThing 163 = .ok (.getfield 169, 3) := by decide +kernel
theorem dX7_readThing_166 : decode cX7_readThing 166 = .ok (.invokevirtual 165, 3) := by decide +kernel
theorem dX7_readThing_169 : decode cX7_readThing 169 = .ok (.istore 4, 2) := by decide +kernel
theorem dX7_readThing_171 : decode cX7_readThing 171 = .ok (.iinc 5 1, 3) := by decide +kernel
theorem dX7_readThing_174 : decode cX7_readThing 174 = .ok (.goto (-63), 3) := by decide +kernel
theorem dX7_readThing_177 : decode cX7_readThing 177 = .ok (.iload 4, 2) := by decide +kernel
theorem dX7_readThing_179 : decode cX7_readThing 179 = .ok (.ireturn, 1) := by decide +kernel
theorem dX7_takeSince_0 : decode cX7_takeSince 0 = .ok (.aload_n 0, 1) := by decide +kernel
theorem dX7_takeSince_1 : decode cX7_takeSince 1 = .ok (.getfield 21, 3) := by decide +kernel
theorem dX7_takeSince_4 : decode cX7_takeSince 4 = .ok (.getfield 144, 3) := by decide +kernel
theorem dX7_takeSince_7 : decode cX7_takeSince 7 = .ok (.getfield 154, 3) := by decide +kernel
theorem dX7_takeSince_10 : decode cX7_takeSince 10 = .ok (.iconst 1, 1) := by decide +kernel
theorem dX7_takeSince_11 : decode cX7_takeSince 11 = .ok (.isub, 1) := by decide +kernel
theorem dX7_takeSince_12 : decode cX7_takeSince 12 = .ok (.istore_n 2, 1) := by decide +kernel
theorem dX7_takeSince_13 : decode cX7_takeSince 13 = .ok (.aload_n 0, 1) := by decide +kernel
theorem dX7_takeSince_14 : decode cX7_takeSince 14 = .ok (.getfield 21, 3) := by decide +kernel
theorem dX7_takeSince_17 : decode cX7_takeSince 17 = .ok (.getfield 144, 3) := by decide +kernel
theorem dX7_takeSince_20 : decode cX7_takeSince 20 = .ok (.iload_n 2, 1) := by decide +kernel
theorem dX7_takeSince_21 : decode cX7_takeSince 21 = .ok (.invokevirtual 172, 3) := by decide +kernel
theorem dX7_takeSince_24 : decode cX7_takeSince 24 = .ok (.ifCond .eq 10, 3) := by decide +kernel
theorem dX7_takeSince_27 : decode cX7_takeSince 27 = .ok (.aload_n 1, 1) := by decide +kernel
theorem dX7_takeSince_28 : decode cX7_takeSince 28 = .ok (.iload_n 2, 1) := by decide +kernel
theorem dX7_takeSince_29 : decode cX7_takeSince 29 = .ok (.iaload, 1) := by decide +kernel
theorem dX7_takeSince_30 : decode cX7_takeSince 30 = .ok (.iconst (-1), 1) := by decide +kernel
theorem dX7_takeSince_31 : decode cX7_takeSince 31 = .ok (.if_icmp .eq 9, 3) := by decide +kernel
theorem dX7_takeSince_34 : decode cX7_takeSince 34 = .ok (.aload_n 0, 1) := by decide +kernel
theorem dX7_takeSince_35 : decode cX7_takeSince 35 = .ok (.iconst 3, 1) := by decide +kernel
theorem dX7_takeSince_36 : decode cX7_takeSince 36 = .ok (.invokevirtual 108, 3) := by decide +kernel
theorem dX7_takeSince_39 : decode cX7_takeSince 39 = .ok (.ireturn, 1) := by decide +kernel
theorem dX7_takeSince_40 : decode cX7_takeSince 40 = .ok (.aload_n 0, 1) := by decide +kernel
theorem dX7_takeSince_41 : decode cX7_takeSince 41 = .ok (.getfield 12, 3) := by decide +kernel
theorem dX7_takeSince_44 : decode cX7_takeSince 44 = .ok (.invokevirtual 115, 3) := by decide +kernel
theorem dX7_takeSince_47 : decode cX7_takeSince 47 = .ok (.aload_n 0, 1) := by decide +kernel
theorem dX7_takeSince_48 : decode cX7_takeSince 48 = .ok (.iconst 0, 1) := by decide +kernel
theorem dX7_takeSince_49 : decode cX7_takeSince 49 = .ok (.sipush 199, 3) := by decide +kernel
theorem dX7_takeSince_52 : decode cX7_takeSince 52 = .ok (.invokevirtual 134, 3) := by decide +kernel
theorem dX7_takeSince_55 : decode cX7_takeSince 55 = .ok (.ifCond .ne 5, 3) := by decide +kernel
theorem dX7_takeSince_58 : decode cX7_takeSince 58 = .ok (.iconst 0, 1) := by decide +kernel
theorem dX7_takeSince_59 : decode cX7_takeSince 59 = .ok (.ireturn, 1) := by decide +kernel
theorem dX7_takeSince_60 : decode cX7_takeSince 60 = .ok (.aload_n 1, 1) := by decide +kernel
theorem dX7_takeSince_61 : decode cX7_takeSince 61 = .ok (.iload_n 2, 1) := by decide +kernel
theorem dX7_takeSince_62 : decode cX7_takeSince 62 = .ok (.aload_n 0, 1) := by decide +kernel
theorem dX7_takeSince_63 : decode cX7_takeSince 63 = .ok (.getfield 32, 3) := by decide +kernel
theorem dX7_takeSince_66 : decode cX7_takeSince 66 = .ok (.iastore, 1) := by decide +kernel
theorem dX7_takeSince_67 : decode cX7_takeSince 67 = .ok (.iconst 1, 1) := by decide +kernel
theorem dX7_takeSince_68 : decode cX7_takeSince 68 = .ok (.ireturn, 1) := by decide +kernel
theorem dX7_readTeller_0 : decode cX7_readTeller 0 = .ok (.aload_n 0, 1) := by decide +kernel
theorem dX7_readTeller_1 : decode cX7_readTeller 1 = .ok (.getfield 21, 3) := by decide +kernel
theorem dX7_readTeller_4 : decode cX7_readTeller 4 = .ok (.getfield 118, 3) := by decide +kernel
theorem dX7_readTeller_7 : decode cX7_readTeller 7 = .ok (.astore_n 1, 1) := by decide +kernel
theorem dX7_readTeller_8 : decode cX7_readTeller 8 = .ok (.aload_n 1, 1) := by decide +kernel
theorem dX7_readTeller_9 : decode cX7_readTeller 9 = .ok (.getfield 175, 3) := by decide +kernel
theorem dX7_readTeller_12 : decode cX7_readTeller 12 = .ok (.iconst 5, 1) := by decide +kernel
theorem dX7_readTeller_13 : decode cX7_readTeller 13 = .ok (.if_icmp .lt 9, 3) := by decide +kernel
theorem dX7_readTeller_16 : decode cX7_readTeller 16 = .ok (.aload_n 0, 1) := by decide +kernel
theorem dX7_readTeller_17 : decode cX7_readTeller 17 = .ok (.iconst 2, 1) := by decide +kernel
theorem dX7_readTeller_18 : decode cX7_readTeller 18 = .ok (.invokevirtual 108, 3) := by decide +kernel
theorem dX7_readTeller_21 : decode cX7_readTeller 21 = .ok (.ireturn, 1) := by decide +kernel
theorem dX7_readTeller_22 : decode cX7_readTeller 22 = .ok (.aload_n 0, 1) := by decide +kernel
theorem dX7_readTeller_23 : decode cX7_readTeller 23 = .ok (.getfield 12, 3) := by decide +kernel
theorem dX7_readTeller_26 : decode cX7_readTeller 26 = .ok (.invokevirtual 115, 3) := by decide +kernel
theorem dX7_readTeller_29 : decode cX7_readTeller 29 = .ok (.aload_n 0, 1) := by decide +kernel
theorem dX7_readTeller_30 : decode cX7_readTeller 30 = .ok (.aload_n 1, 1) := by decide +kernel
theorem dX7_readTeller_31 : decode cX7_readTeller 31 = .ok (.aload_n 0, 1) := by decide +kernel
theorem dX7_readTeller_32 : decode cX7_readTeller 32 = .ok (.getfield 12, 3) := by decide +kernel
theorem dX7_readTeller_35 : decode cX7_readTeller 35 = .ok (.getfield 112, 3) := by decide +kernel
theorem dX7_readTeller_38 : decode cX7_readTeller 38 = .ok (.invokevirtual 138, 3) := by decide +kernel
theorem dX7_readTeller_41 : decode cX7_readTeller 41 = .ok (.invokevirtual 155, 3) := by decide +kernel
theorem dX7_readTeller_44 : decode cX7_readTeller 44 = .ok (.ifCond .ne 5, 3) := by decide +kernel
theorem dX7_readTeller_47 : decode cX7_readTeller 47 = .ok (.iconst 0, 1) := by decide +kernel
theorem dX7_readTeller_48 : decode cX7_readTeller 48 = .ok (.ireturn, 1) := by decide +kernel
theorem dX7_readTeller_49 : decode cX7_readTeller 49 = .ok (.aload_n 0, 1) := by decide +kernel
theorem dX7_readTeller_50 : decode cX7_readTeller 50 = .ok (.getfield 32, 3) := by decide +kernel
theorem dX7_readTeller_53 : decode cX7_readTeller 53 = .ok (.istore_n 2, 1) := by decide +kernel
theorem dX7_readTeller_54 : decode cX7_readTeller 54 = .ok (.aload_n 0, 1) := by decide +kernel
theorem dX7_readTeller_55 : decode cX7_readTeller 55 = .ok (.iconst 1, 1) := by decide +kernel
theorem dX7_readTeller_56 : decode cX7_readTeller 56 = .ok (.bipush 99, 2) := by decide +kernel
theorem dX7_readTeller_58 : decode cX7_readTeller 58 = .ok (.invokevirtual 134, 3) := by decide +kernel
theorem dX7_readTeller_61 : decode cX7_readTeller 61 = .ok (.ifCond .ne 5, 3) := by decide +kernel
theorem dX7_readTeller_64 : decode cX7_readTeller 64 = .ok (.iconst 0, 1) := by decide +kernel
theorem dX7_readTeller_65 : decode cX7_readTeller 65 = .ok (.ireturn, 1) := by decide +kernel
theorem dX7_readTeller_66 : decode cX7_readTeller 66 = .ok (.aload_n 0, 1) := by decide +kernel
theorem dX7_readTeller_67 : decode cX7_readTeller 67 = .ok (.getfield 32, 3) := by decide +kernel
theorem dX7_readTeller_70 : decode cX7_readTeller 70 = .ok (.istore_n 3, 1) := by decide +kernel
theorem dX7_readTeller_71 : decode cX7_readTeller 71 = .ok (.aload_n 0, 1) := by decide +kernel
theorem dX7_readTeller_72 : decode cX7_readTeller 72 = .ok (.sipush 1105, 3) := by decide +kernel
theorem dX7_readTeller_75 : decode cX7_readTeller 75 = .ok (.invokevirtual 62, 3) := by decide +kernel
theorem dX7_readTeller_78 : decode cX7_readTeller 78 = .ok (.ifCond .eq 14, 3) := by decide +kernel
theorem dX7_readTeller_81 : decode cX7_readTeller 81 = .ok (.aload_n 0, 1) := by decide +kernel
theorem dX7_readTeller_82 : decode cX7_readTeller 82 = .ok (.iconst 0, 1) := by decide +kernel
theorem dX7_readTeller_83 : decode cX7_readTeller 83 = .ok (.sipush 199, 3) := by decide +kernel
theorem dX7_readTeller_86 : decode cX7_readTeller 86 = .ok (.invokevirtual 134, 3) := by decide +kernel
theorem dX7_readTeller_89 : decode cX7_readTeller 89 = .ok (.ifCond .ne 5, 3) := by decide +kernel
theorem dX7_readTeller_92 : decode cX7_readTeller 92 = .ok (.iconst 0, 1) := by decide +kernel
theorem dX7_readTeller_93 : decode cX7_readTeller 93 = .ok (.ireturn, 1) := by decide +kernel
theorem dX7_readTeller_94 : decode cX7_readTeller 94 = .ok (.aload_n 0, 1) := by decide +kernel
theorem dX7_readTeller_95 : decode cX7_readTeller 95 = .ok (.getfield 32, 3) := by decide +kernel
theorem dX7_readTeller_98 : decode cX7_readTeller 98 = .ok (.istore 4, 2) := by decide +kernel
theorem dX7_readTeller_100 : decode cX7_readTeller 100 = .ok (.aload_n 0, 1) := by decide +kernel
theorem dX7_readTeller_101 : decode cX7_readTeller 101 = .ok (.sipush 1106, 3) := by decide +kernel
theorem dX7_readTeller_104 : decode cX7_readTeller 104 = .ok (.invokevirtual 62, 3) := by decide +kernel
theorem dX7_readTeller_107 : decode cX7_readTeller 107 = .ok (.ifCond .eq 15, 3) := by decide +kernel
theorem dX7_readTeller_110 : decode cX7_readTeller 110 = .ok (.aload_n 0, 1) := by decide +kernel
theorem dX7_readTeller_111 : decode cX7_readTeller 111 = .ok (.iload 4, 2) := by decide +kernel
theorem dX7_readTeller_113 : decode cX7_readTeller 113 = .ok (.sipush 199, 3) := by decide +kernel
theorem dX7_readTeller_116 : decode cX7_readTeller 116 = .ok (.invokevirtual 134, 3) := by decide +kernel
theorem dX7_readTeller_119 : decode cX7_readTeller 119 = .ok (.ifCond .ne 5, 3) := by decide +kernel
theorem dX7_readTeller_122 : decode cX7_readTeller 122 = .ok (.iconst 0, 1) := by decide +kernel
theorem dX7_readTeller_123 : decode cX7_readTeller 123 = .ok (.ireturn, 1) := by decide +kernel
theorem dX7_readTeller_124 : decode cX7_readTeller 124 = .ok (.aload_n 0, 1) := by decide +kernel
theorem dX7_readTeller_125 : decode cX7_readTeller 125 = .ok (.getfield 32, 3) := by decide +kernel
theorem dX7_readTeller_128 : decode cX7_readTeller 128 = .ok (.istore 5, 2) := by decide +kernel
theorem dX7_readTeller_130 : decode cX7_readTeller 130 = .ok (.aload_n 1, 1) := by decide +kernel
theorem dX7_readTeller_131 : decode cX7_readTeller 131 = .ok (.iload_n 2, 1) := by decide +kernel
theorem dX7_readTeller_132 : decode cX7_readTeller 132 = .ok (.iload_n 3, 1) := by decide +kernel
theorem dX7_readTeller_133 : decode cX7_readTeller 133 = .ok (.iload 4, 2) := by decide +kernel
theorem dX7_readTeller_135 : decode cX7_readTeller 135 = .ok (.iload 5, 2) := by decide +kernel
theorem dX7_readTeller_137 : decode cX7_readTeller 137 = .ok (.invokevirtual 176, 3) := by decide +kernel
theorem dX7_readTeller_140 : decode cX7_readTeller 140 = .ok (.aload_n 0, 1) := by decide +kernel
theorem dX7_readTeller_141 : decode cX7_readTeller 141 = .ok (.getfield 12, 3) := by decide +kernel
theorem dX7_readTeller_144 : decode cX7_readTeller 144 = .ok (.getfield 55, 3) := by decide +kernel
theorem dX7_readTeller_147 : decode cX7_readTeller 147 = .ok (.sipush 1107, 3) := by decide +kernel
theorem dX7_readTeller_150 : decode cX7_readTeller 150 = .ok (.if_icmp .eq 5, 3) := by decide +kernel
theorem dX7_readTeller_153 : decode cX7_readTeller 153 = .ok (.iconst 1, 1) := by decide +kernel
theorem dX7_readTeller_154 : decode cX7_readTeller 154 = .ok (.ireturn, 1) := by decide +kernel
theorem dX7_readTeller_155 : decode cX7_readTeller 155 = .ok (.aload_n 0, 1) := by decide +kernel
theorem dX7_readTeller_156 : decode cX7_readTeller 156 = .ok (.getfield 12, 3) := by decide +kernel
theorem dX7_readTeller_159 : decode cX7_readTeller 159 = .ok (.invokevirtual 115, 3) := by decide +kernel
theorem dX7_readTeller_162 : decode cX7_readTeller 162 = .ok (.aload_n 0, 1) := by decide +kernel
theorem dX7_readTeller_163 : decode cX7_readTeller 163 = .ok (.iload 4, 2) := by decide +kernel
theorem dX7_readTeller_165 : decode cX7_readTeller 165 = .ok (.iload 5, 2) := by decide +kernel
theorem dX7_readTeller_167 : decode cX7_readTeller 167 = .ok (.invokevirtual 134, 3) := by decide +kernel
theorem dX7_readTeller_170 : decode cX7_readTeller 170 = .ok (.ifCond .ne 5, 3) := by decide +kernel
theorem dX7_readTeller_173 : decode cX7_readTeller 173 = .ok (.iconst 0, 1) := by decide +kernel
theorem dX7_readTeller_174 : decode cX7_readTeller 174 = .ok (.ireturn, 1) := by decide +kernel
theorem dX7_readTeller_175 : decode cX7_readTeller 175 = .ok (.aload_n 1, 1) := by decide +kernel
theorem dX7_readTeller_176 : decode cX7_readTeller 176 = .ok (.getfield 179, 3) := by decide +kernel
theorem dX7_readTeller_179 : decode cX7_readTeller 179 = .ok (.aload_n 1, 1) := by decide +kernel
theorem dX7_readTeller_180 : decode cX7_readTeller 180 = .ok (.getfield 175, 3) := by decide +kernel
theorem dX7_readTeller_183 : decode cX7_readTeller 183 = .ok (.iconst 1, 1) := by decide +kernel
theorem dX7_readTeller_184 : decode cX7_readTeller 184 = .ok (.isub, 1) := by decide +kernel
theorem dX7_readTeller_185 : decode cX7_readTeller 185 = .ok (.aload_n 0, 1) := by decide +kernel
theorem dX7_readTeller_186 : decode cX7_readTeller 186 = .ok (.getfield 32, 3) := by decide +kernel
theorem dX7_readTeller_189 : decode cX7_readTeller 189 = .ok (.iastore, 1) := by decide +kernel
theorem dX7_readTeller_190 : decode cX7_readTeller 190 = .ok (.iconst 1, 1) := by decide +kernel
theorem dX7_readTeller_191 : decode cX7_readTeller 191 = .ok (.ireturn, 1) := by decide +kernel
theorem dX7_readTalk_0 : decode cX7_readTalk 0 = .ok (.aload_n 0, 1) := by decide +kernel
theorem dX7_readTalk_1 : decode cX7_readTalk 1 = .ok (.getfield 21, 3) := by decide +kernel
theorem dX7_readTalk_4 : decode cX7_readTalk 4 = .ok (.getfield 69, 3) := by decide +kernel
theorem dX7_readTalk_7 : decode cX7_readTalk 7 = .ok (.getfield 73, 3) := by decide +kernel
theorem dX7_readTalk_10 : decode cX7_readTalk 10 = .ok (.bipush 40, 2) := by decide +kernel
theorem dX7_readTalk_12 : decode cX7_readTalk 12 = .ok (.if_icmp .lt 9, 3) := by decide +kernel
theorem dX7_readTalk_15 : decode cX7_readTalk 15 = .ok (.aload_n 0, 1) := by decide +kernel
theorem dX7_readTalk_16 : decode cX7_readTalk 16 = .ok (.iconst 2, 1) := by decide +kernel
theorem dX7_readTalk_17 : decode cX7_readTalk 17 = .ok (.invokevirtual 108, 3) := by decide +kernel
theorem dX7_readTalk_20 : decode cX7_readTalk 20 = .ok (.ireturn, 1) := by decide +kernel
theorem dX7_readTalk_21 : decode cX7_readTalk 21 = .ok (.aload_n 0, 1) := by decide +kernel
theorem dX7_readTalk_22 : decode cX7_readTalk 22 = .ok (.getfield 12, 3) := by decide +kernel
theorem dX7_readTalk_25 : decode cX7_readTalk 25 = .ok (.invokevirtual 115, 3) := by decide +kernel
theorem dX7_readTalk_28 : decode cX7_readTalk 28 = .ok (.aload_n 0, 1) := by decide +kernel
theorem dX7_readTalk_29 : decode cX7_readTalk 29 = .ok (.invokevirtual 182, 3) := by decide +kernel
theorem dX7_readTalk_32 : decode cX7_readTalk 32 = .ok (.ifCond .ne 5, 3) := by decide +kernel
theorem dX7_readTalk_35 : decode cX7_readTalk 35 = .ok (.iconst 0, 1) := by decide +kernel
theorem dX7_readTalk_36 : decode cX7_readTalk 36 = .ok (.ireturn, 1) := by decide +kernel
theorem dX7_readTalk_37 : decode cX7_readTalk 37 = .ok (.aload_n 0, 1) := by decide +kernel
theorem dX7_readTalk_38 : decode cX7_readTalk 38 = .ok (.getfield 32, 3) := by decide +kernel
theorem dX7_readTalk_41 : decode cX7_readTalk 41 = .ok (.istore_n 2, 1) := by decide +kernel
theorem dX7_readTalk_42 : decode cX7_readTalk 42 = .ok (.aload_n 0, 1) := by decide +kernel
theorem dX7_readTalk_43 : decode cX7_readTalk 43 = .ok (.iload_n 2, 1) := by decide +kernel
theorem dX7_readTalk_44 : decode cX7_readTalk 44 = .ok (.invokevirtual 185, 3) := by decide +kernel
theorem dX7_readTalk_47 : decode cX7_readTalk 47 = .ok (.ifCond .ne 5, 3) := by decide +kernel
theorem dX7_readTalk_50 : decode cX7_readTalk 50 = .ok (.iconst 0, 1) := by decide +kernel
theorem dX7_readTalk_51 : decode cX7_readTalk 51 = .ok (.ireturn, 1) := by decide +kernel
theorem dX7_readTalk_52 : decode cX7_readTalk 52 = .ok (.aload_n 0, 1) := by decide +kernel
theorem dX7_readTalk_53 : decode cX7_readTalk 53 = .ok (.getfield 32, 3) := by decide +kernel
theorem dX7_readTalk_56 : decode cX7_readTalk 56 = .ok (.istore_n 3, 1) := by decide +kernel
theorem dX7_readTalk_57 : decode cX7_readTalk 57 = .ok (.aload_n 0, 1) := by decide +kernel
theorem dX7_readTalk_58 : decode cX7_readTalk 58 = .ok (.invokevirtual 188, 3) := by decide +kernel
theorem dX7_readTalk_61 : decode cX7_readTalk 61 = .ok (.ifCond .ne 5, 3) := by decide +kernel
theorem dX7_readTalk_64 : decode cX7_readTalk 64 = .ok (.iconst 0, 1) := by decide +kernel
theorem dX7_readTalk_65 : decode cX7_readTalk 65 = .ok (.ireturn, 1) := by decide +kernel
theorem dX7_readTalk_66 : decode cX7_readTalk 66 = .ok (.aload_n 0, 1) := by decide +kernel
theorem dX7_readTalk_67 : decode cX7_readTalk 67 = .ok (.getfield 32, 3) := by decide +kernel
theorem dX7_readTalk_70 : decode cX7_readTalk 70 = .ok (.istore 4, 2) := by decide +kernel
theorem dX7_readTalk_72 : decode cX7_readTalk 72 = .ok (.iconst (-1), 1) := by decide +kernel
theorem dX7_readTalk_73 : decode cX7_readTalk 73 = .ok (.istore 5, 2) := by decide +kernel
theorem dX7_readTalk_75 : decode cX7_readTalk 75 = .ok (.iload_n 1, 1) := by decide +kernel
theorem dX7_readTalk_76 : decode cX7_readTalk 76 = .ok (.ifCond .ne 16, 3) := by decide +kernel
theorem dX7_readTalk_79 : decode cX7_readTalk 79 = .ok (.aload_n 0, 1) := by decide +kernel
theorem dX7_readTalk_80 : decode cX7_readTalk 80 = .ok (.getfield 12, 3) := by decide +kernel
theorem dX7_readTalk_83 : decode cX7_readTalk 83 = .ok (.getfield 55, 3) := by decide +kernel
theorem dX7_readTalk_86 : decode cX7_readTalk 86 = .ok (.sipush 1002, 3) := by decide +kernel
theorem dX7_readTalk_89 : decode cX7_readTalk 89 = .ok (.if_icmp .ne 20, 3) := by decide +kernel
theorem dX7_readTalk_92 : decode cX7_readTalk 92 = .ok (.aload_n 0, 1) := by decide +kernel
theorem dX7_readTalk_93 : decode cX7_readTalk 93 = .ok (.iload 4, 2) := by decide +kernel
theorem dX7_readTalk_95 : decode cX7_readTalk 95 = .ok (.invokevirtual 191, 3) := by decide +kernel
theorem dX7_readTalk_98 : decode cX7_readTalk 98 = .ok (.ifCond .ne 5, 3) := by decide +kernel
theorem dX7_readTalk_101 : decode cX7_readTalk 101 = .ok (.iconst 0, 1) := by decide +kernel
theorem dX7_readTalk_102 : decode cX7_readTalk 102 = .ok (.ireturn, 1) := by decide +kernel
theorem dX7_readTalk_103 : decode cX7_readTalk 103 = .ok (.aload_n 0, 1) := by decide +kernel
theorem dX7_readTalk_104 : decode cX7_readTalk 104 = .ok (.getfield 32, 3) := by decide +kernel
theorem dX7_readTalk_107 : decode cX7_readTalk 107 = .ok (.istore 5, 2) := by decide +kernel
theorem dX7_readTalk_109 : decode cX7_readTalk 109 = .ok (.aload_n 0, 1) := by decide +kernel
theorem dX7_readTalk_110 : decode cX7_readTalk 110 = .ok (.getfield 21, 3) := by decide +kernel
theorem dX7_readTalk_113 : decode cX7_readTalk 113 = .ok (.getfield 69, 3) := by decide +kernel
theorem dX7_readTalk_116 : decode cX7_readTalk 116 = .ok (.iload_n 1, 1) := by decide +kernel
theorem dX7_readTalk_117 : decode cX7_readTalk 117 = .ok (.iload_n 2, 1) := by decide +kernel
theorem dX7_readTalk_118 : decode cX7_readTalk 118 = .ok (.iload_n 3, 1) := by decide +kernel
theorem dX7_readTalk_119 : decode cX7_readTalk 119 = .ok (.iload 4, 2) := by decide +kernel
theorem dX7_readTalk_121 : decode cX7_readTalk 121 = .ok (.iload 5, 2) := by decide +kernel
theorem dX7_readTalk_123 : decode cX7_readTalk 123 = .ok (.invokevirtual 194, 3) := by decide +kernel
theorem dX7_readTalk_126 : decode cX7_readTalk 126 = .ok (.iconst 1, 1) := by decide +kernel
theorem dX7_readTalk_127 : decode cX7_readTalk 127 = .ok (.ireturn, 1) := by decide +kernel
theorem dX7_readPage_0 : decode cX7_readPage 0 = .ok (.aload_n 0, 1) := by decide +kernel
theorem dX7_readPage_1 : decode cX7_readPage 1 = .ok (.getfield 21, 3) := by decide +kernel
theorem dX7_readPage_4 : decode cX7_readPage 4 = .ok (.getfield 197, 3) := by decide +kernel
theorem dX7_readPage_7 : decode cX7_readPage 7 = .ok (.getfield 201, 3) := by decide +kernel
theorem dX7_readPage_10 : decode cX7_readPage 10 = .ok (.bipush 20, 2) := by decide +kernel
theorem dX7_readPage_12 : decode cX7_readPage 12 = .ok (.if_icmp .lt 9, 3) := by decide +kernel
theorem dX7_readPage_15 : decode cX7_readPage 15 = .ok (.aload_n 0, 1) := by decide +kernel
theorem dX7_readPage_16 : decode cX7_readPage 16 = .ok (.iconst 2, 1) := by decide +kernel
theorem dX7_readPage_17 : decode cX7_readPage 17 = .ok (.invokevirtual 108, 3) := by decide +kernel
theorem dX7_readPage_20 : decode cX7_readPage 20 = .ok (.ireturn, 1) := by decide +kernel
theorem dX7_readPage_21 : decode cX7_readPage 21 = .ok (.aload_n 0, 1) := by decide +kernel
theorem dX7_readPage_22 : decode cX7_readPage 22 = .ok (.getfield 12, 3) := by decide +kernel
theorem dX7_readPage_25 : decode cX7_readPage 25 = .ok (.invokevirtual 115, 3) := by decide +kernel
theorem dX7_readPage_28 : decode cX7_readPage 28 = .ok (.aload_n 0, 1) := by decide +kernel
theorem dX7_readPage_29 : decode cX7_readPage 29 = .ok (.invokevirtual 182, 3) := by decide +kernel
theorem dX7_readPage_32 : decode cX7_readPage 32 = .ok (.ifCond .ne 5, 3) := by decide +kernel
theorem dX7_readPage_35 : decode cX7_readPage 35 = .ok (.iconst 0, 1) := by decide +kernel
theorem dX7_readPage_36 : decode cX7_readPage 36 = .ok (.ireturn, 1) := by decide +kernel
theorem dX7_readPage_37 : decode cX7_readPage 37 = .ok (.aload_n 0, 1) := by decide +kernel
theorem dX7_readPage_38 : decode cX7_readPage 38 = .ok (.getfield 32, 3) := by decide +kernel
theorem dX7_readPage_41 : decode cX7_readPage 41 = .ok (.istore_n 1, 1) := by decide +kernel
theorem dX7_readPage_42 : decode cX7_readPage 42 = .ok (.aload_n 0, 1) := by decide +kernel
theorem dX7_readPage_43 : decode cX7_readPage 43 = .ok (.invokevirtual 188, 3) := by decide +kernel
theorem dX7_readPage_46 : decode cX7_readPage 46 = .ok (.ifCond .ne 5, 3) := by decide +kernel
theorem dX7_readPage_49 : decode cX7_readPage 49 = .ok (.iconst 0, 1) := by decide +kernel
theorem dX7_readPage_50 : decode cX7_readPage 50 = .ok (.ireturn, 1) := by decide +kernel
theorem dX7_readPage_51 : decode cX7_readPage 51 = .ok (.aload_n 0, 1) := by decide +kernel
theorem dX7_readPage_52 : decode cX7_readPage 52 = .ok (.getfield 32, 3) := by decide +kernel
theorem dX7_readPage_55 : decode cX7_readPage 55 = .ok (.istore_n 2, 1) := by decide +kernel
theorem dX7_readPage_56 : decode cX7_readPage 56 = .ok (.aload_n 0, 1) := by decide +kernel
theorem dX7_readPage_57 : decode cX7_readPage 57 = .ok (.iload_n 2, 1) := by decide +kernel
theorem dX7_readPage_58 : decode cX7_readPage 58 = .ok (.invokevirtual 191, 3) := by decide +kernel
theorem dX7_readPage_61 : decode cX7_readPage 61 = .ok (.ifCond .ne 5, 3) := by decide +kernel
theorem dX7_readPage_64 : decode cX7_readPage 64 = .ok (.iconst 0, 1) := by decide +kernel
theorem dX7_readPage_65 : decode cX7_readPage 65 = .ok (.ireturn, 1) := by decide +kernel
theorem dX7_readPage_66 : decode cX7_readPage 66 = .ok (.aload_n 0, 1) := by decide +kernel
theorem dX7_readPage_67 : decode cX7_readPage 67 = .ok (.getfield 21, 3) := by decide +kernel
theorem dX7_readPage_70 : decode cX7_readPage 70 = .ok (.getfield 197, 3) := by decide +kernel
theorem dX7_readPage_73 : decode cX7_readPage 73 = .ok (.iload_n 1, 1) := by decide +kernel
theorem dX7_readPage_74 : decode cX7_readPage 74 = .ok (.iload_n 2, 1) := by decide +kernel
theorem dX7_readPage_75 : decode cX7_readPage 75 = .ok (.aload_n 0, 1) := by decide +kernel
theorem dX7_readPage_76 : decode cX7_readPage 76 = .ok (.getfield 32, 3) := by decide +kernel
theorem dX7_readPage_79 : decode cX7_readPage 79 = .ok (.invokevirtual 204, 3) := by decide +kernel
theorem dX7_readPage_82 : decode cX7_readPage 82 = .ok (.iconst 1, 1) := by decide +kernel
theorem dX7_readPage_83 : decode cX7_readPage 83 = .ok (.ireturn, 1) := by decide +kernel
theorem dX7_readFormula_0 : decode cX7_readFormula 0 = .ok (.aload_n 1, 1) := by decide +kernel
theorem dX7_readFormula_1 : decode cX7_readFormula 1 = .ok (.getfield 205, 3) := by decide +kernel
theorem dX7_readFormula_4 : decode cX7_readFormula 4 = .ok (.ifCond .le 9, 3) := by decide +kernel
theorem dX7_readFormula_7 : decode cX7_readFormula 7 = .ok (.aload_n 0, 1) := by decide +kernel
theorem dX7_readFormula_8 : decode cX7_readFormula 8 = .ok (.iconst 3, 1) := by decide +kernel
theorem dX7_readFormula_9 : decode cX7_readFormula 9 = .ok (.invokevirtual 108, 3) := by decide +kernel
theorem dX7_readFormula_12 : decode cX7_readFormula 12 = .ok (.ireturn, 1) := by decide +kernel
theorem dX7_readFormula_13 : decode cX7_readFormula 13 = .ok (.aload_n 0, 1) := by decide +kernel
theorem dX7_readFormula_14 : decode cX7_readFormula 14 = .ok (.getfield 12, 3) := by decide +kernel
theorem dX7_readFormula_17 : decode cX7_readFormula 17 = .ok (.invokevirtual 115, 3) := by decide +kernel
theorem dX7_readFormula_20 : decode cX7_readFormula 20 = .ok (.aload_n 0, 1) := by decide +kernel
theorem dX7_readFormula_21 : decode cX7_readFormula 21 = .ok (.iconst 0, 1) := by decide +kernel
theorem dX7_readFormula_22 : decode cX7_readFormula 22 = .ok (.putfield 39, 3) := by decide +kernel
theorem dX7_readFormula_25 : decode cX7_readFormula 25 = .ok (.aload_n 0, 1) := by decide +kernel
theorem dX7_readFormula_26 : decode cX7_readFormula 26 = .ok (.iconst 0, 1) := by decide +kernel
theorem dX7_readFormula_27 : decode cX7_readFormula 27 = .ok (.putfield 42, 3) := by decide +kernel
theorem dX7_readFormula_30 : decode cX7_readFormula 30 = .ok (.aload_n 0, 1) := by decide +kernel
theorem dX7_readFormula_31 : decode cX7_readFormula 31 = .ok (.iconst 1, 1) := by decide +kernel
theorem dX7_readFormula_32 : decode cX7_readFormula 32 = .ok (.putfield 45, 3) := by decide +kernel
theorem dX7_readFormula_35 : decode cX7_readFormula 35 = .ok (.aload_n 0, 1) := by decide +kernel
theorem dX7_readFormula_36 : decode cX7_readFormula 36 = .ok (.iconst 1, 1) := by decide +kernel
theorem dX7_readFormula_37 : decode cX7_readFormula 37 = .ok (.putfield 49, 3) := by decide +kernel
theorem dX7_readFormula_40 : decode cX7_readFormula 40 = .ok (.iconst 1, 1) := by decide +kernel
theorem dX7_readFormula_41 : decode cX7_readFormula 41 = .ok (.istore_n 2, 1) := by decide +kernel
theorem dX7_readFormula_42 : decode cX7_readFormula 42 = .ok (.iconst 0, 1) := by decide +kernel
theorem dX7_readFormula_43 : decode cX7_readFormula 43 = .ok (.istore_n 3, 1) := by decide +kernel
theorem dX7_readFormula_44 : decode cX7_readFormula 44 = .ok (.iload_n 3, 1) := by decide +kernel
theorem dX7_readFormula_45 : decode cX7_readFormula 45 = .ok (.sipush 800, 3) := by decide +kernel
theorem dX7_readFormula_48 : decode cX7_readFormula 48 = .ok (.if_icmp .gt 63, 3) := by decide +kernel
theorem dX7_readFormula_51 : decode cX7_readFormula 51 = .ok (.iload_n 2, 1) := by decide +kernel
theorem dX7_readFormula_52 : decode cX7_readFormula 52 = .ok (.ifCond .eq 59, 3) := by decide +kernel
theorem dX7_readFormula_55 : decode cX7_readFormula 55 = .ok (.aload_n 0, 1) := by decide +kernel
theorem dX7_readFormula_56 : decode cX7_readFormula 56 = .ok (.invokevirtual 208, 3) := by decide +kernel
theorem dX7_readFormula_59 : decode cX7_readFormula 59 = .ok (.ifCond .ne 52, 3) := by decide +kernel
theorem dX7_readFormula_62 : decode cX7_readFormula 62 = .ok (.aload_n 0, 1) := by decide +kernel
theorem dX7_readFormula_63 : decode cX7_readFormula 63 = .ok (.getfield 45, 3) := by decide +kernel
theorem dX7_readFormula_66 : decode cX7_readFormula 66 = .ok (.ifCond .eq 12, 3) := by decide +kernel
theorem dX7_readFormula_69 : decode cX7_readFormula 69 = .ok (.aload_n 0, 1) := by decide +kernel
theorem dX7_readFormula_70 : decode cX7_readFormula 70 = .ok (.aload_n 1, 1) := by decide +kernel
theorem dX7_readFormula_71 : decode cX7_readFormula 71 = .ok (.invokevirtual 211, 3) := by decide +kernel
theorem dX7_readFormula_74 : decode cX7_readFormula 74 = .ok (.istore_n 2, 1) := by decide +kernel
theorem dX7_readFormula_75 : decode cX7_readFormula 75 = .ok (.goto 30, 3) := by decide +kernel
theorem dX7_readFormula_78 : decode cX7_readFormula 78 = .ok (.aload_n 0, 1) := by decide +kernel
theorem dX7_readFormula_79 : decode cX7_readFormula 79 = .ok (.getfield 12, 3) := by decide +kernel
theorem dX7_readFormula_82 : decode cX7_readFormula 82 = .ok (.getfield 55, 3) := by decide +kernel
theorem dX7_readFormula_85 : decode cX7_readFormula 85 = .ok (.sipush 1012, 3) := by decide +kernel
theorem dX7_readFormula_88 : decode cX7_readFormula 88 = .ok (.if_icmp .ne 11, 3) := by decide +kernel
theorem dX7_readFormula_91 : decode cX7_readFormula 91 = .ok (.aload_n 0, 1) := by decide +kernel
theorem dX7_readFormula_92 : decode cX7_readFormula 92 = .ok (.aload_n 1, 1) := by decide +kernel
theorem dX7_readFormula_93 : decode cX7_readFormula 93 = .ok (.invokevirtual 214, 3) := by decide +kernel
theorem dX7_readFormula_96 : decode cX7_readFormula 96 = .ok (.goto 8, 3) := by decide +kernel
theorem dX7_readFormula_99 : decode cX7_readFormula 99 = .ok (.aload_n 0, 1) := by decide +kernel
theorem dX7_readFormula_100 : decode cX7_readFormula 100 = .ok (.aload_n 1, 1) := by decide +kernel
theorem dX7_readFormula_101 : decode cX7_readFormula 101 = .ok (.invokevirtual 217, 3) := by decide +kernel
theorem dX7_readFormula_104 : decode cX7_readFormula 104 = .ok (.istore_n 2, 1) := by decide +kernel
theorem dX7_readFormula_105 : decode cX7_readFormula 105 = .ok (.iinc 3 1, 3) := by decide +kernel
theorem dX7_readFormula_108 : decode cX7_readFormula 108 = .ok (.goto (-64), 3) := by decide +kernel
theorem dX7_readFormula_111 : decode cX7_readFormula 111 = .ok (.aload_n 0, 1) := by decide +kernel
theorem dX7_readFormula_112 : decode cX7_readFormula 112 = .ok (.aload_n 1, 1) := by decide +kernel
theorem dX7_readFormula_113 : decode cX7_readFormula 113 = .ok (.iconst 1, 1) := by decide +kernel
theorem dX7_readFormula_114 : decode cX7_readFormula 114 = .ok (.invokevirtual 220, 3) := by decide +kernel
theorem dX7_readFormula_117 : decode cX7_readFormula 117 = .ok (.iload_n 2, 1) := by decide +kernel
theorem dX7_readFormula_118 : decode cX7_readFormula 118 = .ok (.ireturn, 1) := by decide +kernel
theorem dX7_formulaEnds_0 : decode cX7_formulaEnds 0 = .ok (.aload_n 0, 1) := by decide +kernel
theorem dX7_formulaEnds_1 : decode cX7_formulaEnds 1 = .ok (.getfield 45, 3) := by decide +kernel
theorem dX7_formulaEnds_4 : decode cX7_formulaEnds 4 = .ok (.ifCond .ne 27, 3) := by decide +kernel
theorem dX7_formulaEnds_7 : decode cX7_formulaEnds 7 = .ok (.aload_n 0, 1) := by decide +kernel
theorem dX7_formulaEnds_8 : decode cX7_formulaEnds 8 = .ok (.getfield 42, 3) := by decide +kernel
theorem dX7_formulaEnds_11 : decode cX7_formulaEnds 11 = .ok (.ifCond .ne 20, 3) := by decide +kernel
theorem dX7_formulaEnds_14 : decode cX7_formulaEnds 14 = .ok (.aload_n 0, 1) := by decide +kernel
theorem dX7_formulaEnds_15 : decode cX7_formulaEnds 15 = .ok (.getfield 12, 3) := by decide +kernel
theorem dX7_formulaEnds_18 : decode cX7_formulaEnds 18 = .ok (.getfield 55, 3) := by decide +kernel
theorem dX7_formulaEnds_21 : decode cX7_formulaEnds 21 = .ok (.sipush 1010, 3) := by decide +kernel
theorem dX7_formulaEnds_24 : decode cX7_formulaEnds 24 = .ok (.if_icmp .ne 7, 3) := by decide +kernel
theorem dX7_formulaEnds_27 : decode cX7_formulaEnds 27 = .ok (.iconst 1, 1) := by decide +kernel
theorem dX7_formulaEnds_28 : decode cX7_formulaEnds 28 = .ok (.goto 4, 3) := by decide +kernel
theorem dX7_formulaEnds_31 : decode cX7_formulaEnds 31 = .ok (.iconst 0, 1) := by decide +kernel
theorem dX7_formulaEnds_32 : decode cX7_formulaEnds 32 = .ok (.ireturn, 1) := by decide +kernel
theorem dX7_readValue_0 : decode cX7_readValue 0 = .ok (.aload_n 0, 1) := by decide +kernel
theorem dX7_readValue_1 : decode cX7_readValue 1 = .ok (.getfield 12, 3) := by decide +kernel
theorem dX7_readValue_4 : decode cX7_readValue 4 = .ok (.getfield 55, 3) := by decide +kernel
theorem dX7_readValue_7 : decode cX7_readValue 7 = .ok (.istore_n 2, 1) := by decide +kernel
theorem dX7_readValue_8 : decode cX7_readValue 8 = .ok (.iload_n 2, 1) := by decide +kernel
theorem dX7_readValue_9 : decode cX7_readValue 9 = .ok (.sipush 1011, 3) := by decide +kernel
theorem dX7_readValue_12 : decode cX7_readValue 12 = .ok (.if_icmp .ne 8, 3) := by decide +kernel
theorem dX7_readValue_15 : decode cX7_readValue 15 = .ok (.aload_n 0, 1) := by decide +kernel
theorem dX7_readValue_16 : decode cX7_readValue 16 = .ok (.invokevirtual 224, 3) := by decide +kernel
theorem dX7_readValue_19 : decode cX7_readValue 19 = .ok (.ireturn, 1) := by decide +kernel
theorem dX7_readValue_20 : decode cX7_readValue 20 = .ok (.iload_n 2, 1) := by decide +kernel
theorem dX7_readValue_21 : decode cX7_readValue 21 = .ok (.sipush 1116, 3) := by decide +kernel
theorem dX7_readValue_24 : decode cX7_readValue 24 = .ok (.if_icmp .ne 31, 3) := by decide +kernel
theorem dX7_readValue_27 : decode cX7_readValue 27 = .ok (.aload_n 0, 1) := by decide +kernel
theorem dX7_readValue_28 : decode cX7_readValue 28 = .ok (.getfield 49, 3) := by decide +kernel
theorem dX7_readValue_31 : decode cX7_readValue 31 = .ok (.ifCond .eq 24, 3) := by decide +kernel
theorem dX7_readValue_34 : decode cX7_readValue 34 = .ok (.aload_n 0, 1) := by decide +kernel
theorem dX7_readValue_35 : decode cX7_readValue 35 = .ok (.invokevirtual 227, 3) := by decide +kernel
theorem dX7_readValue_38 : decode cX7_readValue 38 = .ok (.ifCond .eq 15, 3) := by decide +kernel
theorem dX7_readValue_41 : decode cX7_readValue 41 = .ok (.aload_n 0, 1) := by decide +kernel
theorem dX7_readValue_42 : decode cX7_readValue 42 = .ok (.iload_n 2, 1) := by decide +kernel
theorem dX7_readValue_43 : decode cX7_readValue 43 = .ok (.invokevirtual 230, 3) := by decide +kernel
theorem dX7_readValue_46 : decode cX7_readValue 46 = .ok (.ifCond .eq 7, 3) := by decide +kernel
theorem dX7_readValue_49 : decode cX7_readValue 49 = .ok (.iconst 1, 1) := by decide +kernel
theorem dX7_readValue_50 : decode cX7_readValue 50 = .ok (.goto 4, 3) := by decide +kernel
theorem dX7_readValue_53 : decode cX7_readValue 53 = .ok (.iconst 0, 1) := by decide +kernel
theorem dX7_readValue_54 : decode cX7_readValue 54 = .ok (.ireturn, 1) := by decide +kernel
theorem dX7_readValue_55 : decode cX7_readValue 55 = .ok (.iload_n 2, 1) := by decide +kernel
theorem dX7_readValue_56 : decode cX7_readValue 56 = .ok (.sipush 1002, 3) := by decide +kernel
theorem dX7_readValue_59 : decode cX7_readValue 59 = .ok (.if_icmp .ne 22, 3) := by decide +kernel
theorem dX7_readValue_62 : decode cX7_readValue 62 = .ok (.aload_n 0, 1) := by decide +kernel
theorem dX7_readValue_63 : decode cX7_readValue 63 = .ok (.getfield 12, 3) := by decide +kernel
theorem dX7_readValue_66 : decode cX7_readValue 66 = .ok (.getfield 112, 3) := by decide +kernel
theorem dX7_readValue_69 : decode cX7_readValue 69 = .ok (.sipush 999, 3) := by decide +kernel
theorem dX7_readValue_72 : decode cX7_readValue 72 = .ok (.if_icmp .le 9, 3) := by decide +kernel
theorem dX7_readValue_75 : decode cX7_readValue 75 = .ok (.aload_n 0, 1) := by decide +kernel
theorem dX7_readValue_76 : decode cX7_readValue 76 = .ok (.iconst 2, 1) := by decide +kernel
theorem dX7_readValue_77 : decode cX7_readValue 77 = .ok (.invokevirtual 108, 3) := by decide +kernel
theorem dX7_readValue_80 : decode cX7_readValue 80 = .ok (.ireturn, 1) := by decide +kernel
theorem dX7_readValue_81 : decode cX7_readValue 81 = .ok (.iload_n 2, 1) := by decide +kernel
theorem dX7_readValue_82 : decode cX7_readValue 82 = .ok (.sipush 1002, 3) := by decide +kernel
theorem dX7_readValue_85 : decode cX7_readValue 85 = .ok (.if_icmp .eq 16, 3) := by decide +kernel
theorem dX7_readValue_88 : decode cX7_readValue 88 = .ok (.iload_n 2, 1) := by decide +kernel
theorem dX7_readValue_89 : decode cX7_readValue 89 = .ok (.invokestatic 233, 3) := by decide +kernel
theorem dX7_readValue_92 : decode cX7_readValue 92 = .ok (.ifCond .ne 9, 3) := by decide +kernel
theorem dX7_readValue_95 : decode cX7_readValue 95 = .ok (.aload_n 0, 1) := by decide +kernel
theorem dX7_readValue_96 : decode cX7_readValue 96 = .ok (.iconst 1, 1) := by decide +kernel
theorem dX7_readValue_97 : decode cX7_readValue 97 = .ok (.invokevirtual 108, 3) := by decide +kernel
theorem dX7_readValue_100 : decode cX7_readValue 100 = .ok (.ireturn, 1) := by decide +kernel
theorem dX7_readValue_101 : decode cX7_readValue 101 = .ok (.aload_n 0, 1) := by decide +kernel
theorem dX7_readValue_102 : decode cX7_readValue 102 = .ok (.invokevirtual 227, 3) := by decide +kernel
theorem dX7_readValue_105 : decode cX7_readValue 105 = .ok (.ifCond .ne 5, 3) := by decide +kernel
theorem dX7_readValue_108 : decode cX7_readValue 108 = .ok (.iconst 0, 1) := by decide +kernel
theorem dX7_readValue_109 : decode cX7_readValue 109 = .ok (.ireturn, 1) := by decide +kernel
theorem dX7_readValue_110 : decode cX7_readValue 110 = .ok (.aload_n 1, 1) := by decide +kernel
theorem dX7_readValue_111 : decode cX7_readValue 111 = .ok (.iload_n 2, 1) := by decide +kernel
theorem dX7_readValue_112 : decode cX7_readValue 112 = .ok (.sipush 1002, 3) := by decide +kernel
theorem dX7_readValue_115 : decode cX7_readValue 115 = .ok (.if_icmp .ne 13, 3) := by decide +kernel
theorem dX7_readValue_118 : decode cX7_readValue 118 = .ok (.aload_n 0, 1) := by decide +kernel
theorem dX7_readValue_119 : decode cX7_readValue 119 = .ok (.getfield 12, 3) := by decide +kernel
theorem dX7_readValue_122 : decode cX7_readValue 122 = .ok (.getfield 112, 3) := by decide +kernel
theorem dX7_readValue_125 : decode cX7_readValue 125 = .ok (.goto 4, 3) := by decide +kernel
theorem dX7_readValue_128 : decode cX7_readValue 128 = .ok (.iload_n 2, 1) := by decide +kernel
theorem dX7_readValue_129 : decode cX7_readValue 129 = .ok (.invokevirtual 236, 3) := by decide +kernel
theorem dX7_readValue_132 : decode cX7_readValue 132 = .ok (.aload_n 0, 1) := by decide +kernel
theorem dX7_readValue_133 : decode cX7_readValue 133 = .ok (.iconst 0, 1) := by decide +kernel
theorem dX7_readValue_134 : decode cX7_readValue 134 = .ok (.putfield 45, 3) := by decide +kernel
theorem dX7_readValue_137 : decode cX7_readValue 137 = .ok (.aload_n 0, 1) := by decide +kernel
theorem dX7_readValue_138 : decode cX7_readValue 138 = .ok (.getfield 12, 3) := by decide +kernel
theorem dX7_readValue_141 : decode cX7_readValue 141 = .ok (.invokevirtual 115, 3) := by decide +kernel
theorem dX7_readValue_144 : decode cX7_readValue 144 = .ok (.iconst 1, 1) := by decide +kernel
theorem dX7_readValue_145 : decode cX7_readValue 145 = .ok (.ireturn, 1) := by decide +kernel
theorem dX7_readOpen_0 : decode cX7_readOpen 0 = .ok (.aload_n 0, 1) := by decide +kernel
theorem dX7_readOpen_1 : decode cX7_readOpen 1 = .ok (.getfield 42, 3) := by decide +kernel
theorem dX7_readOpen_4 : decode cX7_readOpen 4 = .ok (.bipush 8, 2) := by decide +kernel
theorem dX7_readOpen_6 : decode cX7_readOpen 6 = .ok (.if_icmp .lt 9, 3) := by decide +kernel
theorem dX7_readOpen_9 : decode cX7_readOpen 9 = .ok (.aload_n 0, 1) := by decide +kernel
theorem dX7_readOpen_10 : decode cX7_readOpen 10 = .ok (.iconst 2, 1) := by decide +kernel
theorem dX7_readOpen_11 : decode cX7_readOpen 11 = .ok (.invokevirtual 108, 3) := by decide +kernel
theorem dX7_readOpen_14 : decode cX7_readOpen 14 = .ok (.ireturn, 1) := by decide +kernel
theorem dX7_readOpen_15 : decode cX7_readOpen 15 = .ok (.aload_n 0, 1) := by decide +kernel
theorem dX7_readOpen_16 : decode cX7_readOpen 16 = .ok (.dup, 1) := by decide +kernel
theorem dX7_readOpen_17 : decode cX7_readOpen 17 = .ok (.getfield 42, 3) := by decide +kernel
theorem dX7_readOpen_20 : decode cX7_readOpen 20 = .ok (.iconst 1, 1) := by decide +kernel
theorem dX7_readOpen_21 : decode cX7_readOpen 21 = .ok (.iadd, 1) := by decide +kernel
theorem dX7_readOpen_22 : decode cX7_readOpen 22 = .ok (.putfield 42, 3) := by decide +kernel
theorem dX7_readOpen_25 : decode cX7_readOpen 25 = .ok (.aload_n 0, 1) := by decide +kernel
theorem dX7_readOpen_26 : decode cX7_readOpen 26 = .ok (.iconst 1, 1) := by decide +kernel
theorem dX7_readOpen_27 : decode cX7_readOpen 27 = .ok (.putfield 49, 3) := by decide +kernel
theorem dX7_readOpen_30 : decode cX7_readOpen 30 = .ok (.aload_n 0, 1) := by decide +kernel
theorem dX7_readOpen_31 : decode cX7_readOpen 31 = .ok (.sipush 1011, 3) := by decide +kernel
theorem dX7_readOpen_34 : decode cX7_readOpen 34 = .ok (.invokevirtual 230, 3) := by decide +kernel
theorem dX7_readOpen_37 : decode cX7_readOpen 37 = .ok (.ireturn, 1) := by decide +kernel
theorem dX7_readClose_0 : decode cX7_readClose 0 = .ok (.aload_n 0, 1) := by decide +kernel
theorem dX7_readClose_1 : decode cX7_readClose 1 = .ok (.aload_n 1, 1) := by decide +kernel
theorem dX7_readClose_2 : decode cX7_readClose 2 = .ok (.iconst 1, 1) := by decide +kernel
theorem dX7_readClose_3 : decode cX7_readClose 3 = .ok (.invokevirtual 220, 3) := by decide +kernel
theorem dX7_readClose_6 : decode cX7_readClose 6 = .ok (.aload_n 0, 1) := by decide +kernel
theorem dX7_readClose_7 : decode cX7_readClose 7 = .ok (.getfield 42, 3) := by decide +kernel
theorem dX7_readClose_10 : decode cX7_readClose 10 = .ok (.ifCond .eq 10, 3) := by decide +kernel
theorem dX7_readClose_13 : decode cX7_readClose 13 = .ok (.aload_n 0, 1) := by decide +kernel
theorem dX7_readClose_14 : decode cX7_readClose 14 = .ok (.getfield 39, 3) := by decide +kernel
theorem dX7_readClose_17 : decode cX7_readClose 17 = .ok (.ifCond .ne 9, 3) := by decide +kernel
theorem dX7_readClose_20 : decode cX7_readClose 20 = .ok (.aload_n 0, 1) := by decide +kernel
theorem dX7_readClose_21 : decode cX7_readClose 21 = .ok (.iconst 1, 1) := by decide +kernel
theorem dX7_readClose_22 : decode cX7_readClose 22 = .ok (.invokevirtual 108, 3) := by decide +kernel
theorem dX7_readClose_25 : decode cX7_readClose 25 = .ok (.ireturn, 1) := by decide +kernel
theorem dX7_readClose_26 : decode cX7_readClose 26 = .ok (.aload_n 0, 1) := by decide +kernel
theorem dX7_readClose_27 : decode cX7_readClose 27 = .ok (.dup, 1) := by decide +kernel
theorem dX7_readClose_28 : decode cX7_readClose 28 = .ok (.getfield 39, 3) := by decide +kernel
theorem dX7_readClose_31 : decode cX7_readClose 31 = .ok (.iconst 1, 1) := by decide +kernel
theorem dX7_readClose_32 : decode cX7_readClose 32 = .ok (.isub, 1) := by decide +kernel
theorem dX7_readClose_33 : decode cX7_readClose 33 = .ok (.putfield 39, 3) := by decide +kernel
theorem dX7_readClose_36 : decode cX7_readClose 36 = .ok (.aload_n 0, 1) := by decide +kernel
theorem dX7_readClose_37 : decode cX7_readClose 37 = .ok (.dup, 1) := by decide +kernel
theorem dX7_readClose_38 : decode cX7_readClose 38 = .ok (.getfield 42, 3) := by decide +kernel
theorem dX7_readClose_41 : decode cX7_readClose 41 = .ok (.iconst 1, 1) := by decide +kernel
theorem dX7_readClose_42 : decode cX7_readClose 42 = .ok (.isub, 1) := by decide +kernel
theorem dX7_readClose_43 : decode cX7_readClose 43 = .ok (.putfield 42, 3) := by decide +kernel
theorem dX7_readClose_46 : decode cX7_readClose 46 = .ok (.aload_n 0, 1) := by decide +kernel
theorem dX7_readClose_47 : decode cX7_readClose 47 = .ok (.getfield 12, 3) := by decide +kernel
theorem dX7_readClose_50 : decode cX7_readClose 50 = .ok (.invokevirtual 115, 3) := by decide +kernel
theorem dX7_readClose_53 : decode cX7_readClose 53 = .ok (.iconst 1, 1) := by decide +kernel
theorem dX7_readClose_54 : decode cX7_readClose 54 = .ok (.ireturn, 1) := by decide +kernel
theorem dX7_readSign_0 : decode cX7_readSign 0 = .ok (.aload_n 0, 1) := by decide +kernel
theorem dX7_readSign_1 : decode cX7_readSign 1 = .ok (.getfield 12, 3) := by decide +kernel
theorem dX7_readSign_4 : decode cX7_readSign 4 = .ok (.getfield 55, 3) := by decide +kernel
theorem dX7_readSign_7 : decode cX7_readSign 7 = .ok (.istore_n 2, 1) := by decide +kernel
theorem dX7_readSign_8 : decode cX7_readSign 8 = .ok (.iload_n 2, 1) := by decide +kernel
theorem dX7_readSign_9 : decode cX7_readSign 9 = .ok (.invokestatic 239, 3) := by decide +kernel
theorem dX7_readSign_12 : decode cX7_readSign 12 = .ok (.istore_n 3, 1) := by decide +kernel
theorem dX7_readSign_13 : decode cX7_readSign 13 = .ok (.iload_n 3, 1) := by decide +kernel
theorem dX7_readSign_14 : decode cX7_readSign 14 = .ok (.ifCond .eq 8, 3) := by decide +kernel
theorem dX7_readSign_17 : decode cX7_readSign 17 = .ok (.iload_n 3, 1) := by decide +kernel
theorem dX7_readSign_18 : decode cX7_readSign 18 = .ok (.iconst 3, 1) := by decide +kernel
theorem dX7_readSign_19 : decode cX7_readSign 19 = .ok (.if_icmp .ne 9, 3) := by decide +kernel
theorem dX7_readSign_22 : decode cX7_readSign 22 = .ok (.aload_n 0, 1) := by decide +kernel
theorem dX7_readSign_23 : decode cX7_readSign 23 = .ok (.iconst 1, 1) := by decide +kernel
theorem dX7_readSign_24 : decode cX7_readSign 24 = .ok (.invokevirtual 108, 3) := by decide +kernel
theorem dX7_readSign_27 : decode cX7_readSign 27 = .ok (.ireturn, 1) := by decide +kernel
theorem dX7_readSign_28 : decode cX7_readSign 28 = .ok (.aload_n 0, 1) := by decide +kernel
theorem dX7_readSign_29 : decode cX7_readSign 29 = .ok (.aload_n 1, 1) := by decide +kernel
theorem dX7_readSign_30 : decode cX7_readSign 30 = .ok (.iload_n 3, 1) := by decide +kernel
theorem dX7_readSign_31 : decode cX7_readSign 31 = .ok (.iconst 4, 1) := by decide +kernel
theorem dX7_readSign_32 : decode cX7_readSign 32 = .ok (.if_icmp .ne 7, 3) := by decide +kernel
theorem dX7_readSign_35 : decode cX7_readSign 35 = .ok (.iconst 5, 1) := by decide +kernel
theorem dX7_readSign_36 : decode cX7_readSign 36 = .ok (.goto 4, 3) := by decide +kernel
theorem dX7_readSign_39 : decode cX7_readSign 39 = .ok (.iload_n 3, 1) := by decide +kernel
theorem dX7_readSign_40 : decode cX7_readSign 40 = .ok (.invokevirtual 220, 3) := by decide +kernel
theorem dX7_readSign_43 : decode cX7_readSign 43 = .ok (.iload_n 3, 1) := by decide +kernel
theorem dX7_readSign_44 : decode cX7_readSign 44 = .ok (.iconst 4, 1) := by decide +kernel
theorem dX7_readSign_45 : decode cX7_readSign 45 = .ok (.if_icmp .ne 34, 3) := by decide +kernel
theorem dX7_readSign_48 : decode cX7_readSign 48 = .ok (.aload_n 0, 1) := by decide +kernel
theorem dX7_readSign_49 : decode cX7_readSign 49 = .ok (.getfield 39, 3) := by decide +kernel
theorem dX7_readSign_52 : decode cX7_readSign 52 = .ok (.ifCond .le 27, 3) := by decide +kernel
theorem dX7_readSign_55 : decode cX7_readSign 55 = .ok (.aload_n 0, 1) := by decide +kernel
theorem dX7_readSign_56 : decode cX7_readSign 56 = .ok (.getfield 35, 3) := by decide +kernel
theorem dX7_readSign_59 : decode cX7_readSign 59 = .ok (.aload_n 0, 1) := by decide +kernel
theorem dX7_readSign_60 : decode cX7_readSign 60 = .ok (.getfield 39, 3) := by decide +kernel
theorem dX7_readSign_63 : decode cX7_readSign 63 = .ok (.iconst 1, 1) := by decide +kernel
theorem dX7_readSign_64 : decode cX7_readSign 64 = .ok (.isub, 1) := by decide +kernel
theorem dX7_readSign_65 : decode cX7_readSign 65 = .ok (.iaload, 1) := by decide +kernel
theorem dX7_readSign_66 : decode cX7_readSign 66 = .ok (.invokestatic 239, 3) := by decide +kernel
theorem dX7_readSign_69 : decode cX7_readSign 69 = .ok (.iconst 4, 1) := by decide +kernel
theorem dX7_readSign_70 : decode cX7_readSign 70 = .ok (.if_icmp .ne 9, 3) := by decide +kernel
theorem dX7_readSign_73 : decode cX7_readSign 73 = .ok (.aload_n 0, 1) := by decide +kernel
theorem dX7_readSign_74 : decode cX7_readSign 74 = .ok (.iconst 1, 1) := by decide +kernel
theorem dX7_readSign_75 : decode cX7_readSign 75 = .ok (.invokevirtual 108, 3) := by decide +kernel
theorem dX7_readSign_78 : decode cX7_readSign 78 = .ok (.ireturn, 1) := by decide +kernel
theorem dX7_readSign_79 : decode cX7_readSign 79 = .ok (.aload_n 0, 1) := by decide +kernel
theorem dX7_readSign_80 : decode cX7_readSign 80 = .ok (.iconst 1, 1) := by decide +kernel
theorem dX7_readSign_81 : decode cX7_readSign 81 = .ok (.putfield 45, 3) := by decide +kernel
theorem dX7_readSign_84 : decode cX7_readSign 84 = .ok (.aload_n 0, 1) := by decide +kernel
theorem dX7_readSign_85 : decode cX7_readSign 85 = .ok (.iload_n 3, 1) := by decide +kernel
theorem dX7_readSign_86 : decode cX7_readSign 86 = .ok (.iconst 3, 1) := by decide +kernel
theorem dX7_readSign_87 : decode cX7_readSign 87 = .ok (.if_icmp .ge 7, 3) := by decide +kernel
theorem dX7_readSign_90 : decode cX7_readSign 90 = .ok (.iconst 1, 1) := by decide +kernel
theorem dX7_readSign_91 : decode cX7_readSign 91 = .ok (.goto 4, 3) := by decide +kernel
theorem dX7_readSign_94 : decode cX7_readSign 94 = .ok (.iconst 0, 1) := by decide +kernel
theorem dX7_readSign_95 : decode cX7_readSign 95 = .ok (.putfield 49, 3) := by decide +kernel
theorem dX7_readSign_98 : decode cX7_readSign 98 = .ok (.aload_n 0, 1) := by decide +kernel
theorem dX7_readSign_99 : decode cX7_readSign 99 = .ok (.invokevirtual 227, 3) := by decide +kernel
theorem dX7_readSign_102 : decode cX7_readSign 102 = .ok (.ifCond .eq 15, 3) := by decide +kernel
theorem dX7_readSign_105 : decode cX7_readSign 105 = .ok (.aload_n 0, 1) := by decide +kernel
theorem dX7_readSign_106 : decode cX7_readSign 106 = .ok (.iload_n 2, 1) := by decide +kernel
theorem dX7_readSign_107 : decode cX7_readSign 107 = .ok (.invokevirtual 230, 3) := by decide +kernel
theorem dX7_readSign_110 : decode cX7_readSign 110 = .ok (.ifCond .eq 7, 3) := by decide +kernel
theorem dX7_readSign_113 : decode cX7_readSign 113 = .ok (.iconst 1, 1) := by decide +kernel
theorem dX7_readSign_114 : decode cX7_readSign 114 = .ok (.goto 4, 3) := by decide +kernel
theorem dX7_readSign_117 : decode cX7_readSign 117 = .ok (.iconst 0, 1) := by decide +kernel
theorem dX7_readSign_118 : decode cX7_readSign 118 = .ok (.ireturn, 1) := by decide +kernel
theorem dX7_addKnot_0 : decode cX7_addKnot 0 = .ok (.aload_n 0, 1) := by decide +kernel
theorem dX7_addKnot_1 : decode cX7_addKnot 1 = .ok (.getfield 21, 3) := by decide +kernel
theorem dX7_addKnot_4 : decode cX7_addKnot 4 = .ok (.getfield 242, 3) := by decide +kernel
theorem dX7_addKnot_7 : decode cX7_addKnot 7 = .ok (.bipush 64, 2) := by decide +kernel
theorem dX7_addKnot_9 : decode cX7_addKnot 9 = .ok (.if_icmp .lt 9, 3) := by decide +kernel
theorem dX7_addKnot_12 : decode cX7_addKnot 12 = .ok (.aload_n 0, 1) := by decide +kernel
theorem dX7_addKnot_13 : decode cX7_addKnot 13 = .ok (.iconst 2, 1) := by decide +kernel
theorem dX7_addKnot_14 : decode cX7_addKnot 14 = .ok (.invokevirtual 108, 3) := by decide +kernel
theorem dX7_addKnot_17 : decode cX7_addKnot 17 = .ok (.ireturn, 1) := by decide +kernel
theorem dX7_addKnot_18 : decode cX7_addKnot 18 = .ok (.aload_n 0, 1) := by decide +kernel
theorem dX7_addKnot_19 : decode cX7_addKnot 19 = .ok (.getfield 21, 3) := by decide +kernel
theorem dX7_addKnot_22 : decode cX7_addKnot 22 = .ok (.dup, 1) := by decide +kernel
theorem dX7_addKnot_23 : decode cX7_addKnot 23 = .ok (.getfield 242, 3) := by decide +kernel
theorem dX7_addKnot_26 : decode cX7_addKnot 26 = .ok (.iconst 1, 1) := by decide +kernel
theorem dX7_addKnot_27 : decode cX7_addKnot 27 = .ok (.iadd, 1) := by decide +kernel
theorem dX7_addKnot_28 : decode cX7_addKnot 28 = .ok (.putfield 242, 3) := by decide +kernel
theorem dX7_addKnot_31 : decode cX7_addKnot 31 = .ok (.iconst 1, 1) := by decide +kernel
theorem dX7_addKnot_32 : decode cX7_addKnot 32 = .ok (.ireturn, 1) := by decide +kernel
theorem dX7_hold_0 : decode cX7_hold 0 = .ok (.aload_n 0, 1) := by decide +kernel
theorem dX7_hold_1 : decode cX7_hold 1 = .ok (.getfield 39, 3) := by decide +kernel
theorem dX7_hold_4 : decode cX7_hold 4 = .ok (.aload_n 0, 1) := by decide +kernel
theorem dX7_hold_5 : decode cX7_hold 5 = .ok (.getfield 35, 3) := by decide +kernel
theorem dX7_hold_8 : decode cX7_hold 8 = .ok (.arraylength, 1) := by decide +kernel
theorem dX7_hold_9 : decode cX7_hold 9 = .ok (.if_icmp .lt 9, 3) := by decide +kernel
theorem dX7_hold_12 : decode cX7_hold 12 = .ok (.aload_n 0, 1) := by decide +kernel
theorem dX7_hold_13 : decode cX7_hold 13 = .ok (.iconst 2, 1) := by decide +kernel
theorem dX7_hold_14 : decode cX7_hold 14 = .ok (.invokevirtual 108, 3) := by decide +kernel
theorem dX7_hold_17 : decode cX7_hold 17 = .ok (.ireturn, 1) := by decide +kernel
theorem dX7_hold_18 : decode cX7_hold 18 = .ok (.aload_n 0, 1) := by decide +kernel
theorem dX7_hold_19 : decode cX7_hold 19 = .ok (.getfield 35, 3) := by decide +kernel
theorem dX7_hold_22 : decode cX7_hold 22 = .ok (.aload_n 0, 1) := by decide +kernel
theorem dX7_hold_23 : decode cX7_hold 23 = .ok (.getfield 39, 3) := by decide +kernel
theorem dX7_hold_26 : decode cX7_hold 26 = .ok (.iload_n 1, 1) := by decide +kernel
theorem dX7_hold_27 : decode cX7_hold 27 = .ok (.iastore, 1) := by decide +kernel
theorem dX7_hold_28 : decode cX7_hold 28 = .ok (.aload_n 0, 1) := by decide +kernel
theorem dX7_hold_29 : decode cX7_hold 29 = .ok (.dup, 1) := by decide +kernel
theorem dX7_hold_30 : decode cX7_hold 30 = .ok (.getfield 39, 3) := by decide +kernel
theorem dX7_hold_33 : decode cX7_hold 33 = .ok (.iconst 1, 1) := by decide +kernel
theorem dX7_hold_34 : decode cX7_hold 34 = .ok (.iadd, 1) := by decide +kernel
theorem dX7_hold_35 : decode cX7_hold 35 = .ok (.putfield 39, 3) := by decide +kernel
theorem dX7_hold_38 : decode cX7_hold 38 = .ok (.aload_n 0, 1) := by decide +kernel
theorem dX7_hold_39 : decode cX7_hold 39 = .ok (.getfield 12, 3) := by decide +kernel
theorem dX7_hold_42 : decode cX7_hold 42 = .ok (.invokevirtual 115, 3) := by decide +kernel
theorem dX7_hold_45 : decode cX7_hold 45 = .ok (.iconst 1, 1) := by decide +kernel
theorem dX7_hold_46 : decode cX7_hold 46 = .ok (.ireturn, 1) := by decide +kernel
theorem dX7_release_0 : decode cX7_release 0 = .ok (.aload_n 0, 1) := by decide +kernel
theorem dX7_release_1 : decode cX7_release 1 = .ok (.getfield 39, 3) := by decide +kernel
theorem dX7_release_4 : decode cX7_release 4 = .ok (.ifCond .le 47, 3) := by decide +kernel
theorem dX7_release_7 : decode cX7_release 7 = .ok (.aload_n 0, 1) := by decide +kernel
theorem dX7_release_8 : decode cX7_release 8 = .ok (.getfield 35, 3) := by decide +kernel
theorem dX7_release_11 : decode cX7_release 11 = .ok (.aload_n 0, 1) := by decide +kernel
theorem dX7_release_12 : decode cX7_release 12 = .ok (.getfield 39, 3) := by decide +kernel
theorem dX7_release_15 : decode cX7_release 15 = .ok (.iconst 1, 1) := by decide +kernel
theorem dX7_release_16 : decode cX7_release 16 = .ok (.isub, 1) := by decide +kernel
theorem dX7_release_17 : decode cX7_release 17 = .ok (.iaload, 1) := by decide +kernel
theorem dX7_release_18 : decode cX7_release 18 = .ok (.invokestatic 239, 3) := by decide +kernel
theorem dX7_release_21 : decode cX7_release 21 = .ok (.iload_n 2, 1) := by decide +kernel
theorem dX7_release_22 : decode cX7_release 22 = .ok (.if_icmp .lt 29, 3) := by decide +kernel
theorem dX7_release_25 : decode cX7_release 25 = .ok (.aload_n 0, 1) := by decide +kernel
theorem dX7_release_26 : decode cX7_release 26 = .ok (.dup, 1) := by decide +kernel
theorem dX7_release_27 : decode cX7_release 27 = .ok (.getfield 39, 3) := by decide +kernel
theorem dX7_release_30 : decode cX7_release 30 = .ok (.iconst 1, 1) := by decide +kernel
theorem dX7_release_31 : decode cX7_release 31 = .ok (.isub, 1) := by decide +kernel
theorem dX7_release_32 : decode cX7_release 32 = .ok (.putfield 39, 3) := by decide +kernel
theorem dX7_release_35 : decode cX7_release 35 = .ok (.aload_n 1, 1) := by decide +kernel
theorem dX7_release_36 : decode cX7_release 36 = .ok (.aload_n 0, 1) := by decide +kernel
theorem dX7_release_37 : decode cX7_release 37 = .ok (.getfield 35, 3) := by decide +kernel
theorem dX7_release_40 : decode cX7_release 40 = .ok (.aload_n 0, 1) := by decide +kernel
theorem dX7_release_41 : decode cX7_release 41 = .ok (.getfield 39, 3) := by decide +kernel
theorem dX7_release_44 : decode cX7_release 44 = .ok (.iaload, 1) := by decide +kernel
theorem dX7_release_45 : decode cX7_release 45 = .ok (.invokevirtual 236, 3) := by decide +kernel
theorem dX7_release_48 : decode cX7_release 48 = .ok (.goto (-48), 3) := by decide +kernel
theorem dX7_release_51 : decode cX7_release 51 = .ok (.return_, 1) := by decide +kernel
theorem dX7_rankOf_0 : decode cX7_rankOf 0 = .ok (.iload_n 0, 1) := by decide +kernel
theorem dX7_rankOf_1 : decode cX7_rankOf 1 = .ok (.lookupswitch 78 #[(1013, 73), (1014, 73), (1015, 75), (1016, 75), (1114, 67), (1115, 69), (1116, 71)], 67) := by decide +kernel
theorem dX7_rankOf_68 : decode cX7_rankOf 68 = .ok (.iconst 1, 1) := by decide +kernel
theorem dX7_rankOf_69 : decode cX7_rankOf 69 = .ok (.ireturn, 1) := by decide +kernel
theorem dX7_rankOf_70 : decode cX7_rankOf 70 = .ok (.iconst 2, 1) := by decide +kernel
theorem dX7_rankOf_71 : decode cX7_rankOf 71 = .ok (.ireturn, 1) := by decide +kernel
theorem dX7_rankOf_72 : decode cX7_rankOf 72 = .ok (.iconst 3, 1) := by decide +kernel
theorem dX7_rankOf_73 : decode cX7_rankOf 73 = .ok (.ireturn, 1) := by decide +kernel
theorem dX7_rankOf_74 : decode cX7_rankOf 74 = .ok (.iconst 5, 1) := by decide +kernel
theorem dX7_rankOf_75 : decode cX7_rankOf 75 = .ok (.ireturn, 1) := by decide +kernel
theorem dX7_rankOf_76 : decode cX7_rankOf 76 = .ok (.bipush 6, 2) := by decide +kernel
theorem dX7_rankOf_78 : decode cX7_rankOf 78 = .ok (.ireturn, 1) := by decide +kernel
theorem dX7_rankOf_79 : decode cX7_rankOf 79 = .ok (.iload_n 0, 1) := by decide +kernel
theorem dX7_rankOf_80 : decode cX7_rankOf 80 = .ok (.sipush 1017, 3) := by decide +kernel
theorem dX7_rankOf_83 : decode cX7_rankOf 83 = .ok (.if_icmp .lt 14, 3) := by decide +kernel
theorem dX7_rankOf_86 : decode cX7_rankOf 86 = .ok (.iload_n 0, 1) := by decide +kernel
theorem dX7_rankOf_87 : decode cX7_rankOf 87 = .ok (.sipush 1022, 3) := by decide +kernel
theorem dX7_rankOf_90 : decode cX7_rankOf 90 = .ok (.if_icmp .gt 7, 3) := by decide +kernel
theorem dX7_rankOf_93 : decode cX7_rankOf 93 = .ok (.iconst 4, 1) := by decide +kernel
theorem dX7_rankOf_94 : decode cX7_rankOf 94 = .ok (.goto 4, 3) := by decide +kernel
theorem dX7_rankOf_97 : decode cX7_rankOf 97 = .ok (.iconst 0, 1) := by decide +kernel
theorem dX7_rankOf_98 : decode cX7_rankOf 98 = .ok (.ireturn, 1) := by decide +kernel
theorem dX8_init_0 : decode cX8_init 0 = .ok (.aload_n 0, 1) := by decide +kernel
theorem dX8_init_1 : decode cX8_init 1 = .ok (.invokespecial 3, 3) := by decide +kernel
theorem dX8_init_4 : decode cX8_init 4 = .ok (.aload_n 0, 1) := by decide +kernel
theorem dX8_init_5 : decode cX8_init 5 = .ok (.iconst 0, 1) := by decide +kernel
theorem dX8_init_6 : decode cX8_init 6 = .ok (.putfield 9, 3) := by decide +kernel
theorem dX8_init_9 : decode cX8_init 9 = .ok (.aload_n 0, 1) := by decide +kernel
theorem dX8_init_10 : decode cX8_init 10 = .ok (.iconst 5, 1) := by decide +kernel
theorem dX8_init_11 : decode cX8_init 11 = .ok (.newarray .int, 2) := by decide +kernel
theorem dX8_init_13 : decode cX8_init 13 = .ok (.putfield 15, 3) := by decide +kernel
theorem dX8_init_16 : decode cX8_init 16 = .ok (.aload_n 0, 1) := by decide +kernel
theorem dX8_init_17 : decode cX8_init 17 = .ok (.iconst 5, 1) := by decide +kernel
theorem dX8_init_18 : decode cX8_init 18 = .ok (.newarray .int, 2) := by decide +kernel
theorem dX8_init_20 : decode cX8_init 20 = .ok (.putfield 19, 3) := by decide +kernel
theorem dX8_init_23 : decode cX8_init 23 = .ok (.aload_n 0, 1) := by decide +kernel
theorem dX8_init_24 : decode cX8_init 24 = .ok (.iconst 5, 1) := by decide +kernel
theorem dX8_init_25 : decode cX8_init 25 = .ok (.newarray .int, 2) := by decide +kernel
theorem dX8_init_27 : decode cX8_init 27 = .ok (.putfield 22, 3) := by decide +kernel
theorem dX8_init_30 : decode cX8_init 30 = .ok (.aload_n 0, 1) := by decide +kernel
theorem dX8_init_31 : decode cX8_init 31 = .ok (.iconst 5, 1) := by decide +kernel
theorem dX8_init_32 : decode cX8_init 32 = .ok (.newarray .int, 2) := by decide +kernel
theorem dX8_init_34 : decode cX8_init 34 = .ok (.putfield 25, 3) := by decide +kernel
theorem dX8_init_37 : decode cX8_init 37 = .ok (.aload_n 0, 1) := by decide +kernel
theorem dX8_init_38 : decode cX8_init 38 = .ok (.iconst 5, 1) := by decide +kernel
theorem dX8_init_39 : decode cX8_init 39 = .ok (.newarray .int, 2) := by decide +kernel
theorem dX8_init_41 : decode cX8_init 41 = .ok (.putfield 28, 3) := by decide +kernel
theorem dX8_init_44 : decode cX8_init 44 = .ok (.return_, 1) := by decide +kernel
theorem dX8_has_0 : decode cX8_has 0 = .ok (.iload_n 1, 1) := by decide +kernel
theorem dX8_has_1 : decode cX8_has 1 = .ok (.ifCond .lt 15, 3) := by decide +kernel
theorem dX8_has_4 : decode cX8_has 4 = .ok (.iload_n 1, 1) := by decide +kernel
theorem dX8_has_5 : decode cX8_has 5 = .ok (.aload_n 0, 1) := by decide +kernel
theorem dX8_has_6 : decode cX8_has 6 = .ok (.getfield 9, 3) := by decide +kernel
theorem dX8_has_9 : decode cX8_has 9 = .ok (.if_icmp .ge 7, 3) := by decide +kernel
theorem dX8_has_12 : decode cX8_has 12 = .ok (.iconst 1, 1) := by decide +kernel
theorem dX8_has_13 : decode cX8_has 13 = .ok (.goto 4, 3) := by decide +kernel
theorem dX8_has_16 : decode cX8_has 16 = .ok (.iconst 0, 1) := by decide +kernel
theorem dX8_has_17 : decode cX8_has 17 = .ok (.ireturn, 1) := by decide +kernel
theorem dX8_numberOf_0 : decode cX8_numberOf 0 = .ok (.aload_n 0, 1) := by decide +kernel
theorem dX8_numberOf_1 : decode cX8_numberOf 1 = .ok (.getfield 15, 3) := by decide +kernel
theorem dX8_numberOf_4 : decode cX8_numberOf 4 = .ok (.aload_n 0, 1) := by decide +kernel
theorem dX8_numberOf_5 : decode cX8_numberOf 5 = .ok (.getfield 9, 3) := by decide +kernel
theorem dX8_numberOf_8 : decode cX8_numberOf 8 = .ok (.iload_n 1, 1) := by decide +kernel
theorem dX8_numberOf_9 : decode cX8_numberOf 9 = .ok (.invokestatic 31, 3) := by decide +kernel
theorem dX8_numberOf_12 : decode cX8_numberOf 12 = .ok (.ireturn, 1) := by decide +kernel
theorem dX8_areThere_0 : decode cX8_areThere 0 = .ok (.iload_n 1, 1) := by decide +kernel
theorem dX8_areThere_1 : decode cX8_areThere 1 = .ok (.ifCond .lt 17, 3) := by decide +kernel
theorem dX8_areThere_4 : decode cX8_areThere 4 = .ok (.iload_n 1, 1) := by decide +kernel
theorem dX8_areThere_5 : decode cX8_areThere 5 = .ok (.iconst 1, 1) := by decide +kernel
theorem dX8_areThere_6 : decode cX8_areThere 6 = .ok (.aload_n 0, 1) := by decide +kernel
theorem dX8_areThere_7 : decode cX8_areThere 7 = .ok (.getfield 9, 3) := by decide +kernel
theorem dX8_areThere_10 : decode cX8_areThere 10 = .ok (.ishl, 1) := by decide +kernel
theorem dX8_areThere_11 : decode cX8_areThere 11 = .ok (.if_icmp .ge 7, 3) := by decide +kernel
theorem dX8_areThere_14 : decode cX8_areThere 14 = .ok (.iconst 1, 1) := by decide +kernel
theorem dX8_areThere_15 : decode cX8_areThere 15 = .ok (.goto 4, 3) := by decide +kernel
theorem dX8_areThere_18 : decode cX8_areThere 18 = .ok (.iconst 0, 1) := by decide +kernel
theorem dX8_areThere_19 : decode cX8_areThere 19 = .ok (.ireturn, 1) := by decide +kernel
theorem dX8_add_0 : decode cX8_add 0 = .ok (.aload_n 0, 1) := by decide +kernel
theorem dX8_add_1 : decode cX8_add 1 = .ok (.getfield 9, 3) := by decide +kernel
theorem dX8_add_4 : decode cX8_add 4 = .ok (.iconst 5, 1) := by decide +kernel
theorem dX8_add_5 : decode cX8_add 5 = .ok (.if_icmp .lt 4, 3) := by decide +kernel
theorem dX8_add_8 : decode cX8_add 8 = .ok (.return_, 1) := by decide +kernel
theorem dX8_add_9 : decode cX8_add 9 = .ok (.aload_n 0, 1) := by decide +kernel
theorem dX8_add_10 : decode cX8_add 10 = .ok (.getfield 15, 3) := by decide +kernel
theorem dX8_add_13 : decode cX8_add 13 = .ok (.aload_n 0, 1) := by decide +kernel
theorem dX8_add_14 : decode cX8_add 14 = .ok (.getfield 9, 3) := by decide +kernel
theorem dX8_add_17 : decode cX8_add 17 = .ok (.iload_n 1, 1) := by decide +kernel
theorem dX8_add_18 : decode cX8_add 18 = .ok (.iastore, 1) := by decide +kernel
theorem dX8_add_19 : decode cX8_add 19 = .ok (.aload_n 0, 1) := by decide +kernel
theorem dX8_add_20 : decode cX8_add 20 = .ok (.getfield 19, 3) := by decide +kernel
theorem dX8_add_23 : decode cX8_add 23 = .ok (.aload_n 0, 1) := by decide +kernel
theorem dX8_add_24 : decode cX8_add 24 = .ok (.getfield 9, 3) := by decide +kernel
theorem dX8_add_27 : decode cX8_add 27 = .ok (.iload_n 2, 1) := by decide +kernel
theorem dX8_add_28 : decode cX8_add 28 = .ok (.iastore, 1) := by decide +kernel
theorem dX8_add_29 : decode cX8_add 29 = .ok (.aload_n 0, 1) := by decide +kernel
theorem dX8_add_30 : decode cX8_add 30 = .ok (.getfield 22, 3) := by decide +kernel
theorem dX8_add_33 : decode cX8_add 33 = .ok (.aload_n 0, 1) := by decide +kernel
theorem dX8_add_34 : decode cX8_add 34 = .ok (.getfield 9, 3) := by decide +kernel
theorem dX8_add_37 : decode cX8_add 37 = .ok (.iload_n 3, 1) := by decide +kernel
theorem dX8_add_38 : decode cX8_add 38 = .ok (.iastore, 1) := by decide +kernel
theorem dX8_add_39 : decode cX8_add 39 = .ok (.aload_n 0, 1) := by decide +kernel
theorem dX8_add_40 : decode cX8_add 40 = .ok (.getfield 25, 3) := by decide +kernel
theorem dX8_add_43 : decode cX8_add 43 = .ok (.aload_n 0, 1) := by decide +kernel
theorem dX8_add_44 : decode cX8_add 44 = .ok (.getfield 9, 3) := by decide +kernel
theorem dX8_add_47 : decode cX8_add 47 = .ok (.iload 4, 2) := by decide +kernel
theorem dX8_add_49 : decode cX8_add 49 = .ok (.iastore, 1) := by decide +kernel
theorem dX8_add_50 : decode cX8_add 50 = .ok (.aload_n 0, 1) := by decide +kernel
theorem dX8_add_51 : decode cX8_add 51 = .ok (.getfield 28, 3) := by decide +kernel
theorem dX8_add_54 : decode cX8_add 54 = .ok (.aload_n 0, 1) := by decide +kernel
theorem dX8_add_55 : decode cX8_add 55 = .ok (.getfield 9, 3) := by decide +kernel
theorem dX8_add_58 : decode cX8_add 58 = .ok (.iconst (-1), 1) := by decide +kernel
theorem dX8_add_59 : decode cX8_add 59 = .ok (.iastore, 1) := by decide +kernel
theorem dX8_add_60 : decode cX8_add 60 = .ok (.aload_n 0, 1) := by decide +kernel
theorem dX8_add_61 : decode cX8_add 61 = .ok (.dup, 1) := by decide +kernel
theorem dX8_add_62 : decode cX8_add 62 = .ok (.getfield 9, 3) := by decide +kernel
theorem dX8_add_65 : decode cX8_add 65 = .ok (.iconst 1, 1) := by decide +kernel
theorem dX8_add_66 : decode cX8_add 66 = .ok (.iadd, 1) := by decide +kernel
theorem dX8_add_67 : decode cX8_add 67 = .ok (.putfield 9, 3) := by decide +kernel
theorem dX8_add_70 : decode cX8_add 70 = .ok (.return_, 1) := by decide +kernel
theorem dX8_lastOff_0 : decode cX8_lastOff 0 = .ok (.aload_n 0, 1) := by decide +kernel
theorem dX8_lastOff_1 : decode cX8_lastOff 1 = .ok (.getfield 28, 3) := by decide +kernel
theorem dX8_lastOff_4 : decode cX8_lastOff 4 = .ok (.iload_n 1, 1) := by decide +kernel
theorem dX8_lastOff_5 : decode cX8_lastOff 5 = .ok (.iaload, 1) := by decide +kernel
theorem dX8_lastOff_6 : decode cX8_lastOff 6 = .ok (.iconst (-1), 1) := by decide +kernel
theorem dX8_lastOff_7 : decode cX8_lastOff 7 = .ok (.if_icmp .ne 7, 3) := by decide +kernel
theorem dX8_lastOff_10 : decode cX8_lastOff 10 = .ok (.iload_n 2, 1) := by decide +kernel
theorem dX8_lastOff_11 : decode cX8_lastOff 11 = .ok (.goto 15, 3) := by decide +kernel
theorem dX8_lastOff_14 : decode cX8_lastOff 14 = .ok (.iload_n 2, 1) := by decide +kernel
theorem dX8_lastOff_15 : decode cX8_lastOff 15 = .ok (.aload_n 0, 1) := by decide +kernel
theorem dX8_lastOff_16 : decode cX8_lastOff 16 = .ok (.getfield 28, 3) := by decide +kernel
theorem dX8_lastOff_19 : decode cX8_lastOff 19 = .ok (.iload_n 1, 1) := by decide +kernel
theorem dX8_lastOff_20 : decode cX8_lastOff 20 = .ok (.iaload, 1) := by decide +kernel
theorem dX8_lastOff_21 : decode cX8_lastOff 21 = .ok (.iconst 1, 1) := by decide +kernel
theorem dX8_lastOff_22 : decode cX8_lastOff 22 = .ok (.isub, 1) := by decide +kernel
theorem dX8_lastOff_23 : decode cX8_lastOff 23 = .ok (.invokestatic 35, 3) := by decide +kernel
theorem dX8_lastOff_26 : decode cX8_lastOff 26 = .ok (.ireturn, 1) := by decide +kernel
theorem dX8_offHours_0 : decode cX8_offHours 0 = .ok (.aload_n 0, 1) := by decide +kernel
theorem dX8_offHours_1 : decode cX8_offHours 1 = .ok (.iload_n 1, 1) := by decide +kernel
theorem dX8_offHours_2 : decode cX8_offHours 2 = .ok (.iload_n 2, 1) := by decide +kernel
theorem dX8_offHours_3 : decode cX8_offHours 3 = .ok (.invokevirtual 41, 3) := by decide +kernel
theorem dX8_offHours_6 : decode cX8_offHours 6 = .ok (.aload_n 0, 1) := by decide +kernel
theorem dX8_offHours_7 : decode cX8_offHours 7 = .ok (.getfield 22, 3) := by decide +kernel
theorem dX8_offHours_10 : decode cX8_offHours 10 = .ok (.iload_n 1, 1) := by decide +kernel
theorem dX8_offHours_11 : decode cX8_offHours 11 = .ok (.iaload, 1) := by decide +kernel
theorem dX8_offHours_12 : decode cX8_offHours 12 = .ok (.isub, 1) := by decide +kernel
theorem dX8_offHours_13 : decode cX8_offHours 13 = .ok (.iconst 1, 1) := by decide +kernel
theorem dX8_offHours_14 : decode cX8_offHours 14 = .ok (.iadd, 1) := by decide +kernel
theorem dX8_offHours_15 : decode cX8_offHours 15 = .ok (.ireturn, 1) := by decide +kernel
theorem dX9_init_0 : decode cX9_init 0 = .ok (.aload_n 0, 1) := by decide +kernel
theorem dX9_init_1 : decode cX9_init 1 = .ok (.invokespecial 3, 3) := by decide +kernel
theorem dX9_init_4 : decode cX9_init 4 = .ok (.aload_n 0, 1) := by decide +kernel
theorem dX9_init_5 : decode cX9_init 5 = .ok (.iconst 0, 1) := by decide +kernel
theorem dX9_init_6 : decode cX9_init 6 = .ok (.putfield 9, 3) := by decide +kernel
theorem dX9_init_9 : decode cX9_init 9 = .ok (.aload_n 0, 1) := by decide +kernel
theorem dX9_init_10 : decode cX9_init 10 = .ok (.bipush 8, 2) := by decide +kernel
theorem dX9_init_12 : decode cX9_init 12 = .ok (.newarray .int, 2) := by decide +kernel
theorem dX9_init_14 : decode cX9_init 14 = .ok (.putfield 15, 3) := by decide +kernel
theorem dX9_init_17 : decode cX9_init 17 = .ok (.aload_n 0, 1) := by decide +kernel
theorem dX9_init_18 : decode cX9_init 18 = .ok (.bipush 8, 2) := by decide +kernel
theorem dX9_init_20 : decode cX9_init 20 = .ok (.newarray .int, 2) := by decide +kernel
theorem dX9_init_22 : decode cX9_init 22 = .ok (.putfield 19, 3) := by decide +kernel
theorem dX9_init_25 : decode cX9_init 25 = .ok (.aload_n 0, 1) := by decide +kernel
theorem dX9_init_26 : decode cX9_init 26 = .ok (.bipush 8, 2) := by decide +kernel
theorem dX9_init_28 : decode cX9_init 28 = .ok (.newarray .int, 2) := by decide +kernel
theorem dX9_init_30 : decode cX9_init 30 = .ok (.putfield 22, 3) := by decide +kernel
theorem dX9_init_33 : decode cX9_init 33 = .ok (.aload_n 0, 1) := by decide +kernel
theorem dX9_init_34 : decode cX9_init 34 = .ok (.bipush 8, 2) := by decide +kernel
theorem dX9_init_36 : decode cX9_init 36 = .ok (.newarray .int, 2) := by decide +kernel
theorem dX9_init_38 : decode cX9_init 38 = .ok (.putfield 25, 3) := by decide +kernel
theorem dX9_init_41 : decode cX9_init 41 = .ok (.aload_n 0, 1) := by decide +kernel
theorem dX9_init_42 : decode cX9_init 42 = .ok (.bipush 8, 2) := by decide +kernel
theorem dX9_init_44 : decode cX9_init 44 = .ok (.newarray .int, 2) := by decide +kernel
theorem dX9_init_46 : decode cX9_init 46 = .ok (.putfield 28, 3) := by decide +kernel
theorem dX9_init_49 : decode cX9_init 49 = .ok (.return_, 1) := by decide +kernel
theorem dX9_has_0 : decode cX9_has 0 = .ok (.iload_n 1, 1) := by decide +kernel
theorem dX9_has_1 : decode cX9_has 1 = .ok (.ifCond .lt 15, 3) := by decide +kernel
theorem dX9_has_4 : decode cX9_has 4 = .ok (.iload_n 1, 1) := by decide +kernel
theorem dX9_has_5 : decode cX9_has 5 = .ok (.aload_n 0, 1) := by decide +kernel
theorem dX9_has_6 : decode cX9_has 6 = .ok (.getfield 9, 3) := by decide +kernel
theorem dX9_has_9 : decode cX9_has 9 = .ok (.if_icmp .ge 7, 3) := by decide +kernel
theorem dX9_has_12 : decode cX9_has 12 = .ok (.iconst 1, 1) := by decide +kernel
theorem dX9_has_13 : decode cX9_has 13 = .ok (.goto 4, 3) := by decide +kernel
theorem dX9_has_16 : decode cX9_has 16 = .ok (.iconst 0, 1) := by decide +kernel
theorem dX9_has_17 : decode cX9_has 17 = .ok (.ireturn, 1) := by decide +kernel
theorem dX9_numberOf_0 : decode cX9_numberOf 0 = .ok (.aload_n 0, 1) := by decide +kernel
theorem dX9_numberOf_1 : decode cX9_numberOf 1 = .ok (.getfield 15, 3) := by decide +kernel
theorem dX9_numberOf_4 : decode cX9_numberOf 4 = .ok (.aload_n 0, 1) := by decide +kernel
theorem dX9_numberOf_5 : decode cX9_numberOf 5 = .ok (.getfield 9, 3) := by decide +kernel
theorem dX9_numberOf_8 : decode cX9_numberOf 8 = .ok (.iload_n 1, 1) := by decide +kernel
theorem dX9_numberOf_9 : decode cX9_numberOf 9 = .ok (.invokestatic 31, 3) := by decide +kernel
theorem dX9_numberOf_12 : decode cX9_numberOf 12 = .ok (.ireturn, 1) := by decide +kernel
theorem dX9_add_0 : decode cX9_add 0 = .ok (.aload_n 0, 1) := by decide +kernel
theorem dX9_add_1 : decode cX9_add 1 = .ok (.getfield 9, 3) := by decide +kernel
theorem dX9_add_4 : decode cX9_add 4 = .ok (.bipush 8, 2) := by decide +kernel
theorem dX9_add_6 : decode cX9_add 6 = .ok (.if_icmp .lt 4, 3) := by decide +kernel
theorem dX9_add_9 : decode cX9_add 9 = .ok (.return_, 1) := by decide +kernel
theorem dX9_add_10 : decode cX9_add 10 = .ok (.aload_n 0, 1) := by decide +kernel
theorem dX9_add_11 : decode cX9_add 11 = .ok (.getfield 15, 3) := by decide +kernel
theorem dX9_add_14 : decode cX9_add 14 = .ok (.aload_n 0, 1) := by decide +kernel
theorem dX9_add_15 : decode cX9_add 15 = .ok (.getfield 9, 3) := by decide +kernel
theorem dX9_add_18 : decode cX9_add 18 = .ok (.iload_n 1, 1) := by decide +kernel
theorem dX9_add_19 : decode cX9_add 19 = .ok (.iastore, 1) := by decide +kernel
theorem dX9_add_20 : decode cX9_add 20 = .ok (.aload_n 0, 1) := by decide +kernel
theorem dX9_add_21 : decode cX9_add 21 = .ok (.getfield 19, 3) := by decide +kernel
theorem dX9_add_24 : decode cX9_add 24 = .ok (.aload_n 0, 1) := by decide +kernel
theorem dX9_add_25 : decode cX9_add 25 = .ok (.getfield 9, 3) := by decide +kernel
theorem dX9_add_28 : decode cX9_add 28 = .ok (.iload_n 2, 1) := by decide +kernel
theorem dX9_add_29 : decode cX9_add 29 = .ok (.iastore, 1) := by decide +kernel
theorem dX9_add_30 : decode cX9_add 30 = .ok (.aload_n 0, 1) := by decide +kernel
theorem dX9_add_31 : decode cX9_add 31 = .ok (.getfield 22, 3) := by decide +kernel
theorem dX9_add_34 : decode cX9_add 34 = .ok (.aload_n 0, 1) := by decide +kernel
theorem dX9_add_35 : decode cX9_add 35 = .ok (.getfield 9, 3) := by decide +kernel
theorem dX9_add_38 : decode cX9_add 38 = .ok (.iload_n 3, 1) := by decide +kernel
theorem dX9_add_39 : decode cX9_add 39 = .ok (.iastore, 1) := by decide +kernel
theorem dX9_add_40 : decode cX9_add 40 = .ok (.aload_n 0, 1) := by decide +kernel
theorem dX9_add_41 : decode cX9_add 41 = .ok (.getfield 25, 3) := by decide +kernel
theorem dX9_add_44 : decode cX9_add 44 = .ok (.aload_n 0, 1) := by decide +kernel
theorem dX9_add_45 : decode cX9_add 45 = .ok (.getfield 9, 3) := by decide +kernel
theorem dX9_add_48 : decode cX9_add 48 = .ok (.iconst (-1), 1) := by decide +kernel
theorem dX9_add_49 : decode cX9_add 49 = .ok (.iastore, 1) := by decide +kernel
theorem dX9_add_50 : decode cX9_add 50 = .ok (.aload_n 0, 1) := by decide +kernel
theorem dX9_add_51 : decode cX9_add 51 = .ok (.getfield 28, 3) := by decide +kernel
theorem dX9_add_54 : decode cX9_add 54 = .ok (.aload_n 0, 1) := by decide +kernel
theorem dX9_add_55 : decode cX9_add 55 = .ok (.getfield 9, 3) := by decide +kernel
theorem dX9_add_58 : decode cX9_add 58 = .ok (.iconst (-1), 1) := by decide +kernel
theorem dX9_add_59 : decode cX9_add 59 = .ok (.iastore, 1) := by decide +kernel
theorem dX9_add_60 : decode cX9_add 60 = .ok (.aload_n 0, 1) := by decide +kernel
theorem dX9_add_61 : decode cX9_add 61 = .ok (.dup, 1) := by decide +kernel
theorem dX9_add_62 : decode cX9_add 62 = .ok (.getfield 9, 3) := by decide +kernel
theorem dX9_add_65 : decode cX9_add 65 = .ok (.iconst 1, 1) := by decide +kernel
theorem dX9_add_66 : decode cX9_add 66 = .ok (.iadd, 1) := by decide +kernel
theorem dX9_add_67 : decode cX9_add 67 = .ok (.putfield 9, 3) := by decide +kernel
theorem dX9_add_70 : decode cX9_add 70 = .ok (.return_, 1) := by decide +kernel
theorem dX10_init_0 : decode cX10_init 0 = .ok (.aload_n 0, 1) := by decide +kernel
theorem dX10_init_1 : decode cX10_init 1 = .ok (.invokespecial 3, 3) := by decide +kernel
theorem dX10_init_4 : decode cX10_init 4 = .ok (.aload_n 0, 1) := by decide +kernel
theorem dX10_init_5 : decode cX10_init 5 = .ok (.bipush 27, 2) := by decide +kernel
theorem dX10_init_7 : decode cX10_init 7 = .ok (.newarray .int, 2) := by decide +kernel
theorem dX10_init_9 : decode cX10_init 9 = .ok (.putfield 11, 3) := by decide +kernel
theorem dX10_init_12 : decode cX10_init 12 = .ok (.aload_n 0, 1) := by decide +kernel
theorem dX10_init_13 : decode cX10_init 13 = .ok (.sipush 800, 3) := by decide +kernel
theorem dX10_init_16 : decode cX10_init 16 = .ok (.newarray .int, 2) := by decide +kernel
theorem dX10_init_18 : decode cX10_init 18 = .ok (.putfield 15, 3) := by decide +kernel
theorem dX10_init_21 : decode cX10_init 21 = .ok (.aload_n 0, 1) := by decide +kernel
theorem dX10_init_22 : decode cX10_init 22 = .ok (.iconst 0, 1) := by decide +kernel
theorem dX10_init_23 : decode cX10_init 23 = .ok (.putfield 18, 3) := by decide +kernel
theorem dX10_init_26 : decode cX10_init 26 = .ok (.aload_n 0, 1) := by decide +kernel
theorem dX10_init_27 : decode cX10_init 27 = .ok (.iconst 0, 1) := by decide +kernel
theorem dX10_init_28 : decode cX10_init 28 = .ok (.putfield 22, 3) := by decide +kernel
theorem dX10_init_31 : decode cX10_init 31 = .ok (.aload_n 0, 1) := by decide +kernel
theorem dX10_init_32 : decode cX10_init 32 = .ok (.iconst 0, 1) := by decide +kernel
theorem dX10_init_33 : decode cX10_init 33 = .ok (.putfield 25, 3) := by decide +kernel
theorem dX10_init_36 : decode cX10_init 36 = .ok (.aload_n 0, 1) := by decide +kernel
theorem dX10_init_37 : decode cX10_init 37 = .ok (.iconst 0, 1) := by decide +kernel
theorem dX10_init_38 : decode cX10_init 38 = .ok (.putfield 28, 3) := by decide +kernel
theorem dX10_init_41 : decode cX10_init 41 = .ok (.aload_n 0, 1) := by decide +kernel
theorem dX10_init_42 : decode cX10_init 42 = .ok (.sipush 801, 3) := by decide +kernel
theorem dX10_init_45 : decode cX10_init 45 = .ok (.newarray .int, 2) := by decide +kernel
theorem dX10_init_47 : decode cX10_init 47 = .ok (.putfield 31, 3) := by decide +kernel
theorem dX10_init_50 : decode cX10_init 50 = .ok (.aload_n 0, 1) := by decide +kernel
theorem dX10_init_51 : decode cX10_init 51 = .ok (.sipush 801, 3) := by decide +kernel
theorem dX10_init_54 : decode cX10_init 54 = .ok (.newarray .int, 2) := by decide +kernel
theorem dX10_init_56 : decode cX10_init 56 = .ok (.putfield 34, 3) := by decide +kernel
theorem dX10_init_59 : decode cX10_init 59 = .ok (.aload_n 0, 1) := by decide +kernel
theorem dX10_init_60 : decode cX10_init 60 = .ok (.sipush 801, 3) := by decide +kernel
theorem dX10_init_63 : decode cX10_init 63 = .ok (.newarray .int, 2) := by decide +kernel
theorem dX10_init_65 : decode cX10_init 65 = .ok (.putfield 37, 3) := by decide +kernel
theorem dX10_init_68 : decode cX10_init 68 = .ok (.aload_n 0, 1) := by decide +kernel
theorem dX10_init_69 : decode cX10_init 69 = .ok (.iconst 0, 1) := by decide +kernel
theorem dX10_init_70 : decode cX10_init 70 = .ok (.putfield 40, 3) := by decide +kernel
theorem dX10_init_73 : decode cX10_init 73 = .ok (.aload_n 0, 1) := by decide +kernel
theorem dX10_init_74 : decode cX10_init 74 = .ok (.sipush 1000, 3) := by decide +kernel
theorem dX10_init_77 : decode cX10_init 77 = .ok (.putfield 43, 3) := by decide +kernel
theorem dX10_init_80 : decode cX10_init 80 = .ok (.aload_n 0, 1) := by decide +kernel
theorem dX10_init_81 : decode cX10_init 81 = .ok (.iconst 0, 1) := by decide +kernel
theorem dX10_init_82 : decode cX10_init 82 = .ok (.putfield 46, 3) := by decide +kernel
theorem dX10_init_85 : decode cX10_init 85 = .ok (.aload_n 0, 1) := by decide +kernel
theorem dX10_init_86 : decode cX10_init 86 = .ok (.iconst 0, 1) := by decide +kernel
theorem dX10_init_87 : decode cX10_init 87 = .ok (.putfield 49, 3) := by decide +kernel
theorem dX10_init_90 : decode cX10_init 90 = .ok (.iconst 0, 1) := by decide +kernel
theorem dX10_init_91 : decode cX10_init 91 = .ok (.istore_n 1, 1) := by decide +kernel
theorem dX10_init_92 : decode cX10_init 92 = .ok (.iconst 0, 1) := by decide +kernel
theorem dX10_init_93 : decode cX10_init 93 = .ok (.istore_n 2, 1) := by decide +kernel
theorem dX10_init_94 : decode cX10_init 94 = .ok (.iconst 0, 1) := by decide +kernel
theorem dX10_init_95 : decode cX10_init 95 = .ok (.istore_n 3, 1) := by decide +kernel
theorem dX10_init_96 : decode cX10_init 96 = .ok (.iload_n 3, 1) := by decide +kernel
theorem dX10_init_97 : decode cX10_init 97 = .ok (.ldc 52, 2) := by decide +kernel
theorem dX10_init_99 : decode cX10_init 99 = .ok (.invokevirtual 54, 3) := by decide +kernel
theorem dX10_init_102 : decode cX10_init 102 = .ok (.if_icmp .ge 56, 3) := by decide +kernel
theorem dX10_init_105 : decode cX10_init 105 = .ok (.iload_n 1, 1) := by decide +kernel
theorem dX10_init_106 : decode cX10_init 106 = .ok (.bipush 27, 2) := by decide +kernel
theorem dX10_init_108 : decode cX10_init 108 = .ok (.if_icmp .ge 50, 3) := by decide +kernel
theorem dX10_init_111 : decode cX10_init 111 = .ok (.ldc 52, 2) := by decide +kernel
theorem dX10_init_113 : decode cX10_init 113 = .ok (.iload_n 3, 1) := by decide +kernel
theorem dX10_init_114 : decode cX10_init 114 = .ok (.invokevirtual 59, 3) := by decide +kernel
theorem dX10_init_117 : decode cX10_init 117 = .ok (.istore 4, 2) := by decide +kernel
theorem dX10_init_119 : decode cX10_init 119 = .ok (.iload 4, 2) := by decide +kernel
theorem dX10_init_121 : decode cX10_init 121 = .ok (.bipush 32, 2) := by decide +kernel
theorem dX10_init_123 : decode cX10_init 123 = .ok (.if_icmp .ne 11, 3) := by decide +kernel
theorem dX10_init_126 : decode cX10_init 126 = .ok (.iinc 1 1, 3) := by decide +kernel
theorem dX10_init_129 : decode cX10_init 129 = .ok (.iconst 0, 1) := by decide +kernel
theorem dX10_init_130 : decode cX10_init 130 = .ok (.istore_n 2, 1) := by decide +kernel
theorem dX10_init_131 : decode cX10_init 131 = .ok (.goto 21, 3) := by decide +kernel
theorem dX10_init_134 : decode cX10_init 134 = .ok (.aload_n 0, 1) := by decide +kernel
theorem dX10_init_135 : decode cX10_init 135 = .ok (.getfield 11, 3) := by decide +kernel
theorem dX10_init_138 : decode cX10_init 138 = .ok (.iload_n 1, 1) := by decide +kernel
theorem dX10_init_139 : decode cX10_init 139 = .ok (.dup2, 1) := by decide +kernel
theorem dX10_init_140 : decode cX10_init 140 = .ok (.iaload, 1) := by decide +kernel
theorem dX10_init_141 : decode cX10_init 141 = .ok (.iload 4, 2) := by decide +kernel
theorem dX10_init_143 : decode cX10_init 143 = .ok (.iload_n 2, 1) := by decide +kernel
theorem dX10_init_144 : decode cX10_init 144 = .ok (.invokestatic 63, 3) := by decide +kernel
theorem dX10_init_147 : decode cX10_init 147 = .ok (.ior, 1) := by decide +kernel
theorem dX10_init_148 : decode cX10_init 148 = .ok (.iastore, 1) := by decide +kernel
theorem dX10_init_149 : decode cX10_init 149 = .ok (.iinc 2 1, 3) := by decide +kernel
theorem dX10_init_152 : decode cX10_init 152 = .ok (.iinc 3 1, 3) := by decide +kernel
theorem dX10_init_155 : decode cX10_init 155 = .ok (.goto (-59), 3) := by decide +kernel
theorem dX10_init_158 : decode cX10_init 158 = .ok (.return_, 1) := by decide +kernel
theorem dX10_isName_0 : decode cX10_isName 0 = .ok (.iload_n 0, 1) := by decide +kernel
theorem dX10_isName_1 : decode cX10_isName 1 = .ok (.sipush 1117, 3) := by decide +kernel
theorem dX10_isName_4 : decode cX10_isName 4 = .ok (.if_icmp .lt 14, 3) := by decide +kernel
theorem dX10_isName_7 : decode cX10_isName 7 = .ok (.iload_n 0, 1) := by decide +kernel
theorem dX10_isName_8 : decode cX10_isName 8 = .ok (.sipush 1126, 3) := by decide +kernel
theorem dX10_isName_11 : decode cX10_isName 11 = .ok (.if_icmp .gt 7, 3) := by decide +kernel
theorem dX10_isName_14 : decode cX10_isName 14 = .ok (.iconst 1, 1) := by decide +kernel
theorem dX10_isName_15 : decode cX10_isName 15 = .ok (.goto 4, 3) := by decide +kernel
theorem dX10_isName_18 : decode cX10_isName 18 = .ok (.iconst 0, 1) := by decide +kernel
theorem dX10_isName_19 : decode cX10_isName 19 = .ok (.ireturn, 1) := by decide +kernel
theorem dX10_isLetter_0 : decode cX10_isLetter 0 = .ok (.iload_n 0, 1) := by decide +kernel
theorem dX10_isLetter_1 : decode cX10_isLetter 1 = .ok (.bipush 97, 2) := by decide +kernel
theorem dX10_isLetter_3 : decode cX10_isLetter 3 = .ok (.if_icmp .lt 13, 3) := by decide +kernel
theorem dX10_isLetter_6 : decode cX10_isLetter 6 = .ok (.iload_n 0, 1) := by decide +kernel
theorem dX10_isLetter_7 : decode cX10_isLetter 7 = .ok (.bipush 122, 2) := by decide +kernel
theorem dX10_isLetter_9 : decode cX10_isLetter 9 = .ok (.if_icmp .gt 7, 3) := by decide +kernel
theorem dX10_isLetter_12 : decode cX10_isLetter 12 = .ok (.iconst 1, 1) := by decide +kernel
theorem dX10_isLetter_13 : decode cX10_isLetter 13 = .ok (.goto 4, 3) := by decide +kernel
theorem dX10_isLetter_16 : decode cX10_isLetter 16 = .ok (.iconst 0, 1) := by decide +kernel
theorem dX10_isLetter_17 : decode cX10_isLetter 17 = .ok (.ireturn, 1) := by decide +kernel
theorem dX10_isDigit_0 : decode cX10_isDigit 0 = .ok (.iload_n 0, 1) := by decide +kernel
theorem dX10_isDigit_1 : decode cX10_isDigit 1 = .ok (.bipush 48, 2) := by decide +kernel
theorem dX10_isDigit_3 : decode cX10_isDigit 3 = .ok (.if_icmp .lt 13, 3) := by decide +kernel
theorem dX10_isDigit_6 : decode cX10_isDigit 6 = .ok (.iload_n 0, 1) := by decide +kernel
theorem dX10_isDigit_7 : decode cX10_isDigit 7 = .ok (.bipush 57, 2) := by decide +kernel
theorem dX10_isDigit_9 : decode cX10_isDigit 9 = .ok (.if_icmp .gt 7, 3) := by decide +kernel
theorem dX10_isDigit_12 : decode cX10_isDigit 12 = .ok (.iconst 1, 1) := by decide +kernel
theorem dX10_isDigit_13 : decode cX10_isDigit 13 = .ok (.goto 4, 3) := by decide +kernel
theorem dX10_isDigit_16 : decode cX10_isDigit 16 = .ok (.iconst 0, 1) := by decide +kernel
theorem dX10_isDigit_17 : decode cX10_isDigit 17 = .ok (.ireturn, 1) := by decide +kernel
theorem dX10_inPlace_0 : decode cX10_inPlace 0 = .ok (.iload_n 1, 1) := by decide +kernel
theorem dX10_inPlace_1 : decode cX10_inPlace 1 = .ok (.bipush 6, 2) := by decide +kernel
theorem dX10_inPlace_3 : decode cX10_inPlace 3 = .ok (.if_icmp .ge 18, 3) := by decide +kernel
theorem dX10_inPlace_6 : decode cX10_inPlace 6 = .ok (.iload_n 0, 1) := by decide +kernel
theorem dX10_inPlace_7 : decode cX10_inPlace 7 = .ok (.bipush 97, 2) := by decide +kernel
theorem dX10_inPlace_9 : decode cX10_inPlace 9 = .ok (.isub, 1) := by decide +kernel
theorem dX10_inPlace_10 : decode cX10_inPlace 10 = .ok (.iconst 1, 1) := by decide +kernel
theorem dX10_inPlace_11 : decode cX10_inPlace 11 = .ok (.iadd, 1) := by decide +kernel
theorem dX10_inPlace_12 : decode cX10_inPlace 12 = .ok (.iconst 5, 1) := by decide +kernel
theorem dX10_inPlace_13 : decode cX10_inPlace 13 = .ok (.iconst 5, 1) := by decide +kernel
theorem dX10_inPlace_14 : decode cX10_inPlace 14 = .ok (.iload_n 1, 1) := by decide +kernel
theorem dX10_inPlace_15 : decode cX10_inPlace 15 = .ok (.isub, 1) := by decide +kernel
theorem dX10_inPlace_16 : decode cX10_inPlace 16 = .ok (.imul, 1) := by decide +kernel
theorem dX10_inPlace_17 : decode cX10_inPlace 17 = .ok (.ishl, 1) := by decide +kernel
theorem dX10_inPlace_18 : decode cX10_inPlace 18 = .ok (.goto 4, 3) := by decide +kernel
theorem dX10_inPlace_21 : decode cX10_inPlace 21 = .ok (.iconst 0, 1) := by decide +kernel
theorem dX10_inPlace_22 : decode cX10_inPlace 22 = .ok (.ireturn, 1) := by decide +kernel
theorem dX10_keepBytes_0 : decode cX10_keepBytes 0 = .ok (.bipush 24, 2) := by decide +kernel
theorem dX10_keepBytes_2 : decode cX10_keepBytes 2 = .ok (.istore_n 2, 1) := by decide +kernel
theorem dX10_keepBytes_3 : decode cX10_keepBytes 3 = .ok (.iload_n 2, 1) := by decide +kernel
theorem dX10_keepBytes_4 : decode cX10_keepBytes 4 = .ok (.ifCond .lt 45, 3) := by decide +kernel
theorem dX10_keepBytes_7 : decode cX10_keepBytes 7 = .ok (.aload_n 0, 1) := by decide +kernel
theorem dX10_keepBytes_8 : decode cX10_keepBytes 8 = .ok (.getfield 18, 3) := by decide +kernel
theorem dX10_keepBytes_11 : decode cX10_keepBytes 11 = .ok (.sipush 800, 3) := by decide +kernel
theorem dX10_keepBytes_14 : decode cX10_keepBytes 14 = .ok (.if_icmp .ge 35, 3) := by decide +kernel
theorem dX10_keepBytes_17 : decode cX10_keepBytes 17 = .ok (.aload_n 0, 1) := by decide +kernel
theorem dX10_keepBytes_18 : decode cX10_keepBytes 18 = .ok (.getfield 15, 3) := by decide +kernel
theorem dX10_keepBytes_21 : decode cX10_keepBytes 21 = .ok (.aload_n 0, 1) := by decide +kernel
theorem dX10_keepBytes_22 : decode cX10_keepBytes 22 = .ok (.getfield 18, 3) := by decide +kernel
theorem dX10_keepBytes_25 : decode cX10_keepBytes 25 = .ok (.iload_n 1, 1) := by decide +kernel
theorem dX10_keepBytes_26 : decode cX10_keepBytes 26 = .ok (.iload_n 2, 1) := by decide +kernel
theorem dX10_keepBytes_27 : decode cX10_keepBytes 27 = .ok (.ishr, 1) := by decide +kernel
theorem dX10_keepBytes_28 : decode cX10_keepBytes 28 = .ok (.sipush 255, 3) := by decide +kernel
theorem dX10_keepBytes_31 : decode cX10_keepBytes 31 = .ok (.iand, 1) := by decide +kernel
theorem dX10_keepBytes_32 : decode cX10_keepBytes 32 = .ok (.iastore, 1) := by decide +kernel
theorem dX10_keepBytes_33 : decode cX10_keepBytes 33 = .ok (.aload_n 0, 1) := by decide +kernel
theorem dX10_keepBytes_34 : decode cX10_keepBytes 34 = .ok (.dup, 1) := by decide +kernel
theorem dX10_keepBytes_35 : decode cX10_keepBytes 35 = .ok (.getfield 18, 3) := by decide +kernel
theorem dX10_keepBytes_38 : decode cX10_keepBytes 38 = .ok (.iconst 1, 1) := by decide +kernel
theorem dX10_keepBytes_39 : decode cX10_keepBytes 39 = .ok (.iadd, 1) := by decide +kernel
theorem dX10_keepBytes_40 : decode cX10_keepBytes 40 = .ok (.putfield 18, 3) := by decide +kernel
theorem dX10_keepBytes_43 : decode cX10_keepBytes 43 = .ok (.iinc 2 (-8), 3) := by decide +kernel
theorem dX10_keepBytes_46 : decode cX10_keepBytes 46 = .ok (.goto (-43), 3) := by decide +kernel
theorem dX10_keepBytes_49 : decode cX10_keepBytes 49 = .ok (.return_, 1) := by decide +kernel
theorem dX10_cut_0 : decode cX10_cut 0 = .ok (.aload_n 0, 1) := by decide +kernel
theorem dX10_cut_1 : decode cX10_cut 1 = .ok (.iload_n 1, 1) := by decide +kernel
theorem dX10_cut_2 : decode cX10_cut 2 = .ok (.aload_n 0, 1) := by decide +kernel
theorem dX10_cut_3 : decode cX10_cut 3 = .ok (.getfield 18, 3) := by decide +kernel
theorem dX10_cut_6 : decode cX10_cut 6 = .ok (.invokestatic 67, 3) := by decide +kernel
theorem dX10_cut_9 : decode cX10_cut 9 = .ok (.putfield 22, 3) := by decide +kernel
theorem dX10_cut_12 : decode cX10_cut 12 = .ok (.aload_n 0, 1) := by decide +kernel
theorem dX10_cut_13 : decode cX10_cut 13 = .ok (.iconst 0, 1) := by decide +kernel
theorem dX10_cut_14 : decode cX10_cut 14 = .ok (.putfield 18, 3) := by decide +kernel
theorem dX10_cut_17 : decode cX10_cut 17 = .ok (.aload_n 0, 1) := by decide +kernel
theorem dX10_cut_18 : decode cX10_cut 18 = .ok (.iconst 0, 1) := by decide +kernel
theorem dX10_cut_19 : decode cX10_cut 19 = .ok (.putfield 25, 3) := by decide +kernel
theorem dX10_cut_22 : decode cX10_cut 22 = .ok (.aload_n 0, 1) := by decide +kernel
theorem dX10_cut_23 : decode cX10_cut 23 = .ok (.iconst 0, 1) := by decide +kernel
theorem dX10_cut_24 : decode cX10_cut 24 = .ok (.putfield 28, 3) := by decide +kernel
theorem dX10_cut_27 : decode cX10_cut 27 = .ok (.aload_n 0, 1) := by decide +kernel
theorem dX10_cut_28 : decode cX10_cut 28 = .ok (.invokevirtual 72, 3) := by decide +kernel
theorem dX10_cut_31 : decode cX10_cut 31 = .ok (.aload_n 0, 1) := by decide +kernel
theorem dX10_cut_32 : decode cX10_cut 32 = .ok (.getfield 31, 3) := by decide +kernel
theorem dX10_cut_35 : decode cX10_cut 35 = .ok (.aload_n 0, 1) := by decide +kernel
theorem dX10_cut_36 : decode cX10_cut 36 = .ok (.getfield 28, 3) := by decide +kernel
theorem dX10_cut_39 : decode cX10_cut 39 = .ok (.aload_n 0, 1) := by decide +kernel
theorem dX10_cut_40 : decode cX10_cut 40 = .ok (.getfield 43, 3) := by decide +kernel
theorem dX10_cut_43 : decode cX10_cut 43 = .ok (.iastore, 1) := by decide +kernel
theorem dX10_cut_44 : decode cX10_cut 44 = .ok (.aload_n 0, 1) := by decide +kernel
theorem dX10_cut_45 : decode cX10_cut 45 = .ok (.getfield 34, 3) := by decide +kernel
theorem dX10_cut_48 : decode cX10_cut 48 = .ok (.aload_n 0, 1) := by decide +kernel
theorem dX10_cut_49 : decode cX10_cut 49 = .ok (.getfield 28, 3) := by decide +kernel
theorem dX10_cut_52 : decode cX10_cut 52 = .ok (.aload_n 0, 1) := by decide +kernel
theorem dX10_cut_53 : decode cX10_cut 53 = .ok (.getfield 46, 3) := by decide +kernel
theorem dX10_cut_56 : decode cX10_cut 56 = .ok (.iastore, 1) := by decide +kernel
theorem dX10_cut_57 : decode cX10_cut 57 = .ok (.aload_n 0, 1) := by decide +kernel
theorem dX10_cut_58 : decode cX10_cut 58 = .ok (.getfield 37, 3) := by decide +kernel
theorem dX10_cut_61 : decode cX10_cut 61 = .ok (.aload_n 0, 1) := by decide +kernel
theorem dX10_cut_62 : decode cX10_cut 62 = .ok (.getfield 28, 3) := by decide +kernel
theorem dX10_cut_65 : decode cX10_cut 65 = .ok (.aload_n 0, 1) := by decide +kernel
theorem dX10_cut_66 : decode cX10_cut 66 = .ok (.getfield 49, 3) := by decide +kernel
theorem dX10_cut_69 : decode cX10_cut 69 = .ok (.iastore, 1) := by decide +kernel
theorem dX10_cut_70 : decode cX10_cut 70 = .ok (.aload_n 0, 1) := by decide +kernel
theorem dX10_cut_71 : decode cX10_cut 71 = .ok (.dup, 1) := by decide +kernel
theorem dX10_cut_72 : decode cX10_cut 72 = .ok (.getfield 28, 3) := by decide +kernel
theorem dX10_cut_75 : decode cX10_cut 75 = .ok (.iconst 1, 1) := by decide +kernel
theorem dX10_cut_76 : decode cX10_cut 76 = .ok (.iadd, 1) := by decide +kernel
theorem dX10_cut_77 : decode cX10_cut 77 = .ok (.putfield 28, 3) := by decide +kernel
theorem dX10_cut_80 : decode cX10_cut 80 = .ok (.aload_n 0, 1) := by decide +kernel
theorem dX10_cut_81 : decode cX10_cut 81 = .ok (.getfield 43, 3) := by decide +kernel
theorem dX10_cut_84 : decode cX10_cut 84 = .ok (.sipush 1000, 3) := by decide +kernel
theorem dX10_cut_87 : decode cX10_cut 87 = .ok (.if_icmp .eq 13, 3) := by decide +kernel
theorem dX10_cut_90 : decode cX10_cut 90 = .ok (.aload_n 0, 1) := by decide +kernel
theorem dX10_cut_91 : decode cX10_cut 91 = .ok (.getfield 28, 3) := by decide +kernel
theorem dX10_cut_94 : decode cX10_cut 94 = .ok (.sipush 800, 3) := by decide +kernel
theorem dX10_cut_97 : decode cX10_cut 97 = .ok (.if_icmp .le (-70), 3) := by decide +kernel
theorem dX10_cut_100 : decode cX10_cut 100 = .ok (.aload_n 0, 1) := by decide +kernel
theorem dX10_cut_101 : decode cX10_cut 101 = .ok (.iconst (-1), 1) := by decide +kernel
theorem dX10_cut_102 : decode cX10_cut 102 = .ok (.putfield 40, 3) := by decide +kernel
theorem dX10_cut_105 : decode cX10_cut 105 = .ok (.aload_n 0, 1) := by decide +kernel
theorem dX10_cut_106 : decode cX10_cut 106 = .ok (.invokevirtual 75, 3) := by decide +kernel
theorem dX10_cut_109 : decode cX10_cut 109 = .ok (.return_, 1) := by decide +kernel
theorem dX10_step_0 : decode cX10_step 0 = .ok (.aload_n 0, 1) := by decide +kernel
theorem dX10_step_1 : decode cX10_step 1 = .ok (.getfield 40, 3) := by decide +kernel
theorem dX10_step_4 : decode cX10_step 4 = .ok (.iconst 1, 1) := by decide +kernel
theorem dX10_step_5 : decode cX10_step 5 = .ok (.iadd, 1) := by decide +kernel
theorem dX10_step_6 : decode cX10_step 6 = .ok (.aload_n 0, 1) := by decide +kernel
theorem dX10_step_7 : decode cX10_step 7 = .ok (.getfield 28, 3) := by decide +kernel
theorem dX10_step_10 : decode cX10_step 10 = .ok (.if_icmp .ge 52, 3) := by decide +kernel
theorem dX10_step_13 : decode cX10_step 13 = .ok (.aload_n 0, 1) := by decide +kernel
theorem dX10_step_14 : decode cX10_step 14 = .ok (.dup, 1) := by decide +kernel
theorem dX10_step_15 : decode cX10_step 15 = .ok (.getfield 40, 3) := by decide +kernel
theorem dX10_step_18 : decode cX10_step 18 = .ok (.iconst 1, 1) := by decide +kernel
theorem dX10_step_19 : decode cX10_step 19 = .ok (.iadd, 1) := by decide +kernel
theorem dX10_step_20 : decode cX10_step 20 = .ok (.putfield 40, 3) := by decide +kernel
theorem dX10_step_23 : decode cX10_step 23 = .ok (.aload_n 0, 1) := by decide +kernel
theorem dX10_step_24 : decode cX10_step 24 = .ok (.aload_n 0, 1) := by decide +kernel
theorem dX10_step_25 : decode cX10_step 25 = .ok (.getfield 31, 3) := by decide +kernel
theorem dX10_step_28 : decode cX10_step 28 = .ok (.aload_n 0, 1) := by decide +kernel
theorem dX10_step_29 : decode cX10_step 29 = .ok (.getfield 40, 3) := by decide +kernel
theorem dX10_step_32 : decode cX10_step 32 = .ok (.iaload, 1) := by decide +kernel
theorem dX10_step_33 : decode cX10_step 33 = .ok (.putfield 43, 3) := by decide +kernel
theorem dX10_step_36 : decode cX10_step 36 = .ok (.aload_n 0, 1) := by decide +kernel
theorem dX10_step_37 : decode cX10_step 37 = .ok (.aload_n 0, 1) := by decide +kernel
theorem dX10_step_38 : decode cX10_step 38 = .ok (.getfield 34, 3) := by decide +kernel
theorem dX10_step_41 : decode cX10_step 41 = .ok (.aload_n 0, 1) := by decide +kernel
theorem dX10_step_42 : decode cX10_step 42 = .ok (.getfield 40, 3) := by decide +kernel
theorem dX10_step_45 : decode cX10_step 45 = .ok (.iaload, 1) := by decide +kernel
theorem dX10_step_46 : decode cX10_step 46 = .ok (.putfield 46, 3) := by decide +kernel
theorem dX10_step_49 : decode cX10_step 49 = .ok (.aload_n 0, 1) := by decide +kernel
theorem dX10_step_50 : decode cX10_step 50 = .ok (.aload_n 0, 1) := by decide +kernel
theorem dX10_step_51 : decode cX10_step 51 = .ok (.getfield 37, 3) := by decide +kernel
theorem dX10_step_54 : decode cX10_step 54 = .ok (.aload_n 0, 1) := by decide +kernel
theorem dX10_step_55 : decode cX10_step 55 = .ok (.getfield 40, 3) := by decide +kernel
theorem dX10_step_58 : decode cX10_step 58 = .ok (.iaload, 1) := by decide +kernel
theorem dX10_step_59 : decode cX10_step 59 = .ok (.putfield 49, 3) := by decide +kernel
theorem dX10_step_62 : decode cX10_step 62 = .ok (.return_, 1) := by decide +kernel
theorem dX10_cutOne_0 : decode cX10_cutOne 0 = .ok (.aload_n 0, 1) := by decide +kernel
theorem dX10_cutOne_1 : decode cX10_cutOne 1 = .ok (.getfield 25, 3) := by decide +kernel
theorem dX10_cutOne_4 : decode cX10_cutOne 4 = .ok (.aload_n 0, 1) := by decide +kernel
theorem dX10_cutOne_5 : decode cX10_cutOne 5 = .ok (.getfield 22, 3) := by decide +kernel
theorem dX10_cutOne_8 : decode cX10_cutOne 8 = .ok (.if_icmp .ge 44, 3) := by decide +kernel
theorem dX10_cutOne_11 : decode cX10_cutOne 11 = .ok (.aload_n 0, 1) := by decide +kernel
theorem dX10_cutOne_12 : decode cX10_cutOne 12 = .ok (.getfield 15, 3) := by decide +kernel
theorem dX10_cutOne_15 : decode cX10_cutOne 15 = .ok (.aload_n 0, 1) := by decide +kernel
theorem dX10_cutOne_16 : decode cX10_cutOne 16 = .ok (.getfield 25, 3) := by decide +kernel
theorem dX10_cutOne_19 : decode cX10_cutOne 19 = .ok (.iaload, 1) := by decide +kernel
theorem dX10_cutOne_20 : decode cX10_cutOne 20 = .ok (.bipush 32, 2) := by decide +kernel
theorem dX10_cutOne_22 : decode cX10_cutOne 22 = .ok (.if_icmp .eq 17, 3) := by decide +kernel
theorem dX10_cutOne_25 : decode cX10_cutOne 25 = .ok (.aload_n 0, 1) := by decide +kernel
theorem dX10_cutOne_26 : decode cX10_cutOne 26 = .ok (.getfield 15, 3) := by decide +kernel
theorem dX10_cutOne_29 : decode cX10_cutOne 29 = .ok (.aload_n 0, 1) := by decide +kernel
theorem dX10_cutOne_30 : decode cX10_cutOne 30 = .ok (.getfield 25, 3) := by decide +kernel
theorem dX10_cutOne_33 : decode cX10_cutOne 33 = .ok (.iaload, 1) := by decide +kernel
theorem dX10_cutOne_34 : decode cX10_cutOne 34 = .ok (.bipush 10, 2) := by decide +kernel
theorem dX10_cutOne_36 : decode cX10_cutOne 36 = .ok (.if_icmp .ne 16, 3) := by decide +kernel
theorem dX10_cutOne_39 : decode cX10_cutOne 39 = .ok (.aload_n 0, 1) := by decide +kernel
theorem dX10_cutOne_40 : decode cX10_cutOne 40 = .ok (.dup, 1) := by decide +kernel
theorem dX10_cutOne_41 : decode cX10_cutOne 41 = .ok (.getfield 25, 3) := by decide +kernel
theorem dX10_cutOne_44 : decode cX10_cutOne 44 = .ok (.iconst 1, 1) := by decide +kernel
theorem dX10_cutOne_45 : decode cX10_cutOne 45 = .ok (.iadd, 1) := by decide +kernel
theorem dX10_cutOne_46 : decode cX10_cutOne 46 = .ok (.putfield 25, 3) := by decide +kernel
theorem dX10_cutOne_49 : decode cX10_cutOne 49 = .ok (.goto (-49), 3) := by decide +kernel
theorem dX10_cutOne_52 : decode cX10_cutOne 52 = .ok (.aload_n 0, 1) := by decide +kernel
theorem dX10_cutOne_53 : decode cX10_cutOne 53 = .ok (.aload_n 0, 1) := by decide +kernel
theorem dX10_cutOne_54 : decode cX10_cutOne 54 = .ok (.getfield 25, 3) := by decide +kernel
theorem dX10_cutOne_57 : decode cX10_cutOne 57 = .ok (.putfield 49, 3) := by decide +kernel
theorem dX10_cutOne_60 : decode cX10_cutOne 60 = .ok (.aload_n 0, 1) := by decide +kernel
theorem dX10_cutOne_61 : decode cX10_cutOne 61 = .ok (.iconst 0, 1) := by decide +kernel
theorem dX10_cutOne_62 : decode cX10_cutOne 62 = .ok (.putfield 46, 3) := by decide +kernel
theorem dX10_cutOne_65 : decode cX10_cutOne 65 = .ok (.aload_n 0, 1) := by decide +kernel
theorem dX10_cutOne_66 : decode cX10_cutOne 66 = .ok (.getfield 25, 3) := by decide +kernel
theorem dX10_cutOne_69 : decode cX10_cutOne 69 = .ok (.aload_n 0, 1) := by decide +kernel
theorem dX10_cutOne_70 : decode cX10_cutOne 70 = .ok (.getfield 22, 3) := by decide +kernel
theorem dX10_cutOne_73 : decode cX10_cutOne 73 = .ok (.if_icmp .lt 13, 3) := by decide +kernel
theorem dX10_cutOne_76 : decode cX10_cutOne 76 = .ok (.aload_n 0, 1) := by decide +kernel
theorem dX10_cutOne_77 : decode cX10_cutOne 77 = .ok (.sipush 1000, 3) := by decide +kernel
theorem dX10_cutOne_80 : decode cX10_cutOne 80 = .ok (.putfield 43, 3) := by decide +kernel
theorem dX10_cutOne_83 : decode cX10_cutOne 83 = .ok (.goto 51, 3) := by decide +kernel
theorem dX10_cutOne_86 : decode cX10_cutOne 86 = .ok (.aload_n 0, 1) := by decide +kernel
theorem dX10_cutOne_87 : decode cX10_cutOne 87 = .ok (.getfield 15, 3) := by decide +kernel
theorem dX10_cutOne_90 : decode cX10_cutOne 90 = .ok (.aload_n 0, 1) := by decide +kernel
theorem dX10_cutOne_91 : decode cX10_cutOne 91 = .ok (.getfield 25, 3) := by decide +kernel
theorem dX10_cutOne_94 : decode cX10_cutOne 94 = .ok (.iaload, 1) := by decide +kernel
theorem dX10_cutOne_95 : decode cX10_cutOne 95 = .ok (.invokestatic 78, 3) := by decide +kernel
theorem dX10_cutOne_98 : decode cX10_cutOne 98 = .ok (.ifCond .eq 10, 3) := by decide +kernel
theorem dX10_cutOne_101 : decode cX10_cutOne 101 = .ok (.aload_n 0, 1) := by decide +kernel
theorem dX10_cutOne_102 : decode cX10_cutOne 102 = .ok (.invokevirtual 82, 3) := by decide +kernel
theorem dX10_cutOne_105 : decode cX10_cutOne 105 = .ok (.goto 29, 3) := by decide +kernel
theorem dX10_cutOne_108 : decode cX10_cutOne 108 = .ok (.aload_n 0, 1) := by decide +kernel
theorem dX10_cutOne_109 : decode cX10_cutOne 109 = .ok (.getfield 15, 3) := by decide +kernel
theorem dX10_cutOne_112 : decode cX10_cutOne 112 = .ok (.aload_n 0, 1) := by decide +kernel
theorem dX10_cutOne_113 : decode cX10_cutOne 113 = .ok (.getfield 25, 3) := by decide +kernel
theorem dX10_cutOne_116 : decode cX10_cutOne 116 = .ok (.iaload, 1) := by decide +kernel
theorem dX10_cutOne_117 : decode cX10_cutOne 117 = .ok (.invokestatic 85, 3) := by decide +kernel
theorem dX10_cutOne_120 : decode cX10_cutOne 120 = .ok (.ifCond .eq 10, 3) := by decide +kernel
theorem dX10_cutOne_123 : decode cX10_cutOne 123 = .ok (.aload_n 0, 1) := by decide +kernel
theorem dX10_cutOne_124 : decode cX10_cutOne 124 = .ok (.invokevirtual 88, 3) := by decide +kernel
theorem dX10_cutOne_127 : decode cX10_cutOne 127 = .ok (.goto 7, 3) := by decide +kernel
theorem dX10_cutOne_130 : decode cX10_cutOne 130 = .ok (.aload_n 0, 1) := by decide +kernel
theorem dX10_cutOne_131 : decode cX10_cutOne 131 = .ok (.invokevirtual 91, 3) := by decide +kernel
theorem dX10_cutOne_134 : decode cX10_cutOne 134 = .ok (.return_, 1) := by decide +kernel
theorem dX10_cutWord_0 : decode cX10_cutWord 0 = .ok (.iconst 0, 1) := by decide +kernel
theorem dX10_cutWord_1 : decode cX10_cutWord 1 = .ok (.istore_n 1, 1) := by decide +kernel
theorem dX10_cutWord_2 : decode cX10_cutWord 2 = .ok (.aload_n 0, 1) := by decide +kernel
theorem dX10_cutWord_3 : decode cX10_cutWord 3 = .ok (.getfield 25, 3) := by decide +kernel
theorem dX10_cutWord_6 : decode cX10_cutWord 6 = .ok (.aload_n 0, 1) := by decide +kernel
theorem dX10_cutWord_7 : decode cX10_cutWord 7 = .ok (.getfield 22, 3) := by decide +kernel
theorem dX10_cutWord_10 : decode cX10_cutWord 10 = .ok (.if_icmp .ge 56, 3) := by decide +kernel
theorem dX10_cutWord_13 : decode cX10_cutWord 13 = .ok (.aload_n 0, 1) := by decide +kernel
theorem dX10_cutWord_14 : decode cX10_cutWord 14 = .ok (.getfield 15, 3) := by decide +kernel
theorem dX10_cutWord_17 : decode cX10_cutWord 17 = .ok (.aload_n 0, 1) := by decide +kernel
theorem dX10_cutWord_18 : decode cX10_cutWord 18 = .ok (.getfield 25, 3) := by decide +kernel
theorem dX10_cutWord_21 : decode cX10_cutWord 21 = .ok (.iaload, 1) := by decide +kernel
theorem dX10_cutWord_22 : decode cX10_cutWord 22 = .ok (.invokestatic 78, 3) := by decide +kernel
theorem dX10_cutWord_25 : decode cX10_cutWord 25 = .ok (.ifCond .eq 41, 3) := by decide +kernel
theorem dX10_cutWord_28 : decode cX10_cutWord 28 = .ok (.aload_n 0, 1) := by decide +kernel
theorem dX10_cutWord_29 : decode cX10_cutWord 29 = .ok (.dup, 1) := by decide +kernel
theorem dX10_cutWord_30 : decode cX10_cutWord 30 = .ok (.getfield 46, 3) := by decide +kernel
theorem dX10_cutWord_33 : decode cX10_cutWord 33 = .ok (.aload_n 0, 1) := by decide +kernel
theorem dX10_cutWord_34 : decode cX10_cutWord 34 = .ok (.getfield 15, 3) := by decide +kernel
theorem dX10_cutWord_37 : decode cX10_cutWord 37 = .ok (.aload_n 0, 1) := by decide +kernel
theorem dX10_cutWord_38 : decode cX10_cutWord 38 = .ok (.getfield 25, 3) := by decide +kernel
theorem dX10_cutWord_41 : decode cX10_cutWord 41 = .ok (.iaload, 1) := by decide +kernel
theorem dX10_cutWord_42 : decode cX10_cutWord 42 = .ok (.iload_n 1, 1) := by decide +kernel
theorem dX10_cutWord_43 : decode cX10_cutWord 43 = .ok (.invokestatic 63, 3) := by decide +kernel
theorem dX10_cutWord_46 : decode cX10_cutWord 46 = .ok (.ior, 1) := by decide +kernel
theorem dX10_cutWord_47 : decode cX10_cutWord 47 = .ok (.putfield 46, 3) := by decide +kernel
theorem dX10_cutWord_50 : decode cX10_cutWord 50 = .ok (.iinc 1 1, 3) := by decide +kernel
theorem dX10_cutWord_53 : decode cX10_cutWord 53 = .ok (.aload_n 0, 1) := by decide +kernel
theorem dX10_cutWord_54 : decode cX10_cutWord 54 = .ok (.dup, 1) := by decide +kernel
theorem dX10_cutWord_55 : decode cX10_cutWord 55 = .ok (.getfield 25, 3) := by decide +kernel
theorem dX10_cutWord_58 : decode cX10_cutWord 58 = .ok (.iconst 1, 1) := by decide +kernel
theorem dX10_cutWord_59 : decode cX10_cutWord 59 = .ok (.iadd, 1) := by decide +kernel
theorem dX10_cutWord_60 : decode cX10_cutWord 60 = .ok (.putfield 25, 3) := by decide +kernel
theorem dX10_cutWord_63 : decode cX10_cutWord 63 = .ok (.goto (-61), 3) := by decide +kernel
theorem dX10_cutWord_66 : decode cX10_cutWord 66 = .ok (.aload_n 0, 1) := by decide +kernel
theorem dX10_cutWord_67 : decode cX10_cutWord 67 = .ok (.getfield 11, 3) := by decide +kernel
theorem dX10_cutWord_70 : decode cX10_cutWord 70 = .ok (.bipush 27, 2) := by decide +kernel
theorem dX10_cutWord_72 : decode cX10_cutWord 72 = .ok (.aload_n 0, 1) := by decide +kernel
theorem dX10_cutWord_73 : decode cX10_cutWord 73 = .ok (.getfield 46, 3) := by decide +kernel
theorem dX10_cutWord_76 : decode cX10_cutWord 76 = .ok (.invokestatic 94, 3) := by decide +kernel
theorem dX10_cutWord_79 : decode cX10_cutWord 79 = .ok (.istore_n 2, 1) := by decide +kernel
theorem dX10_cutWord_80 : decode cX10_cutWord 80 = .ok (.aload_n 0, 1) := by decide +kernel
theorem dX10_cutWord_81 : decode cX10_cutWord 81 = .ok (.iload_n 1, 1) := by decide +kernel
theorem dX10_cutWord_82 : decode cX10_cutWord 82 = .ok (.bipush 6, 2) := by decide +kernel
theorem dX10_cutWord_84 : decode cX10_cutWord 84 = .ok (.if_icmp .le 9, 3) := by decide +kernel
theorem dX10_cutWord_87 : decode cX10_cutWord 87 = .ok (.sipush 1001, 3) := by decide +kernel
theorem dX10_cutWord_90 : decode cX10_cutWord 90 = .ok (.goto 19, 3) := by decide +kernel
theorem dX10_cutWord_93 : decode cX10_cutWord 93 = .ok (.iload_n 2, 1) := by decide +kernel
theorem dX10_cutWord_94 : decode cX10_cutWord 94 = .ok (.iconst (-1), 1) := by decide +kernel
theorem dX10_cutWord_95 : decode cX10_cutWord 95 = .ok (.if_icmp .ne 9, 3) := by decide +kernel
theorem dX10_cutWord_98 : decode cX10_cutWord 98 = .ok (.sipush 1003, 3) := by decide +kernel
theorem dX10_cutWord_101 : decode cX10_cutWord 101 = .ok (.goto 8, 3) := by decide +kernel
theorem dX10_cutWord_104 : decode cX10_cutWord 104 = .ok (.sipush 1100, 3) := by decide +kernel
theorem dX10_cutWord_107 : decode cX10_cutWord 107 = .ok (.iload_n 2, 1) := by decide +kernel
theorem dX10_cutWord_108 : decode cX10_cutWord 108 = .ok (.iadd, 1) := by decide +kernel
theorem dX10_cutWord_109 : decode cX10_cutWord 109 = .ok (.putfield 43, 3) := by decide +kernel
theorem dX10_cutWord_112 : decode cX10_cutWord 112 = .ok (.return_, 1) := by decide +kernel
theorem dX10_cutNumber_0 : decode cX10_cutNumber 0 = .ok (.aload_n 0, 1) := by decide +kernel
theorem dX10_cutNumber_1 : decode cX10_cutNumber 1 = .ok (.getfield 25, 3) := by decide +kernel
theorem dX10_cutNumber_4 : decode cX10_cutNumber 4 = .ok (.aload_n 0, 1) := by decide +kernel
theorem dX10_cutNumber_5 : decode cX10_cutNumber 5 = .ok (.getfield 22, 3) := by decide +kernel
theorem dX10_cutNumber_8 : decode cX10_cutNumber 8 = .ok (.if_icmp .ge 61, 3) := by decide +kernel
theorem dX10_cutNumber_11 : decode cX10_cutNumber 11 = .ok (.aload_n 0, 1) := by decide +kernel
theorem dX10_cutNumber_12 : decode cX10_cutNumber 12 = .ok (.getfield 15, 3) := by decide +kernel
theorem dX10_cutNumber_15 : decode cX10_cutNumber 15 = .ok (.aload_n 0, 1) := by decide +kernel
theorem dX10_cutNumber_16 : decode cX10_cutNumber 16 = .ok (.getfield 25, 3) := by decide +kernel
theorem dX10_cutNumber_19 : decode cX10_cutNumber 19 = .ok (.iaload, 1) := by decide +kernel
theorem dX10_cutNumber_20 : decode cX10_cutNumber 20 = .ok (.invokestatic 85, 3) := by decide +kernel
theorem dX10_cutNumber_23 : decode cX10_cutNumber 23 = .ok (.ifCond .eq 46, 3) := by decide +kernel
theorem dX10_cutNumber_26 : decode cX10_cutNumber 26 = .ok (.aload_n 0, 1) := by decide +kernel
theorem dX10_cutNumber_27 : decode cX10_cutNumber 27 = .ok (.sipush 1000, 3) := by decide +kernel
theorem dX10_cutNumber_30 : decode cX10_cutNumber 30 = .ok (.aload_n 0, 1) := by decide +kernel
theorem dX10_cutNumber_31 : decode cX10_cutNumber 31 = .ok (.getfield 46, 3) := by decide +kernel
theorem dX10_cutNumber_34 : decode cX10_cutNumber 34 = .ok (.bipush 10, 2) := by decide +kernel
theorem dX10_cutNumber_36 : decode cX10_cutNumber 36 = .ok (.imul, 1) := by decide +kernel
theorem dX10_cutNumber_37 : decode cX10_cutNumber 37 = .ok (.aload_n 0, 1) := by decide +kernel
theorem dX10_cutNumber_38 : decode cX10_cutNumber 38 = .ok (.getfield 15, 3) := by decide +kernel
theorem dX10_cutNumber_41 : decode cX10_cutNumber 41 = .ok (.aload_n 0, 1) := by decide +kernel
theorem dX10_cutNumber_42 : decode cX10_cutNumber 42 = .ok (.getfield 25, 3) := by decide +kernel
theorem dX10_cutNumber_45 : decode cX10_cutNumber 45 = .ok (.iaload, 1) := by decide +kernel
theorem dX10_cutNumber_46 : decode cX10_cutNumber 46 = .ok (.iadd, 1) := by decide +kernel
theorem dX10_cutNumber_47 : decode cX10_cutNumber 47 = .ok (.bipush 48, 2) := by decide +kernel
theorem dX10_cutNumber_49 : decode cX10_cutNumber 49 = .ok (.isub, 1) := by decide +kernel
theorem dX10_cutNumber_50 : decode cX10_cutNumber 50 = .ok (.invokestatic 67, 3) := by decide +kernel
theorem dX10_cutNumber_53 : decode cX10_cutNumber 53 = .ok (.putfield 46, 3) := by decide +kernel
theorem dX10_cutNumber_56 : decode cX10_cutNumber 56 = .ok (.aload_n 0, 1) := by decide +kernel
theorem dX10_cutNumber_57 : decode cX10_cutNumber 57 = .ok (.dup, 1) := by decide +kernel
theorem dX10_cutNumber_58 : decode cX10_cutNumber 58 = .ok (.getfield 25, 3) := by decide +kernel
theorem dX10_cutNumber_61 : decode cX10_cutNumber 61 = .ok (.iconst 1, 1) := by decide +kernel
theorem dX10_cutNumber_62 : decode cX10_cutNumber 62 = .ok (.iadd, 1) := by decide +kernel
theorem dX10_cutNumber_63 : decode cX10_cutNumber 63 = .ok (.putfield 25, 3) := by decide +kernel
theorem dX10_cutNumber_66 : decode cX10_cutNumber 66 = .ok (.goto (-66), 3) := by decide +kernel
theorem dX10_cutNumber_69 : decode cX10_cutNumber 69 = .ok (.aload_n 0, 1) := by decide +kernel
theorem dX10_cutNumber_70 : decode cX10_cutNumber 70 = .ok (.sipush 1002, 3) := by decide +kernel
theorem dX10_cutNumber_73 : decode cX10_cutNumber 73 = .ok (.putfield 43, 3) := by decide +kernel
theorem dX10_cutNumber_76 : decode cX10_cutNumber 76 = .ok (.return_, 1) := by decide +kernel
theorem dX10_cutSign_0 : decode cX10_cutSign 0 = .ok (.aload_n 0, 1) := by decide +kernel
theorem dX10_cutSign_1 : decode cX10_cutSign 1 = .ok (.getfield 15, 3) := by decide +kernel
theorem dX10_cutSign_4 : decode cX10_cutSign 4 = .ok (.aload_n 0, 1) := by decide +kernel
theorem dX10_cutSign_5 : decode cX10_cutSign 5 = .ok (.getfield 25, 3) := by decide +kernel
theorem dX10_cutSign_8 : decode cX10_cutSign 8 = .ok (.iaload, 1) := by decide +kernel
theorem dX10_cutSign_9 : decode cX10_cutSign 9 = .ok (.istore_n 1, 1) := by decide +kernel
theorem dX10_cutSign_10 : decode cX10_cutSign 10 = .ok (.aload_n 0, 1) := by decide +kernel
theorem dX10_cutSign_11 : decode cX10_cutSign 11 = .ok (.dup, 1) := by decide +kernel
theorem dX10_cutSign_12 : decode cX10_cutSign 12 = .ok (.getfield 25, 3) := by decide +kernel
theorem dX10_cutSign_15 : decode cX10_cutSign 15 = .ok (.iconst 1, 1) := by decide +kernel
theorem dX10_cutSign_16 : decode cX10_cutSign 16 = .ok (.iadd, 1) := by decide +kernel
theorem dX10_cutSign_17 : decode cX10_cutSign 17 = .ok (.putfield 25, 3) := by decide +kernel
theorem dX10_cutSign_20 : decode cX10_cutSign 20 = .ok (.iload_n 1, 1) := by decide +kernel
theorem dX10_cutSign_21 : decode cX10_cutSign 21 = .ok (.tableswitch 252 40 62 #[117, 127, 157, 137, 252, 147, 252, 167, 252, 252, 252, 252, 252, 252, 252, 252, 252, 252, 252, 107, 187, 177, 227], 107) := by decide +kernel
theorem dX10_cutSign_128 : decode cX10_cutSign 128 = .ok (.aload_n 0, 1) := by decide +kernel
theorem dX10_cutSign_129 : decode cX10_cutSign 129 = .ok (.sipush 1010, 3) := by decide +kernel
theorem dX10_cutSign_132 : decode cX10_cutSign 132 = .ok (.putfield 43, 3) := by decide +kernel
theorem dX10_cutSign_135 : decode cX10_cutSign 135 = .ok (.goto 145, 3) := by decide +kernel
theorem dX10_cutSign_138 : decode cX10_cutSign 138 = .ok (.aload_n 0, 1) := by decide +kernel
theorem dX10_cutSign_139 : decode cX10_cutSign 139 = .ok (.sipush 1011, 3) := by decide +kernel
theorem dX10_cutSign_142 : decode cX10_cutSign 142 = .ok (.putfield 43, 3) := by decide +kernel
theorem dX10_cutSign_145 : decode cX10_cutSign 145 = .ok (.goto 135, 3) := by decide +kernel
theorem dX10_cutSign_148 : decode cX10_cutSign 148 = .ok (.aload_n 0, 1) := by decide +kernel
theorem dX10_cutSign_149 : decode cX10_cutSign 149 = .ok (.sipush 1012, 3) := by decide +kernel
theorem dX10_cutSign_152 : decode cX10_cutSign 152 = .ok (.putfield 43, 3) := by decide +kernel
theorem dX10_cutSign_155 : decode cX10_cutSign 155 = .ok (.goto 125, 3) := by decide +kernel
theorem dX10_cutSign_158 : decode cX10_cutSign 158 = .ok (.aload_n 0, 1) := by decide +kernel
theorem dX10_cutSign_159 : decode cX10_cutSign 159 = .ok (.sipush 1013, 3) := by decide +kernel
theorem dX10_cutSign_162 : decode cX10_cutSign 162 = .ok (.putfield 43, 3) := by decide +kernel
theorem dX10_cutSign_165 : decode cX10_cutSign 165 = .ok (.goto 115, 3) := by decide +kernel
theorem dX10_cutSign_168 : decode cX10_cutSign 168 = .ok (.aload_n 0, 1) := by decide +kernel
theorem dX10_cutSign_169 : decode cX10_cutSign 169 = .ok (.sipush 1014, 3) := by decide +kernel
theorem dX10_cutSign_172 : decode cX10_cutSign 172 = .ok (.putfield 43, 3) := by decide +kernel
theorem dX10_cutSign_175 : decode cX10_cutSign 175 = .ok (.goto 105, 3) := by decide +kernel
theorem dX10_cutSign_178 : decode cX10_cutSign 178 = .ok (.aload_n 0, 1) := by decide +kernel
theorem dX10_cutSign_179 : decode cX10_cutSign 179 = .ok (.sipush 1015, 3) := by decide +kernel
theorem dX10_cutSign_182 : decode cX10_cutSign 182 = .ok (.putfield 43, 3) := by decide +kernel
theorem dX10_cutSign_185 : decode cX10_cutSign 185 = .ok (.goto 95, 3) := by decide +kernel
theorem dX10_cutSign_188 : decode cX10_cutSign 188 = .ok (.aload_n 0, 1) := by decide +kernel
theorem dX10_cutSign_189 : decode cX10_cutSign 189 = .ok (.sipush 1016, 3) := by decide +kernel
theorem dX10_cutSign_192 : decode cX10_cutSign 192 = .ok (.putfield 43, 3) := by decide +kernel
theorem dX10_cutSign_195 : decode cX10_cutSign 195 = .ok (.goto 85, 3) := by decide +kernel
theorem dX10_cutSign_198 : decode cX10_cutSign 198 = .ok (.aload_n 0, 1) := by decide +kernel
theorem dX10_cutSign_199 : decode cX10_cutSign 199 = .ok (.sipush 1019, 3) := by decide +kernel
theorem dX10_cutSign_202 : decode cX10_cutSign 202 = .ok (.putfield 43, 3) := by decide +kernel
theorem dX10_cutSign_205 : decode cX10_cutSign 205 = .ok (.goto 75, 3) := by decide +kernel
theorem dX10_cutSign_208 : decode cX10_cutSign 208 = .ok (.aload_n 0, 1) := by decide +kernel
theorem dX10_cutSign_209 : decode cX10_cutSign 209 = .ok (.aload_n 0, 1) := by decide +kernel
theorem dX10_cutSign_210 : decode cX10_cutSign 210 = .ok (.bipush 61, 2) := by decide +kernel
theorem dX10_cutSign_212 : decode cX10_cutSign 212 = .ok (.invokevirtual 98, 3) := by decide +kernel
theorem dX10_cutSign_215 : decode cX10_cutSign 215 = .ok (.ifCond .eq 9, 3) := by decide +kernel
theorem dX10_cutSign_218 : decode cX10_cutSign 218 = .ok (.sipush 1018, 3) := by decide +kernel
theorem dX10_cutSign_221 : decode cX10_cutSign 221 = .ok (.goto 21, 3) := by decide +kernel
theorem dX10_cutSign_224 : decode cX10_cutSign 224 = .ok (.aload_n 0, 1) := by decide +kernel
theorem dX10_cutSign_225 : decode cX10_cutSign 225 = .ok (.bipush 62, 2) := by decide +kernel
theorem dX10_cutSign_227 : decode cX10_cutSign 227 = .ok (.invokevirtual 98, 3) := by decide +kernel
theorem dX10_cutSign_230 : decode cX10_cutSign 230 = .ok (.ifCond .eq 9, 3) := by decide +kernel
theorem dX10_cutSign_233 : decode cX10_cutSign 233 = .ok (.sipush 1020, 3) := by decide +kernel
theorem dX10_cutSign_236 : decode cX10_cutSign 236 = .ok (.goto 6, 3) := by decide +kernel
theorem dX10_cutSign_239 : decode cX10_cutSign 239 = .ok (.sipush 1017, 3) := by decide +kernel
theorem dX10_cutSign_242 : decode cX10_cutSign 242 = .ok (.putfield 43, 3) := by decide +kernel
theorem dX10_cutSign_245 : decode cX10_cutSign 245 = .ok (.goto 35, 3) := by decide +kernel
theorem dX10_cutSign_248 : decode cX10_cutSign 248 = .ok (.aload_n 0, 1) := by decide +kernel
theorem dX10_cutSign_249 : decode cX10_cutSign 249 = .ok (.aload_n 0, 1) := by decide +kernel
theorem dX10_cutSign_250 : decode cX10_cutSign 250 = .ok (.bipush 61, 2) := by decide +kernel
theorem dX10_cutSign_252 : decode cX10_cutSign 252 = .ok (.invokevirtual 98, 3) := by decide +kernel
theorem dX10_cutSign_255 : decode cX10_cutSign 255 = .ok (.ifCond .eq 9, 3) := by decide +kernel
theorem dX10_cutSign_258 : decode cX10_cutSign 258 = .ok (.sipush 1021, 3) := by decide +kernel
theorem dX10_cutSign_261 : decode cX10_cutSign 261 = .ok (.goto 6, 3) := by decide +kernel
theorem dX10_cutSign_264 : decode cX10_cutSign 264 = .ok (.sipush 1022, 3) := by decide +kernel
theorem dX10_cutSign_267 : decode cX10_cutSign 267 = .ok (.putfield 43, 3) := by decide +kernel
theorem dX10_cutSign_270 : decode cX10_cutSign 270 = .ok (.goto 10, 3) := by decide +kernel
theorem dX10_cutSign_273 : decode cX10_cutSign 273 = .ok (.aload_n 0, 1) := by decide +kernel
theorem dX10_cutSign_274 : decode cX10_cutSign 274 = .ok (.sipush 1001, 3) := by decide +kernel
theorem dX10_cutSign_277 : decode cX10_cutSign 277 = .ok (.putfield 43, 3) := by decide +kernel
theorem dX10_cutSign_280 : decode cX10_cutSign 280 = .ok (.return_, 1) := by decide +kernel
theorem dX10_goesOn_0 : decode cX10_goesOn 0 = .ok (.aload_n 0, 1) := by decide +kernel
theorem dX10_goesOn_1 : decode cX10_goesOn 1 = .ok (.getfield 25, 3) := by decide +kernel
theorem dX10_goesOn_4 : decode cX10_goesOn 4 = .ok (.aload_n 0, 1) := by decide +kernel
theorem dX10_goesOn_5 : decode cX10_goesOn 5 = .ok (.getfield 22, 3) := by decide +kernel
theorem dX10_goesOn_8 : decode cX10_goesOn 8 = .ok (.if_icmp .ge 16, 3) := by decide +kernel
theorem dX10_goesOn_11 : decode cX10_goesOn 11 = .ok (.aload_n 0, 1) := by decide +kernel
theorem dX10_goesOn_12 : decode cX10_goesOn 12 = .ok (.getfield 15, 3) := by decide +kernel
theorem dX10_goesOn_15 : decode cX10_goesOn 15 = .ok (.aload_n 0, 1) := by decide +kernel
theorem dX10_goesOn_16 : decode cX10_goesOn 16 = .ok (.getfield 25, 3) := by decide +kernel
theorem dX10_goesOn_19 : decode cX10_goesOn 19 = .ok (.iaload, 1) := by decide +kernel
theorem dX10_goesOn_20 : decode cX10_goesOn 20 = .ok (.iload_n 1, 1) := by decide +kernel
theorem dX10_goesOn_21 : decode cX10_goesOn 21 = .ok (.if_icmp .eq 5, 3) := by decide +kernel
theorem dX10_goesOn_24 : decode cX10_goesOn 24 = .ok (.iconst 0, 1) := by decide +kernel
theorem dX10_goesOn_25 : decode cX10_goesOn 25 = .ok (.ireturn, 1) := by decide +kernel
theorem dX10_goesOn_26 : decode cX10_goesOn 26 = .ok (.aload_n 0, 1) := by decide +kernel
theorem dX10_goesOn_27 : decode cX10_goesOn 27 = .ok (.dup, 1) := by decide +kernel
theorem dX10_goesOn_28 : decode cX10_goesOn 28 = .ok (.getfield 25, 3) := by decide +kernel
theorem dX10_goesOn_31 : decode cX10_goesOn 31 = .ok (.iconst 1, 1) := by decide +kernel
theorem dX10_goesOn_32 : decode cX10_goesOn 32 = .ok (.iadd, 1) := by decide +kernel
theorem dX10_goesOn_33 : decode cX10_goesOn 33 = .ok (.putfield 25, 3) := by decide +kernel
theorem dX10_goesOn_36 : decode cX10_goesOn 36 = .ok (.iconst 1, 1) := by decide +kernel
theorem dX10_goesOn_37 : decode cX10_goesOn 37 = .ok (.ireturn, 1) := by decide +kernel
theorem dX11_init_0 : decode cX11_init 0 = .ok (.aload_n 0, 1) := by decide +kernel
theorem dX11_init_1 : decode cX11_init 1 = .ok (.invokespecial 1, 3) := by decide +kernel
theorem dX11_init_4 : decode cX11_init 4 = .ok (.aload_n 0, 1) := by decide +kernel
theorem dX11_init_5 : decode cX11_init 5 = .ok (.new 7, 3) := by decide +kernel
theorem dX11_init_8 : decode cX11_init 8 = .ok (.dup, 1) := by decide +kernel
theorem dX11_init_9 : decode cX11_init 9 = .ok (.invokespecial 9, 3) := by decide +kernel
theorem dX11_init_12 : decode cX11_init 12 = .ok (.putfield 10, 3) := by decide +kernel
theorem dX11_init_15 : decode cX11_init 15 = .ok (.aload_n 0, 1) := by decide +kernel
theorem dX11_init_16 : decode cX11_init 16 = .ok (.new 16, 3) := by decide +kernel
theorem dX11_init_19 : decode cX11_init 19 = .ok (.dup, 1) := by decide +kernel
theorem dX11_init_20 : decode cX11_init 20 = .ok (.invokespecial 18, 3) := by decide +kernel
theorem dX11_init_23 : decode cX11_init 23 = .ok (.putfield 19, 3) := by decide +kernel
theorem dX11_init_26 : decode cX11_init 26 = .ok (.aload_n 0, 1) := by decide +kernel
theorem dX11_init_27 : decode cX11_init 27 = .ok (.bipush 9, 2) := by decide +kernel
theorem dX11_init_29 : decode cX11_init 29 = .ok (.putfield 23, 3) := by decide +kernel
theorem dX11_init_32 : decode cX11_init 32 = .ok (.aload_n 0, 1) := by decide +kernel
theorem dX11_init_33 : decode cX11_init 33 = .ok (.iconst 1, 1) := by decide +kernel
theorem dX11_init_34 : decode cX11_init 34 = .ok (.putfield 27, 3) := by decide +kernel
theorem dX11_init_37 : decode cX11_init 37 = .ok (.aload_n 0, 1) := by decide +kernel
theorem dX11_init_38 : decode cX11_init 38 = .ok (.iconst 1, 1) := by decide +kernel
theorem dX11_init_39 : decode cX11_init 39 = .ok (.putfield 30, 3) := by decide +kernel
theorem dX11_init_42 : decode cX11_init 42 = .ok (.aload_n 0, 1) := by decide +kernel
theorem dX11_init_43 : decode cX11_init 43 = .ok (.new 33, 3) := by decide +kernel
theorem dX11_init_46 : decode cX11_init 46 = .ok (.dup, 1) := by decide +kernel
theorem dX11_init_47 : decode cX11_init 47 = .ok (.invokespecial 35, 3) := by decide +kernel
theorem dX11_init_50 : decode cX11_init 50 = .ok (.putfield 36, 3) := by decide +kernel
theorem dX11_init_53 : decode cX11_init 53 = .ok (.aload_n 0, 1) := by decide +kernel
theorem dX11_init_54 : decode cX11_init 54 = .ok (.new 40, 3) := by decide +kernel
theorem dX11_init_57 : decode cX11_init 57 = .ok (.dup, 1) := by decide +kernel
theorem dX11_init_58 : decode cX11_init 58 = .ok (.invokespecial 42, 3) := by decide +kernel
theorem dX11_init_61 : decode cX11_init 61 = .ok (.putfield 43, 3) := by decide +kernel
theorem dX11_init_64 : decode cX11_init 64 = .ok (.aload_n 0, 1) := by decide +kernel
theorem dX11_init_65 : decode cX11_init 65 = .ok (.new 47, 3) := by decide +kernel
theorem dX11_init_68 : decode cX11_init 68 = .ok (.dup, 1) := by decide +kernel
theorem dX11_init_69 : decode cX11_init 69 = .ok (.invokespecial 49, 3) := by decide +kernel
theorem dX11_init_72 : decode cX11_init 72 = .ok (.putfield 50, 3) := by decide +kernel
theorem dX11_init_75 : decode cX11_init 75 = .ok (.return_, 1) := by decide +kernel
theorem dX11_feed_0 : decode cX11_feed 0 = .ok (.aload_n 0, 1) := by decide +kernel
theorem dX11_feed_1 : decode cX11_feed 1 = .ok (.getfield 10, 3) := by decide +kernel
theorem dX11_feed_4 : decode cX11_feed 4 = .ok (.getfield 54, 3) := by decide +kernel
theorem dX11_feed_7 : decode cX11_feed 7 = .ok (.astore 6, 2) := by decide +kernel
theorem dX11_feed_9 : decode cX11_feed 9 = .ok (.aload 6, 2) := by decide +kernel
theorem dX11_feed_11 : decode cX11_feed 11 = .ok (.getfield 58, 3) := by decide +kernel
theorem dX11_feed_14 : decode cX11_feed 14 = .ok (.bipush 20, 2) := by decide +kernel
theorem dX11_feed_16 : decode cX11_feed 16 = .ok (.iadd, 1) := by decide +kernel
theorem dX11_feed_17 : decode cX11_feed 17 = .ok (.sipush 800, 3) := by decide +kernel
theorem dX11_feed_20 : decode cX11_feed 20 = .ok (.if_icmp .le 5, 3) := by decide +kernel
theorem dX11_feed_23 : decode cX11_feed 23 = .ok (.iconst (-1), 1) := by decide +kernel
theorem dX11_feed_24 : decode cX11_feed 24 = .ok (.ireturn, 1) := by decide +kernel
theorem dX11_feed_25 : decode cX11_feed 25 = .ok (.aload 6, 2) := by decide +kernel
theorem dX11_feed_27 : decode cX11_feed 27 = .ok (.iload_n 1, 1) := by decide +kernel
theorem dX11_feed_28 : decode cX11_feed 28 = .ok (.invokevirtual 63, 3) := by decide +kernel
theorem dX11_feed_31 : decode cX11_feed 31 = .ok (.aload 6, 2) := by decide +kernel
theorem dX11_feed_33 : decode cX11_feed 33 = .ok (.iload_n 2, 1) := by decide +kernel
theorem dX11_feed_34 : decode cX11_feed 34 = .ok (.invokevirtual 63, 3) := by decide +kernel
theorem dX11_feed_37 : decode cX11_feed 37 = .ok (.aload 6, 2) := by decide +kernel
theorem dX11_feed_39 : decode cX11_feed 39 = .ok (.iload_n 3, 1) := by decide +kernel
theorem dX11_feed_40 : decode cX11_feed 40 = .ok (.invokevirtual 63, 3) := by decide +kernel
theorem dX11_feed_43 : decode cX11_feed 43 = .ok (.aload 6, 2) := by decide +kernel
theorem dX11_feed_45 : decode cX11_feed 45 = .ok (.iload 4, 2) := by decide +kernel
theorem dX11_feed_47 : decode cX11_feed 47 = .ok (.invokevirtual 63, 3) := by decide +kernel
theorem dX11_feed_50 : decode cX11_feed 50 = .ok (.aload 6, 2) := by decide +kernel
theorem dX11_feed_52 : decode cX11_feed 52 = .ok (.iload 5, 2) := by decide +kernel
theorem dX11_feed_54 : decode cX11_feed 54 = .ok (.invokevirtual 63, 3) := by decide +kernel
theorem dX11_feed_57 : decode cX11_feed 57 = .ok (.aload 6, 2) := by decide +kernel
theorem dX11_feed_59 : decode cX11_feed 59 = .ok (.getfield 58, 3) := by decide +kernel
theorem dX11_feed_62 : decode cX11_feed 62 = .ok (.ireturn, 1) := by decide +kernel
theorem dX11_tell_0 : decode cX11_tell 0 = .ok (.iload_n 1, 1) := by decide +kernel
theorem dX11_tell_1 : decode cX11_tell 1 = .ok (.ifCond .lt 17, 3) := by decide +kernel
theorem dX11_tell_4 : decode cX11_tell 4 = .ok (.iload_n 1, 1) := by decide +kernel
theorem dX11_tell_5 : decode cX11_tell 5 = .ok (.aload_n 0, 1) := by decide +kernel
theorem dX11_tell_6 : decode cX11_tell 6 = .ok (.getfield 10, 3) := by decide +kernel
theorem dX11_tell_9 : decode cX11_tell 9 = .ok (.getfield 54, 3) := by decide +kernel
theorem dX11_tell_12 : decode cX11_tell 12 = .ok (.getfield 58, 3) := by decide +kernel
theorem dX11_tell_15 : decode cX11_tell 15 = .ok (.if_icmp .le 6, 3) := by decide +kernel
theorem dX11_tell_18 : decode cX11_tell 18 = .ok (.bipush (-2), 2) := by decide +kernel
theorem dX11_tell_20 : decode cX11_tell 20 = .ok (.ireturn, 1) := by decide +kernel
theorem dX11_tell_21 : decode cX11_tell 21 = .ok (.aload_n 0, 1) := by decide +kernel
theorem dX11_tell_22 : decode cX11_tell 22 = .ok (.getfield 10, 3) := by decide +kernel
theorem dX11_tell_25 : decode cX11_tell 25 = .ok (.getfield 54, 3) := by decide +kernel
theorem dX11_tell_28 : decode cX11_tell 28 = .ok (.iload_n 1, 1) := by decide +kernel
theorem dX11_tell_29 : decode cX11_tell 29 = .ok (.invokevirtual 67, 3) := by decide +kernel
theorem dX11_tell_32 : decode cX11_tell 32 = .ok (.aload_n 0, 1) := by decide +kernel
theorem dX11_tell_33 : decode cX11_tell 33 = .ok (.getfield 10, 3) := by decide +kernel
theorem dX11_tell_36 : decode cX11_tell 36 = .ok (.invokevirtual 70, 3) := by decide +kernel
theorem dX11_tell_39 : decode cX11_tell 39 = .ok (.ifCond .ne 5, 3) := by decide +kernel
theorem dX11_tell_42 : decode cX11_tell 42 = .ok (.iconst (-1), 1) := by decide +kernel
theorem dX11_tell_43 : decode cX11_tell 43 = .ok (.ireturn, 1) := by decide +kernel
theorem dX11_tell_44 : decode cX11_tell 44 = .ok (.aload_n 0, 1) := by decide +kernel
theorem dX11_tell_45 : decode cX11_tell 45 = .ok (.getfield 10, 3) := by decide +kernel
theorem dX11_tell_48 : decode cX11_tell 48 = .ok (.getfield 74, 3) := by decide +kernel
theorem dX11_tell_51 : decode cX11_tell 51 = .ok (.astore_n 2, 1) := by decide +kernel
theorem dX11_tell_52 : decode cX11_tell 52 = .ok (.aload_n 0, 1) := by decide +kernel
theorem dX11_tell_53 : decode cX11_tell 53 = .ok (.getfield 10, 3) := by decide +kernel
theorem dX11_tell_56 : decode cX11_tell 56 = .ok (.aload_n 0, 1) := by decide +kernel
theorem dX11_tell_57 : decode cX11_tell 57 = .ok (.getfield 19, 3) := by decide +kernel
theorem dX11_tell_60 : decode cX11_tell 60 = .ok (.putfield 74, 3) := by decide +kernel
theorem dX11_tell_63 : decode cX11_tell 63 = .ok (.aload_n 0, 1) := by decide +kernel
theorem dX11_tell_64 : decode cX11_tell 64 = .ok (.aload_n 2, 1) := by decide +kernel
theorem dX11_tell_65 : decode cX11_tell 65 = .ok (.putfield 19, 3) := by decide +kernel
theorem dX11_tell_68 : decode cX11_tell 68 = .ok (.aload_n 0, 1) := by decide +kernel
theorem dX11_tell_69 : decode cX11_tell 69 = .ok (.getfield 19, 3) := by decide +kernel
theorem dX11_tell_72 : decode cX11_tell 72 = .ok (.getfield 77, 3) := by decide +kernel
theorem dX11_tell_75 : decode cX11_tell 75 = .ok (.ireturn, 1) := by decide +kernel
theorem dX11_fault_0 : decode cX11_fault 0 = .ok (.iload_n 1, 1) := by decide +kernel
theorem dX11_fault_1 : decode cX11_fault 1 = .ok (.lookupswitch 43 #[(0, 27), (1, 35)], 27) := by decide +kernel
theorem dX11_fault_28 : decode cX11_fault 28 = .ok (.aload_n 0, 1) := by decide +kernel
theorem dX11_fault_29 : decode cX11_fault 29 = .ok (.getfield 10, 3) := by decide +kernel
theorem dX11_fault_32 : decode cX11_fault 32 = .ok (.getfield 80, 3) := by decide +kernel
theorem dX11_fault_35 : decode cX11_fault 35 = .ok (.ireturn, 1) := by decide +kernel
theorem dX11_fault_36 : decode cX11_fault 36 = .ok (.aload_n 0, 1) := by decide +kernel
theorem dX11_fault_37 : decode cX11_fault 37 = .ok (.getfield 10, 3) := by decide +kernel
theorem dX11_fault_40 : decode cX11_fault 40 = .ok (.getfield 83, 3) := by decide +kernel
theorem dX11_fault_43 : decode cX11_fault 43 = .ok (.ireturn, 1) := by decide +kernel
theorem dX11_fault_44 : decode cX11_fault 44 = .ok (.iconst (-1), 1) := by decide +kernel
theorem dX11_fault_45 : decode cX11_fault 45 = .ok (.ireturn, 1) := by decide +kernel
theorem dX11_named_0 : decode cX11_named 0 = .ok (.iload_n 1, 1) := by decide +kernel
theorem dX11_named_1 : decode cX11_named 1 = .ok (.lookupswitch 51 #[(0, 27), (1, 39)], 27) := by decide +kernel
theorem dX11_named_28 : decode cX11_named 28 = .ok (.aload_n 0, 1) := by decide +kernel
theorem dX11_named_29 : decode cX11_named 29 = .ok (.getfield 19, 3) := by decide +kernel
theorem dX11_named_32 : decode cX11_named 32 = .ok (.getfield 86, 3) := by decide +kernel
theorem dX11_named_35 : decode cX11_named 35 = .ok (.iload_n 2, 1) := by decide +kernel
theorem dX11_named_36 : decode cX11_named 36 = .ok (.invokevirtual 90, 3) := by decide +kernel
theorem dX11_named_39 : decode cX11_named 39 = .ok (.ireturn, 1) := by decide +kernel
theorem dX11_named_40 : decode cX11_named 40 = .ok (.aload_n 0, 1) := by decide +kernel
theorem dX11_named_41 : decode cX11_named 41 = .ok (.getfield 19, 3) := by decide +kernel
theorem dX11_named_44 : decode cX11_named 44 = .ok (.getfield 96, 3) := by decide +kernel
theorem dX11_named_47 : decode cX11_named 47 = .ok (.iload_n 2, 1) := by decide +kernel
theorem dX11_named_48 : decode cX11_named 48 = .ok (.invokevirtual 100, 3) := by decide +kernel
theorem dX11_named_51 : decode cX11_named 51 = .ok (.ireturn, 1) := by decide +kernel
theorem dX11_named_52 : decode cX11_named 52 = .ok (.iconst (-1), 1) := by decide +kernel
theorem dX11_named_53 : decode cX11_named 53 = .ok (.ireturn, 1) := by decide +kernel
theorem dX11_look_0 : decode cX11_look 0 = .ok (.aload_n 0, 1) := by decide +kernel
theorem dX11_look_1 : decode cX11_look 1 = .ok (.getfield 19, 3) := by decide +kernel
theorem dX11_look_4 : decode cX11_look 4 = .ok (.getfield 86, 3) := by decide +kernel
theorem dX11_look_7 : decode cX11_look 7 = .ok (.astore_n 3, 1) := by decide +kernel
theorem dX11_look_8 : decode cX11_look 8 = .ok (.aload_n 3, 1) := by decide +kernel
theorem dX11_look_9 : decode cX11_look 9 = .ok (.iload_n 1, 1) := by decide +kernel
theorem dX11_look_10 : decode cX11_look 10 = .ok (.invokevirtual 103, 3) := by decide +kernel
theorem dX11_look_13 : decode cX11_look 13 = .ok (.ifCond .ne 13, 3) := by decide +kernel
theorem dX11_look_16 : decode cX11_look 16 = .ok (.new 107, 3) := by decide +kernel
theorem dX11_look_19 : decode cX11_look 19 = .ok (.dup, 1) := by decide +kernel
theorem dX11_look_20 : decode cX11_look 20 = .ok (.ldc 109, 2) := by decide +kernel
theorem dX11_look_22 : decode cX11_look 22 = .ok (.invokespecial 111, 3) := by decide +kernel
theorem dX11_look_25 : decode cX11_look 25 = .ok (.athrow, 1) := by decide +kernel
theorem dX11_look_26 : decode cX11_look 26 = .ok (.iload_n 2, 1) := by decide +kernel
theorem dX11_look_27 : decode cX11_look 27 = .ok (.tableswitch 57 0 3 #[29, 36, 43, 50], 29) := by decide +kernel
theorem dX11_look_56 : decode cX11_look 56 = .ok (.aload_n 3, 1) := by decide +kernel
theorem dX11_look_57 : decode cX11_look 57 = .ok (.getfield 114, 3) := by decide +kernel
theorem dX11_look_60 : decode cX11_look 60 = .ok (.iload_n 1, 1) := by decide +kernel
theorem dX11_look_61 : decode cX11_look 61 = .ok (.iaload, 1) := by decide +kernel
theorem dX11_look_62 : decode cX11_look 62 = .ok (.ireturn, 1) := by decide +kernel
theorem dX11_look_63 : decode cX11_look 63 = .ok (.aload_n 3, 1) := by decide +kernel
theorem dX11_look_64 : decode cX11_look 64 = .ok (.getfield 118, 3) := by decide +kernel
theorem dX11_look_67 : decode cX11_look 67 = .ok (.iload_n 1, 1) := by decide +kernel
theorem dX11_look_68 : decode cX11_look 68 = .ok (.iaload, 1) := by decide +kernel
theorem dX11_look_69 : decode cX11_look 69 = .ok (.ireturn, 1) := by decide +kernel
theorem dX11_look_70 : decode cX11_look 70 = .ok (.aload_n 3, 1) := by decide +kernel
theorem dX11_look_71 : decode cX11_look 71 = .ok (.getfield 121, 3) := by decide +kernel
theorem dX11_look_74 : decode cX11_look 74 = .ok (.iload_n 1, 1) := by decide +kernel
theorem dX11_look_75 : decode cX11_look 75 = .ok (.iaload, 1) := by decide +kernel
theorem dX11_look_76 : decode cX11_look 76 = .ok (.ireturn, 1) := by decide +kernel
theorem dX11_look_77 : decode cX11_look 77 = .ok (.aload_n 3, 1) := by decide +kernel
theorem dX11_look_78 : decode cX11_look 78 = .ok (.getfield 124, 3) := by decide +kernel
theorem dX11_look_81 : decode cX11_look 81 = .ok (.iload_n 1, 1) := by decide +kernel
theorem dX11_look_82 : decode cX11_look 82 = .ok (.iaload, 1) := by decide +kernel
theorem dX11_look_83 : decode cX11_look 83 = .ok (.ireturn, 1) := by decide +kernel
theorem dX11_look_84 : decode cX11_look 84 = .ok (.new 127, 3) := by decide +kernel
theorem dX11_look_87 : decode cX11_look 87 = .ok (.dup, 1) := by decide +kernel
theorem dX11_look_88 : decode cX11_look 88 = .ok (.ldc 129, 2) := by decide +kernel
theorem dX11_look_90 : decode cX11_look 90 = .ok (.invokespecial 131, 3) := by decide +kernel
theorem dX11_look_93 : decode cX11_look 93 = .ok (.athrow, 1) := by decide +kernel
theorem dX11_teller_0 : decode cX11_teller 0 = .ok (.aload_n 0, 1) := by decide +kernel
theorem dX11_teller_1 : decode cX11_teller 1 = .ok (.getfield 19, 3) := by decide +kernel
theorem dX11_teller_4 : decode cX11_teller 4 = .ok (.getfield 96, 3) := by decide +kernel
theorem dX11_teller_7 : decode cX11_teller 7 = .ok (.astore_n 3, 1) := by decide +kernel
theorem dX11_teller_8 : decode cX11_teller 8 = .ok (.aload_n 3, 1) := by decide +kernel
theorem dX11_teller_9 : decode cX11_teller 9 = .ok (.iload_n 1, 1) := by decide +kernel
theorem dX11_teller_10 : decode cX11_teller 10 = .ok (.invokevirtual 132, 3) := by decide +kernel
theorem dX11_teller_13 : decode cX11_teller 13 = .ok (.ifCond .ne 5, 3) := by decide +kernel
theorem dX11_teller_16 : decode cX11_teller 16 = .ok (.iconst (-1), 1) := by decide +kernel
theorem dX11_teller_17 : decode cX11_teller 17 = .ok (.ireturn, 1) := by decide +kernel
theorem dX11_teller_18 : decode cX11_teller 18 = .ok (.iload_n 2, 1) := by decide +kernel
theorem dX11_teller_19 : decode cX11_teller 19 = .ok (.tableswitch 57 0 3 #[29, 36, 43, 50], 29) := by decide +kernel
theorem dX11_teller_48 : decode cX11_teller 48 = .ok (.aload_n 3, 1) := by decide +kernel
theorem dX11_teller_49 : decode cX11_teller 49 = .ok (.getfield 133, 3) := by decide +kernel
theorem dX11_teller_52 : decode cX11_teller 52 = .ok (.iload_n 1, 1) := by decide +kernel
theorem dX11_teller_53 : decode cX11_teller 53 = .ok (.iaload, 1) := by decide +kernel
theorem dX11_teller_54 : decode cX11_teller 54 = .ok (.ireturn, 1) := by decide +kernel
theorem dX11_teller_55 : decode cX11_teller 55 = .ok (.aload_n 3, 1) := by decide +kernel
theorem dX11_teller_56 : decode cX11_teller 56 = .ok (.getfield 136, 3) := by decide +kernel
theorem dX11_teller_59 : decode cX11_teller 59 = .ok (.iload_n 1, 1) := by decide +kernel
theorem dX11_teller_60 : decode cX11_teller 60 = .ok (.iaload, 1) := by decide +kernel
theorem dX11_teller_61 : decode cX11_teller 61 = .ok (.ireturn, 1) := by decide +kernel
theorem dX11_teller_62 : decode cX11_teller 62 = .ok (.aload_n 3, 1) := by decide +kernel
theorem dX11_teller_63 : decode cX11_teller 63 = .ok (.getfield 139, 3) := by decide +kernel
theorem dX11_teller_66 : decode cX11_teller 66 = .ok (.iload_n 1, 1) := by decide +kernel
theorem dX11_teller_67 : decode cX11_teller 67 = .ok (.iaload, 1) := by decide +kernel
theorem dX11_teller_68 : decode cX11_teller 68 = .ok (.ireturn, 1) := by decide +kernel
theorem dX11_teller_69 : decode cX11_teller 69 = .ok (.aload_n 3, 1) := by decide +kernel
theorem dX11_teller_70 : decode cX11_teller 70 = .ok (.getfield 142, 3) := by decide +kernel
theorem dX11_teller_73 : decode cX11_teller 73 = .ok (.iload_n 1, 1) := by decide +kernel
theorem dX11_teller_74 : decode cX11_teller 74 = .ok (.iaload, 1) := by decide +kernel
theorem dX11_teller_75 : decode cX11_teller 75 = .ok (.ireturn, 1) := by decide +kernel
theorem dX11_teller_76 : decode cX11_teller 76 = .ok (.iconst (-1), 1) := by decide +kernel
theorem dX11_teller_77 : decode cX11_teller 77 = .ok (.ireturn, 1) := by decide +kernel
theorem dX11_line_0 : decode cX11_line 0 = .ok (.aload_n 0, 1) := by decide +kernel
theorem dX11_line_1 : decode cX11_line 1 = .ok (.getfield 19, 3) := by decide +kernel
theorem dX11_line_4 : decode cX11_line 4 = .ok (.iload_n 1, 1) := by decide +kernel
theorem dX11_line_5 : decode cX11_line 5 = .ok (.invokevirtual 145, 3) := by decide +kernel
theorem dX11_line_8 : decode cX11_line 8 = .ok (.ifCond .ne 6, 3) := by decide +kernel
theorem dX11_line_11 : decode cX11_line 11 = .ok (.bipush (-2), 2) := by decide +kernel
theorem dX11_line_13 : decode cX11_line 13 = .ok (.ireturn, 1) := by decide +kernel
theorem dX11_line_14 : decode cX11_line 14 = .ok (.aload_n 0, 1) := by decide +kernel
theorem dX11_line_15 : decode cX11_line 15 = .ok (.getfield 19, 3) := by decide +kernel
theorem dX11_line_18 : decode cX11_line 18 = .ok (.getfield 148, 3) := by decide +kernel
theorem dX11_line_21 : decode cX11_line 21 = .ok (.astore_n 3, 1) := by decide +kernel
theorem dX11_line_22 : decode cX11_line 22 = .ok (.iload_n 2, 1) := by decide +kernel
theorem dX11_line_23 : decode cX11_line 23 = .ok (.tableswitch 76 0 4 #[33, 48, 55, 62, 69], 33) := by decide +kernel
theorem dX11_line_56 : decode cX11_line 56 = .ok (.aload_n 3, 1) := by decide +kernel
theorem dX11_line_57 : decode cX11_line 57 = .ok (.getfield 152, 3) := by decide +kernel
theorem dX11_line_60 : decode cX11_line 60 = .ok (.iload_n 1, 1) := by decide +kernel
theorem dX11_line_61 : decode cX11_line 61 = .ok (.baload, 1) := by decide +kernel
theorem dX11_line_62 : decode cX11_line 62 = .ok (.ifCond .eq 7, 3) := by decide +kernel
theorem dX11_line_65 : decode cX11_line 65 = .ok (.iconst 1, 1) := by decide +kernel
theorem dX11_line_66 : decode cX11_line 66 = .ok (.goto 4, 3) := by decide +kernel
theorem dX11_line_69 : decode cX11_line 69 = .ok (.iconst 0, 1) := by decide +kernel
theorem dX11_line_70 : decode cX11_line 70 = .ok (.ireturn, 1) := by decide +kernel
theorem dX11_line_71 : decode cX11_line 71 = .ok (.aload_n 3, 1) := by decide +kernel
theorem dX11_line_72 : decode cX11_line 72 = .ok (.getfield 158, 3) := by decide +kernel
theorem dX11_line_75 : decode cX11_line 75 = .ok (.iload_n 1, 1) := by decide +kernel
theorem dX11_line_76 : decode cX11_line 76 = .ok (.iaload, 1) := by decide +kernel
theorem dX11_line_77 : decode cX11_line 77 = .ok (.ireturn, 1) := by decide +kernel
theorem dX11_line_78 : decode cX11_line 78 = .ok (.aload_n 3, 1) := by decide +kernel
theorem dX11_line_79 : decode cX11_line 79 = .ok (.getfield 161, 3) := by decide +kernel
theorem dX11_line_82 : decode cX11_line 82 = .ok (.iload_n 1, 1) := by decide +kernel
theorem dX11_line_83 : decode cX11_line 83 = .ok (.iaload, 1) := by decide +kernel
theorem dX11_line_84 : decode cX11_line 84 = .ok (.ireturn, 1) := by decide +kernel
theorem dX11_line_85 : decode cX11_line 85 = .ok (.aload_n 3, 1) := by decide +kernel
theorem dX11_line_86 : decode cX11_line 86 = .ok (.getfield 164, 3) := by decide +kernel
theorem dX11_line_89 : decode cX11_line 89 = .ok (.iload_n 1, 1) := by decide +kernel
theorem dX11_line_90 : decode cX11_line 90 = .ok (.iaload, 1) := by decide +kernel
theorem dX11_line_91 : decode cX11_line 91 = .ok (.ireturn, 1) := by decide +kernel
theorem dX11_line_92 : decode cX11_line 92 = .ok (.aload_n 3, 1) := by decide +kernel
theorem dX11_line_93 : decode cX11_line 93 = .ok (.getfield 167, 3) := by decide +kernel
theorem dX11_line_96 : decode cX11_line 96 = .ok (.iload_n 1, 1) := by decide +kernel
theorem dX11_line_97 : decode cX11_line 97 = .ok (.iaload, 1) := by decide +kernel
theorem dX11_line_98 : decode cX11_line 98 = .ok (.ireturn, 1) := by decide +kernel
theorem dX11_line_99 : decode cX11_line 99 = .ok (.bipush (-2), 2) := by decide +kernel
theorem dX11_line_101 : decode cX11_line 101 = .ok (.ireturn, 1) := by decide +kernel
theorem dX11_say_0 : decode cX11_say 0 = .ok (.aload_n 0, 1) := by decide +kernel
theorem dX11_say_1 : decode cX11_say 1 = .ok (.getfield 19, 3) := by decide +kernel
theorem dX11_say_4 : decode cX11_say 4 = .ok (.iload_n 1, 1) := by decide +kernel
theorem dX11_say_5 : decode cX11_say 5 = .ok (.iload_n 2, 1) := by decide +kernel
theorem dX11_say_6 : decode cX11_say 6 = .ok (.iload_n 3, 1) := by decide +kernel
theorem dX11_say_7 : decode cX11_say 7 = .ok (.iload 4, 2) := by decide +kernel
theorem dX11_say_9 : decode cX11_say 9 = .ok (.iload 5, 2) := by decide +kernel
theorem dX11_say_11 : decode cX11_say 11 = .ok (.invokevirtual 170, 3) := by decide +kernel
theorem dX11_say_14 : decode cX11_say 14 = .ok (.ifCond .ne 5, 3) := by decide +kernel
theorem dX11_say_17 : decode cX11_say 17 = .ok (.iconst (-1), 1) := by decide +kernel
theorem dX11_say_18 : decode cX11_say 18 = .ok (.ireturn, 1) := by decide +kernel
theorem dX11_say_19 : decode cX11_say 19 = .ok (.aload_n 0, 1) := by decide +kernel
theorem dX11_say_20 : decode cX11_say 20 = .ok (.getfield 19, 3) := by decide +kernel
theorem dX11_say_23 : decode cX11_say 23 = .ok (.getfield 148, 3) := by decide +kernel
theorem dX11_say_26 : decode cX11_say 26 = .ok (.iload_n 1, 1) := by decide +kernel
theorem dX11_say_27 : decode cX11_say 27 = .ok (.iload_n 2, 1) := by decide +kernel
theorem dX11_say_28 : decode cX11_say 28 = .ok (.iload_n 3, 1) := by decide +kernel
theorem dX11_say_29 : decode cX11_say 29 = .ok (.iload 4, 2) := by decide +kernel
theorem dX11_say_31 : decode cX11_say 31 = .ok (.iload 5, 2) := by decide +kernel
theorem dX11_say_33 : decode cX11_say 33 = .ok (.invokevirtual 174, 3) := by decide +kernel
theorem dX11_say_36 : decode cX11_say 36 = .ok (.aload_n 0, 1) := by decide +kernel
theorem dX11_say_37 : decode cX11_say 37 = .ok (.getfield 19, 3) := by decide +kernel
theorem dX11_say_40 : decode cX11_say 40 = .ok (.getfield 148, 3) := by decide +kernel
theorem dX11_say_43 : decode cX11_say 43 = .ok (.getfield 178, 3) := by decide +kernel
theorem dX11_say_46 : decode cX11_say 46 = .ok (.iconst 1, 1) := by decide +kernel
theorem dX11_say_47 : decode cX11_say 47 = .ok (.isub, 1) := by decide +kernel
theorem dX11_say_48 : decode cX11_say 48 = .ok (.ireturn, 1) := by decide +kernel
theorem dX11_undo_0 : decode cX11_undo 0 = .ok (.aload_n 0, 1) := by decide +kernel
theorem dX11_undo_1 : decode cX11_undo 1 = .ok (.getfield 19, 3) := by decide +kernel
theorem dX11_undo_4 : decode cX11_undo 4 = .ok (.getfield 148, 3) := by decide +kernel
theorem dX11_undo_7 : decode cX11_undo 7 = .ok (.invokevirtual 181, 3) := by decide +kernel
theorem dX11_undo_10 : decode cX11_undo 10 = .ok (.ireturn, 1) := by decide +kernel
theorem dX11_hear_0 : decode cX11_hear 0 = .ok (.iload_n 1, 1) := by decide +kernel
theorem dX11_hear_1 : decode cX11_hear 1 = .ok (.ifCond .lt 10, 3) := by decide +kernel
theorem dX11_hear_4 : decode cX11_hear 4 = .ok (.iload_n 1, 1) := by decide +kernel
theorem dX11_hear_5 : decode cX11_hear 5 = .ok (.sipush 199, 3) := by decide +kernel
theorem dX11_hear_8 : decode cX11_hear 8 = .ok (.if_icmp .le 5, 3) := by decide +kernel
theorem dX11_hear_11 : decode cX11_hear 11 = .ok (.iconst (-1), 1) := by decide +kernel
theorem dX11_hear_12 : decode cX11_hear 12 = .ok (.ireturn, 1) := by decide +kernel
theorem dX11_hear_13 : decode cX11_hear 13 = .ok (.aload_n 0, 1) := by decide +kernel
theorem dX11_hear_14 : decode cX11_hear 14 = .ok (.getfield 19, 3) := by decide +kernel
theorem dX11_hear_17 : decode cX11_hear 17 = .ok (.iload_n 1, 1) := by decide +kernel
theorem dX11_hear_18 : decode cX11_hear 18 = .ok (.putfield 185, 3) := by decide +kernel
theorem dX11_hear_21 : decode cX11_hear 21 = .ok (.aload_n 0, 1) := by decide +kernel
theorem dX11_hear_22 : decode cX11_hear 22 = .ok (.getfield 19, 3) := by decide +kernel
theorem dX11_hear_25 : decode cX11_hear 25 = .ok (.invokevirtual 188, 3) := by decide +kernel
theorem dX11_hear_28 : decode cX11_hear 28 = .ok (.ireturn, 1) := by decide +kernel
theorem dX11_word_0 : decode cX11_word 0 = .ok (.aload_n 0, 1) := by decide +kernel
theorem dX11_word_1 : decode cX11_word 1 = .ok (.getfield 19, 3) := by decide +kernel
theorem dX11_word_4 : decode cX11_word 4 = .ok (.iload_n 1, 1) := by decide +kernel
theorem dX11_word_5 : decode cX11_word 5 = .ok (.invokevirtual 191, 3) := by decide +kernel
theorem dX11_word_8 : decode cX11_word 8 = .ok (.ifCond .eq 14, 3) := by decide +kernel
theorem dX11_word_11 : decode cX11_word 11 = .ok (.aload_n 0, 1) := by decide +kernel
theorem dX11_word_12 : decode cX11_word 12 = .ok (.getfield 19, 3) := by decide +kernel
theorem dX11_word_15 : decode cX11_word 15 = .ok (.iload_n 1, 1) := by decide +kernel
theorem dX11_word_16 : decode cX11_word 16 = .ok (.invokevirtual 194, 3) := by decide +kernel
theorem dX11_word_19 : decode cX11_word 19 = .ok (.goto 4, 3) := by decide +kernel
theorem dX11_word_22 : decode cX11_word 22 = .ok (.iconst (-1), 1) := by decide +kernel
theorem dX11_word_23 : decode cX11_word 23 = .ok (.ireturn, 1) := by decide +kernel
theorem dX11_led_0 : decode cX11_led 0 = .ok (.aload_n 0, 1) := by decide +kernel
theorem dX11_led_1 : decode cX11_led 1 = .ok (.getfield 19, 3) := by decide +kernel
theorem dX11_led_4 : decode cX11_led 4 = .ok (.iload_n 1, 1) := by decide +kernel
theorem dX11_led_5 : decode cX11_led 5 = .ok (.invokevirtual 191, 3) := by decide +kernel
theorem dX11_led_8 : decode cX11_led 8 = .ok (.ifCond .eq 14, 3) := by decide +kernel
theorem dX11_led_11 : decode cX11_led 11 = .ok (.aload_n 0, 1) := by decide +kernel
theorem dX11_led_12 : decode cX11_led 12 = .ok (.getfield 19, 3) := by decide +kernel
theorem dX11_led_15 : decode cX11_led 15 = .ok (.iload_n 1, 1) := by decide +kernel
theorem dX11_led_16 : decode cX11_led 16 = .ok (.invokevirtual 197, 3) := by decide +kernel
theorem dX11_led_19 : decode cX11_led 19 = .ok (.goto 4, 3) := by decide +kernel
theorem dX11_led_22 : decode cX11_led 22 = .ok (.iconst (-1), 1) := by decide +kernel
theorem dX11_led_23 : decode cX11_led 23 = .ok (.ireturn, 1) := by decide +kernel
theorem dX11_words_0 : decode cX11_words 0 = .ok (.aload_n 0, 1) := by decide +kernel
theorem dX11_words_1 : decode cX11_words 1 = .ok (.getfield 19, 3) := by decide +kernel
theorem dX11_words_4 : decode cX11_words 4 = .ok (.getfield 96, 3) := by decide +kernel
theorem dX11_words_7 : decode cX11_words 7 = .ok (.iload_n 1, 1) := by decide +kernel
theorem dX11_words_8 : decode cX11_words 8 = .ok (.invokevirtual 132, 3) := by decide +kernel
theorem dX11_words_11 : decode cX11_words 11 = .ok (.ifCond .eq 14, 3) := by decide +kernel
theorem dX11_words_14 : decode cX11_words 14 = .ok (.iload_n 2, 1) := by decide +kernel
theorem dX11_words_15 : decode cX11_words 15 = .ok (.iconst 1, 1) := by decide +kernel
theorem dX11_words_16 : decode cX11_words 16 = .ok (.if_icmp .lt 9, 3) := by decide +kernel
theorem dX11_words_19 : decode cX11_words 19 = .ok (.iload_n 2, 1) := by decide +kernel
theorem dX11_words_20 : decode cX11_words 20 = .ok (.bipush 127, 2) := by decide +kernel
theorem dX11_words_22 : decode cX11_words 22 = .ok (.if_icmp .le 5, 3) := by decide +kernel
theorem dX11_words_25 : decode cX11_words 25 = .ok (.iconst (-1), 1) := by decide +kernel
theorem dX11_words_26 : decode cX11_words 26 = .ok (.ireturn, 1) := by decide +kernel
theorem dX11_words_27 : decode cX11_words 27 = .ok (.iconst 0, 1) := by decide +kernel
theorem dX11_words_28 : decode cX11_words 28 = .ok (.istore_n 3, 1) := by decide +kernel
theorem dX11_words_29 : decode cX11_words 29 = .ok (.iconst 0, 1) := by decide +kernel
theorem dX11_words_30 : decode cX11_words 30 = .ok (.istore 4, 2) := by decide +kernel
theorem dX11_words_32 : decode cX11_words 32 = .ok (.iload 4, 2) := by decide +kernel
theorem dX11_words_34 : decode cX11_words 34 = .ok (.aload_n 0, 1) := by decide +kernel
theorem dX11_words_35 : decode cX11_words 35 = .ok (.getfield 19, 3) := by decide +kernel
theorem dX11_words_38 : decode cX11_words 38 = .ok (.getfield 148, 3) := by decide +kernel
theorem dX11_words_41 : decode cX11_words 41 = .ok (.getfield 178, 3) := by decide +kernel
theorem dX11_words_44 : decode cX11_words 44 = .ok (.if_icmp .ge 40, 3) := by decide +kernel
theorem dX11_words_47 : decode cX11_words 47 = .ok (.aload_n 0, 1) := by decide +kernel
theorem dX11_words_48 : decode cX11_words 48 = .ok (.getfield 19, 3) := by decide +kernel
theorem dX11_words_51 : decode cX11_words 51 = .ok (.iload 4, 2) := by decide +kernel
theorem dX11_words_53 : decode cX11_words 53 = .ok (.iload_n 1, 1) := by decide +kernel
theorem dX11_words_54 : decode cX11_words 54 = .ok (.invokevirtual 200, 3) := by decide +kernel
theorem dX11_words_57 : decode cX11_words 57 = .ok (.ifCond .eq 21, 3) := by decide +kernel
theorem dX11_words_60 : decode cX11_words 60 = .ok (.aload_n 0, 1) := by decide +kernel
theorem dX11_words_61 : decode cX11_words 61 = .ok (.getfield 19, 3) := by decide +kernel
theorem dX11_words_64 : decode cX11_words 64 = .ok (.iload 4, 2) := by decide +kernel
theorem dX11_words_66 : decode cX11_words 66 = .ok (.invokevirtual 194, 3) := by decide +kernel
theorem dX11_words_69 : decode cX11_words 69 = .ok (.iload_n 2, 1) := by decide +kernel
theorem dX11_words_70 : decode cX11_words 70 = .ok (.iand, 1) := by decide +kernel
theorem dX11_words_71 : decode cX11_words 71 = .ok (.iload_n 2, 1) := by decide +kernel
theorem dX11_words_72 : decode cX11_words 72 = .ok (.if_icmp .ne 6, 3) := by decide +kernel
theorem dX11_words_75 : decode cX11_words 75 = .ok (.iinc 3 1, 3) := by decide +kernel
theorem dX11_words_78 : decode cX11_words 78 = .ok (.iinc 4 1, 3) := by decide +kernel
theorem dX11_words_81 : decode cX11_words 81 = .ok (.goto (-49), 3) := by decide +kernel
theorem dX11_words_84 : decode cX11_words 84 = .ok (.iload_n 3, 1) := by decide +kernel
theorem dX11_words_85 : decode cX11_words 85 = .ok (.ireturn, 1) := by decide +kernel
theorem dX11_truth_0 : decode cX11_truth 0 = .ok (.iload_n 1, 1) := by decide +kernel
theorem dX11_truth_1 : decode cX11_truth 1 = .ok (.iconst 1, 1) := by decide +kernel
theorem dX11_truth_2 : decode cX11_truth 2 = .ok (.if_icmp .lt 9, 3) := by decide +kernel
theorem dX11_truth_5 : decode cX11_truth 5 = .ok (.iload_n 1, 1) := by decide +kernel
theorem dX11_truth_6 : decode cX11_truth 6 = .ok (.bipush 9, 2) := by decide +kernel
theorem dX11_truth_8 : decode cX11_truth 8 = .ok (.if_icmp .le 5, 3) := by decide +kernel
theorem dX11_truth_11 : decode cX11_truth 11 = .ok (.iconst 0, 1) := by decide +kernel
theorem dX11_truth_12 : decode cX11_truth 12 = .ok (.ireturn, 1) := by decide +kernel
theorem dX11_truth_13 : decode cX11_truth 13 = .ok (.aload_n 0, 1) := by decide +kernel
theorem dX11_truth_14 : decode cX11_truth 14 = .ok (.iload_n 1, 1) := by decide +kernel
theorem dX11_truth_15 : decode cX11_truth 15 = .ok (.putfield 23, 3) := by decide +kernel
theorem dX11_truth_18 : decode cX11_truth 18 = .ok (.iconst 1, 1) := by decide +kernel
theorem dX11_truth_19 : decode cX11_truth 19 = .ok (.ireturn, 1) := by decide +kernel
theorem dX11_begin_0 : decode cX11_begin 0 = .ok (.iload_n 1, 1) := by decide +kernel
theorem dX11_begin_1 : decode cX11_begin 1 = .ok (.iconst 1, 1) := by decide +kernel
theorem dX11_begin_2 : decode cX11_begin 2 = .ok (.if_icmp .lt 20, 3) := by decide +kernel
theorem dX11_begin_5 : decode cX11_begin 5 = .ok (.iload_n 1, 1) := by decide +kernel
theorem dX11_begin_6 : decode cX11_begin 6 = .ok (.bipush 99, 2) := by decide +kernel
theorem dX11_begin_8 : decode cX11_begin 8 = .ok (.if_icmp .gt 14, 3) := by decide +kernel
theorem dX11_begin_11 : decode cX11_begin 11 = .ok (.iload_n 2, 1) := by decide +kernel
theorem dX11_begin_12 : decode cX11_begin 12 = .ok (.iconst 1, 1) := by decide +kernel
theorem dX11_begin_13 : decode cX11_begin 13 = .ok (.if_icmp .lt 9, 3) := by decide +kernel
theorem dX11_begin_16 : decode cX11_begin 16 = .ok (.iload_n 2, 1) := by decide +kernel
theorem dX11_begin_17 : decode cX11_begin 17 = .ok (.bipush 99, 2) := by decide +kernel
theorem dX11_begin_19 : decode cX11_begin 19 = .ok (.if_icmp .le 5, 3) := by decide +kernel
theorem dX11_begin_22 : decode cX11_begin 22 = .ok (.iconst 0, 1) := by decide +kernel
theorem dX11_begin_23 : decode cX11_begin 23 = .ok (.ireturn, 1) := by decide +kernel
theorem dX11_begin_24 : decode cX11_begin 24 = .ok (.aload_n 0, 1) := by decide +kernel
theorem dX11_begin_25 : decode cX11_begin 25 = .ok (.iload_n 1, 1) := by decide +kernel
theorem dX11_begin_26 : decode cX11_begin 26 = .ok (.putfield 27, 3) := by decide +kernel
theorem dX11_begin_29 : decode cX11_begin 29 = .ok (.aload_n 0, 1) := by decide +kernel
theorem dX11_begin_30 : decode cX11_begin 30 = .ok (.iload_n 2, 1) := by decide +kernel
theorem dX11_begin_31 : decode cX11_begin 31 = .ok (.putfield 30, 3) := by decide +kernel
theorem dX11_begin_34 : decode cX11_begin 34 = .ok (.iconst 1, 1) := by decide +kernel
theorem dX11_begin_35 : decode cX11_begin 35 = .ok (.ireturn, 1) := by decide +kernel
theorem dX11_odds_0 : decode cX11_odds 0 = .ok (.aload_n 0, 1) := by decide +kernel
theorem dX11_odds_1 : decode cX11_odds 1 = .ok (.getfield 19, 3) := by decide +kernel
theorem dX11_odds_4 : decode cX11_odds 4 = .ok (.getfield 96, 3) := by decide +kernel
theorem dX11_odds_7 : decode cX11_odds 7 = .ok (.iload_n 1, 1) := by decide +kernel
theorem dX11_odds_8 : decode cX11_odds 8 = .ok (.invokevirtual 132, 3) := by decide +kernel
theorem dX11_odds_11 : decode cX11_odds 11 = .ok (.ifCond .eq 21, 3) := by decide +kernel
theorem dX11_odds_14 : decode cX11_odds 14 = .ok (.iload_n 2, 1) := by decide +kernel
theorem dX11_odds_15 : decode cX11_odds 15 = .ok (.ifCond .lt 17, 3) := by decide +kernel
theorem dX11_odds_18 : decode cX11_odds 18 = .ok (.iload_n 2, 1) := by decide +kernel
theorem dX11_odds_19 : decode cX11_odds 19 = .ok (.iconst 2, 1) := by decide +kernel
theorem dX11_odds_20 : decode cX11_odds 20 = .ok (.if_icmp .gt 12, 3) := by decide +kernel
theorem dX11_odds_23 : decode cX11_odds 23 = .ok (.iload_n 3, 1) := by decide +kernel
theorem dX11_odds_24 : decode cX11_odds 24 = .ok (.ifCond .lt 8, 3) := by decide +kernel
theorem dX11_odds_27 : decode cX11_odds 27 = .ok (.iload_n 3, 1) := by decide +kernel
theorem dX11_odds_28 : decode cX11_odds 28 = .ok (.iconst 1, 1) := by decide +kernel
theorem dX11_odds_29 : decode cX11_odds 29 = .ok (.if_icmp .le 7, 3) := by decide +kernel
theorem dX11_odds_32 : decode cX11_odds 32 = .ok (.ldc2_w 204, 3) := by decide +kernel
theorem dX11_odds_35 : decode cX11_odds 35 = .ok (.lreturn, 1) := by decide +kernel
theorem dX11_odds_36 : decode cX11_odds 36 = .ok (.aload_n 0, 1) := by decide +kernel
theorem dX11_odds_37 : decode cX11_odds 37 = .ok (.getfield 36, 3) := by decide +kernel
theorem dX11_odds_40 : decode cX11_odds 40 = .ok (.aload_n 0, 1) := by decide +kernel
theorem dX11_odds_41 : decode cX11_odds 41 = .ok (.getfield 27, 3) := by decide +kernel
theorem dX11_odds_44 : decode cX11_odds 44 = .ok (.aload_n 0, 1) := by decide +kernel
theorem dX11_odds_45 : decode cX11_odds 45 = .ok (.getfield 30, 3) := by decide +kernel
theorem dX11_odds_48 : decode cX11_odds 48 = .ok (.aload_n 0, 1) := by decide +kernel
theorem dX11_odds_49 : decode cX11_odds 49 = .ok (.getfield 23, 3) := by decide +kernel
theorem dX11_odds_52 : decode cX11_odds 52 = .ok (.invokevirtual 206, 3) := by decide +kernel
theorem dX11_odds_55 : decode cX11_odds 55 = .ok (.iload_n 2, 1) := by decide +kernel
theorem dX11_odds_56 : decode cX11_odds 56 = .ok (.iconst 2, 1) := by decide +kernel
theorem dX11_odds_57 : decode cX11_odds 57 = .ok (.if_icmp .ne 18, 3) := by decide +kernel
theorem dX11_odds_60 : decode cX11_odds 60 = .ok (.aload_n 0, 1) := by decide +kernel
theorem dX11_odds_61 : decode cX11_odds 61 = .ok (.getfield 36, 3) := by decide +kernel
theorem dX11_odds_64 : decode cX11_odds 64 = .ok (.aload_n 0, 1) := by decide +kernel
theorem dX11_odds_65 : decode cX11_odds 65 = .ok (.getfield 19, 3) := by decide +kernel
theorem dX11_odds_68 : decode cX11_odds 68 = .ok (.iload_n 1, 1) := by decide +kernel
theorem dX11_odds_69 : decode cX11_odds 69 = .ok (.invokevirtual 210, 3) := by decide +kernel
theorem dX11_odds_72 : decode cX11_odds 72 = .ok (.goto 25, 3) := by decide +kernel
theorem dX11_odds_75 : decode cX11_odds 75 = .ok (.aload_n 0, 1) := by decide +kernel
theorem dX11_odds_76 : decode cX11_odds 76 = .ok (.getfield 36, 3) := by decide +kernel
theorem dX11_odds_79 : decode cX11_odds 79 = .ok (.aload_n 0, 1) := by decide +kernel
theorem dX11_odds_80 : decode cX11_odds 80 = .ok (.getfield 19, 3) := by decide +kernel
theorem dX11_odds_83 : decode cX11_odds 83 = .ok (.iload_n 1, 1) := by decide +kernel
theorem dX11_odds_84 : decode cX11_odds 84 = .ok (.iload_n 2, 1) := by decide +kernel
theorem dX11_odds_85 : decode cX11_odds 85 = .ok (.iconst 1, 1) := by decide +kernel
theorem dX11_odds_86 : decode cX11_odds 86 = .ok (.if_icmp .ne 7, 3) := by decide +kernel
theorem dX11_odds_89 : decode cX11_odds 89 = .ok (.iconst 1, 1) := by decide +kernel
theorem dX11_odds_90 : decode cX11_odds 90 = .ok (.goto 4, 3) := by decide +kernel
theorem dX11_odds_93 : decode cX11_odds 93 = .ok (.iconst 0, 1) := by decide +kernel
theorem dX11_odds_94 : decode cX11_odds 94 = .ok (.invokevirtual 214, 3) := by decide +kernel
theorem dX11_odds_97 : decode cX11_odds 97 = .ok (.iload_n 3, 1) := by decide +kernel
theorem dX11_odds_98 : decode cX11_odds 98 = .ok (.ifCond .ne 13, 3) := by decide +kernel
theorem dX11_odds_101 : decode cX11_odds 101 = .ok (.aload_n 0, 1) := by decide +kernel
theorem dX11_odds_102 : decode cX11_odds 102 = .ok (.getfield 36, 3) := by decide +kernel
theorem dX11_odds_105 : decode cX11_odds 105 = .ok (.getfield 218, 3) := by decide +kernel
theorem dX11_odds_108 : decode cX11_odds 108 = .ok (.goto 10, 3) := by decide +kernel
theorem dX11_odds_111 : decode cX11_odds 111 = .ok (.aload_n 0, 1) := by decide +kernel
theorem dX11_odds_112 : decode cX11_odds 112 = .ok (.getfield 36, 3) := by decide +kernel
theorem dX11_odds_115 : decode cX11_odds 115 = .ok (.getfield 222, 3) := by decide +kernel
theorem dX11_odds_118 : decode cX11_odds 118 = .ok (.lreturn, 1) := by decide +kernel
theorem dX11_page_0 : decode cX11_page 0 = .ok (.aload_n 0, 1) := by decide +kernel
theorem dX11_page_1 : decode cX11_page 1 = .ok (.getfield 19, 3) := by decide +kernel
theorem dX11_page_4 : decode cX11_page 4 = .ok (.getfield 225, 3) := by decide +kernel
theorem dX11_page_7 : decode cX11_page 7 = .ok (.iload_n 1, 1) := by decide +kernel
theorem dX11_page_8 : decode cX11_page 8 = .ok (.invokevirtual 229, 3) := by decide +kernel
theorem dX11_page_11 : decode cX11_page 11 = .ok (.ifCond .eq 14, 3) := by decide +kernel
theorem dX11_page_14 : decode cX11_page 14 = .ok (.aload_n 0, 1) := by decide +kernel
theorem dX11_page_15 : decode cX11_page 15 = .ok (.getfield 19, 3) := by decide +kernel
theorem dX11_page_18 : decode cX11_page 18 = .ok (.iload_n 1, 1) := by decide +kernel
theorem dX11_page_19 : decode cX11_page 19 = .ok (.invokevirtual 232, 3) := by decide +kernel
theorem dX11_page_22 : decode cX11_page 22 = .ok (.goto 4, 3) := by decide +kernel
theorem dX11_page_25 : decode cX11_page 25 = .ok (.iconst (-1), 1) := by decide +kernel
theorem dX11_page_26 : decode cX11_page 26 = .ok (.ireturn, 1) := by decide +kernel
theorem dX11_left_0 : decode cX11_left 0 = .ok (.aload_n 0, 1) := by decide +kernel
theorem dX11_left_1 : decode cX11_left 1 = .ok (.getfield 19, 3) := by decide +kernel
theorem dX11_left_4 : decode cX11_left 4 = .ok (.getfield 96, 3) := by decide +kernel
theorem dX11_left_7 : decode cX11_left 7 = .ok (.iload_n 1, 1) := by decide +kernel
theorem dX11_left_8 : decode cX11_left 8 = .ok (.invokevirtual 132, 3) := by decide +kernel
theorem dX11_left_11 : decode cX11_left 11 = .ok (.ifCond .eq 14, 3) := by decide +kernel
theorem dX11_left_14 : decode cX11_left 14 = .ok (.aload_n 0, 1) := by decide +kernel
theorem dX11_left_15 : decode cX11_left 15 = .ok (.getfield 19, 3) := by decide +kernel
theorem dX11_left_18 : decode cX11_left 18 = .ok (.iload_n 1, 1) := by decide +kernel
theorem dX11_left_19 : decode cX11_left 19 = .ok (.invokevirtual 235, 3) := by decide +kernel
theorem dX11_left_22 : decode cX11_left 22 = .ok (.goto 4, 3) := by decide +kernel
theorem dX11_left_25 : decode cX11_left 25 = .ok (.iconst (-1), 1) := by decide +kernel
theorem dX11_left_26 : decode cX11_left 26 = .ok (.ireturn, 1) := by decide +kernel
theorem dX11_moved_0 : decode cX11_moved 0 = .ok (.aload_n 0, 1) := by decide +kernel
theorem dX11_moved_1 : decode cX11_moved 1 = .ok (.getfield 19, 3) := by decide +kernel
theorem dX11_moved_4 : decode cX11_moved 4 = .ok (.getfield 96, 3) := by decide +kernel
theorem dX11_moved_7 : decode cX11_moved 7 = .ok (.iload_n 1, 1) := by decide +kernel
theorem dX11_moved_8 : decode cX11_moved 8 = .ok (.invokevirtual 132, 3) := by decide +kernel
theorem dX11_moved_11 : decode cX11_moved 11 = .ok (.ifCond .eq 21, 3) := by decide +kernel
theorem dX11_moved_14 : decode cX11_moved 14 = .ok (.aload_n 0, 1) := by decide +kernel
theorem dX11_moved_15 : decode cX11_moved 15 = .ok (.getfield 19, 3) := by decide +kernel
theorem dX11_moved_18 : decode cX11_moved 18 = .ok (.getfield 225, 3) := by decide +kernel
theorem dX11_moved_21 : decode cX11_moved 21 = .ok (.aload_n 0, 1) := by decide +kernel
theorem dX11_moved_22 : decode cX11_moved 22 = .ok (.getfield 19, 3) := by decide +kernel
theorem dX11_moved_25 : decode cX11_moved 25 = .ok (.iload_n 1, 1) := by decide +kernel
theorem dX11_moved_26 : decode cX11_moved 26 = .ok (.invokevirtual 238, 3) := by decide +kernel
theorem dX11_moved_29 : decode cX11_moved 29 = .ok (.goto 4, 3) := by decide +kernel
theorem dX11_moved_32 : decode cX11_moved 32 = .ok (.iconst (-1), 1) := by decide +kernel
theorem dX11_moved_33 : decode cX11_moved 33 = .ok (.ireturn, 1) := by decide +kernel
theorem dX11_story_0 : decode cX11_story 0 = .ok (.aload_n 0, 1) := by decide +kernel
theorem dX11_story_1 : decode cX11_story 1 = .ok (.getfield 19, 3) := by decide +kernel
theorem dX11_story_4 : decode cX11_story 4 = .ok (.getfield 96, 3) := by decide +kernel
theorem dX11_story_7 : decode cX11_story 7 = .ok (.iload_n 1, 1) := by decide +kernel
theorem dX11_story_8 : decode cX11_story 8 = .ok (.invokevirtual 132, 3) := by decide +kernel
theorem dX11_story_11 : decode cX11_story 11 = .ok (.ifCond .eq 17, 3) := by decide +kernel
theorem dX11_story_14 : decode cX11_story 14 = .ok (.aload_n 0, 1) := by decide +kernel
theorem dX11_story_15 : decode cX11_story 15 = .ok (.getfield 19, 3) := by decide +kernel
theorem dX11_story_18 : decode cX11_story 18 = .ok (.getfield 86, 3) := by decide +kernel
theorem dX11_story_21 : decode cX11_story 21 = .ok (.iload_n 2, 1) := by decide +kernel
theorem dX11_story_22 : decode cX11_story 22 = .ok (.invokevirtual 103, 3) := by decide +kernel
theorem dX11_story_25 : decode cX11_story 25 = .ok (.ifCond .ne 6, 3) := by decide +kernel
theorem dX11_story_28 : decode cX11_story 28 = .ok (.bipush (-2), 2) := by decide +kernel
theorem dX11_story_30 : decode cX11_story 30 = .ok (.ireturn, 1) := by decide +kernel
theorem dX11_story_31 : decode cX11_story 31 = .ok (.aload_n 0, 1) := by decide +kernel
theorem dX11_story_32 : decode cX11_story 32 = .ok (.getfield 19, 3) := by decide +kernel
theorem dX11_story_35 : decode cX11_story 35 = .ok (.iload_n 1, 1) := by decide +kernel
theorem dX11_story_36 : decode cX11_story 36 = .ok (.iload_n 2, 1) := by decide +kernel
theorem dX11_story_37 : decode cX11_story 37 = .ok (.invokevirtual 242, 3) := by decide +kernel
theorem dX11_story_40 : decode cX11_story 40 = .ok (.ireturn, 1) := by decide +kernel
theorem dX11_clash_0 : decode cX11_clash 0 = .ok (.aload_n 0, 1) := by decide +kernel
theorem dX11_clash_1 : decode cX11_clash 1 = .ok (.getfield 19, 3) := by decide +kernel
theorem dX11_clash_4 : decode cX11_clash 4 = .ok (.getfield 96, 3) := by decide +kernel
theorem dX11_clash_7 : decode cX11_clash 7 = .ok (.iload_n 1, 1) := by decide +kernel
theorem dX11_clash_8 : decode cX11_clash 8 = .ok (.invokevirtual 132, 3) := by decide +kernel
theorem dX11_clash_11 : decode cX11_clash 11 = .ok (.ifCond .eq 22, 3) := by decide +kernel
theorem dX11_clash_14 : decode cX11_clash 14 = .ok (.aload_n 0, 1) := by decide +kernel
theorem dX11_clash_15 : decode cX11_clash 15 = .ok (.getfield 19, 3) := by decide +kernel
theorem dX11_clash_18 : decode cX11_clash 18 = .ok (.getfield 96, 3) := by decide +kernel
theorem dX11_clash_21 : decode cX11_clash 21 = .ok (.iload_n 2, 1) := by decide +kernel
theorem dX11_clash_22 : decode cX11_clash 22 = .ok (.invokevirtual 132, 3) := by decide +kernel
theorem dX11_clash_25 : decode cX11_clash 25 = .ok (.ifCond .eq 8, 3) := by decide +kernel
theorem dX11_clash_28 : decode cX11_clash 28 = .ok (.iload_n 1, 1) := by decide +kernel
theorem dX11_clash_29 : decode cX11_clash 29 = .ok (.iload_n 2, 1) := by decide +kernel
theorem dX11_clash_30 : decode cX11_clash 30 = .ok (.if_icmp .ne 5, 3) := by decide +kernel
theorem dX11_clash_33 : decode cX11_clash 33 = .ok (.iconst (-1), 1) := by decide +kernel
theorem dX11_clash_34 : decode cX11_clash 34 = .ok (.ireturn, 1) := by decide +kernel
theorem dX11_clash_35 : decode cX11_clash 35 = .ok (.aload_n 0, 1) := by decide +kernel
theorem dX11_clash_36 : decode cX11_clash 36 = .ok (.getfield 19, 3) := by decide +kernel
theorem dX11_clash_39 : decode cX11_clash 39 = .ok (.iload_n 1, 1) := by decide +kernel
theorem dX11_clash_40 : decode cX11_clash 40 = .ok (.iload_n 2, 1) := by decide +kernel
theorem dX11_clash_41 : decode cX11_clash 41 = .ok (.invokevirtual 246, 3) := by decide +kernel
theorem dX11_clash_44 : decode cX11_clash 44 = .ok (.ireturn, 1) := by decide +kernel
theorem dX11_together_0 : decode cX11_together 0 = .ok (.aload_n 0, 1) := by decide +kernel
theorem dX11_together_1 : decode cX11_together 1 = .ok (.getfield 19, 3) := by decide +kernel
theorem dX11_together_4 : decode cX11_together 4 = .ok (.invokevirtual 249, 3) := by decide +kernel
theorem dX11_together_7 : decode cX11_together 7 = .ok (.iconst 0, 1) := by decide +kernel
theorem dX11_together_8 : decode cX11_together 8 = .ok (.istore_n 1, 1) := by decide +kernel
theorem dX11_together_9 : decode cX11_together 9 = .ok (.iconst 1, 1) := by decide +kernel
theorem dX11_together_10 : decode cX11_together 10 = .ok (.aload_n 0, 1) := by decide +kernel
theorem dX11_together_11 : decode cX11_together 11 = .ok (.getfield 19, 3) := by decide +kernel
theorem dX11_together_14 : decode cX11_together 14 = .ok (.getfield 96, 3) := by decide +kernel
theorem dX11_together_17 : decode cX11_together 17 = .ok (.getfield 252, 3) := by decide +kernel
theorem dX11_together_20 : decode cX11_together 20 = .ok (.ishl, 1) := by decide +kernel
theorem dX11_together_21 : decode cX11_together 21 = .ok (.istore_n 2, 1) := by decide +kernel
theorem dX11_together_22 : decode cX11_together 22 = .ok (.iconst 1, 1) := by decide +kernel
theorem dX11_together_23 : decode cX11_together 23 = .ok (.istore_n 3, 1) := by decide +kernel
theorem dX11_together_24 : decode cX11_together 24 = .ok (.iload_n 3, 1) := by decide +kernel
theorem dX11_together_25 : decode cX11_together 25 = .ok (.iload_n 2, 1) := by decide +kernel
theorem dX11_together_26 : decode cX11_together 26 = .ok (.if_icmp .ge 33, 3) := by decide +kernel
theorem dX11_together_29 : decode cX11_together 29 = .ok (.iload_n 3, 1) := by decide +kernel
theorem dX11_together_30 : decode cX11_together 30 = .ok (.invokestatic 253, 3) := by decide +kernel
theorem dX11_together_33 : decode cX11_together 33 = .ok (.iload_n 1, 1) := by decide +kernel
theorem dX11_together_34 : decode cX11_together 34 = .ok (.invokestatic 253, 3) := by decide +kernel
theorem dX11_together_37 : decode cX11_together 37 = .ok (.if_icmp .le 16, 3) := by decide +kernel
theorem dX11_together_40 : decode cX11_together 40 = .ok (.aload_n 0, 1) := by decide +kernel
theorem dX11_together_41 : decode cX11_together 41 = .ok (.getfield 19, 3) := by decide +kernel
theorem dX11_together_44 : decode cX11_together 44 = .ok (.iload_n 3, 1) := by decide +kernel
theorem dX11_together_45 : decode cX11_together 45 = .ok (.invokevirtual 258, 3) := by decide +kernel
theorem dX11_together_48 : decode cX11_together 48 = .ok (.ifCond .eq 5, 3) := by decide +kernel
theorem dX11_together_51 : decode cX11_together 51 = .ok (.iload_n 3, 1) := by decide +kernel
theorem dX11_together_52 : decode cX11_together 52 = .ok (.istore_n 1, 1) := by decide +kernel
theorem dX11_together_53 : decode cX11_together 53 = .ok (.iinc 3 1, 3) := by decide +kernel
theorem dX11_together_56 : decode cX11_together 56 = .ok (.goto (-32), 3) := by decide +kernel
theorem dX11_together_59 : decode cX11_together 59 = .ok (.iload_n 1, 1) := by decide +kernel
theorem dX11_together_60 : decode cX11_together 60 = .ok (.ireturn, 1) := by decide +kernel
theorem dX11_lies_0 : decode cX11_lies 0 = .ok (.aload_n 0, 1) := by decide +kernel
theorem dX11_lies_1 : decode cX11_lies 1 = .ok (.getfield 19, 3) := by decide +kernel
theorem dX11_lies_4 : decode cX11_lies 4 = .ok (.getfield 96, 3) := by decide +kernel
theorem dX11_lies_7 : decode cX11_lies 7 = .ok (.iload_n 1, 1) := by decide +kernel
theorem dX11_lies_8 : decode cX11_lies 8 = .ok (.invokevirtual 261, 3) := by decide +kernel
theorem dX11_lies_11 : decode cX11_lies 11 = .ok (.ifCond .ne 5, 3) := by decide +kernel
theorem dX11_lies_14 : decode cX11_lies 14 = .ok (.iconst (-1), 1) := by decide +kernel
theorem dX11_lies_15 : decode cX11_lies 15 = .ok (.ireturn, 1) := by decide +kernel
theorem dX11_lies_16 : decode cX11_lies 16 = .ok (.iconst 0, 1) := by decide +kernel
theorem dX11_lies_17 : decode cX11_lies 17 = .ok (.istore_n 2, 1) := by decide +kernel
theorem dX11_lies_18 : decode cX11_lies 18 = .ok (.iconst 0, 1) := by decide +kernel
theorem dX11_lies_19 : decode cX11_lies 19 = .ok (.istore_n 3, 1) := by decide +kernel
theorem dX11_lies_20 : decode cX11_lies 20 = .ok (.iload_n 3, 1) := by decide +kernel
theorem dX11_lies_21 : decode cX11_lies 21 = .ok (.aload_n 0, 1) := by decide +kernel
theorem dX11_lies_22 : decode cX11_lies 22 = .ok (.getfield 19, 3) := by decide +kernel
theorem dX11_lies_25 : decode cX11_lies 25 = .ok (.getfield 86, 3) := by decide +kernel
theorem dX11_lies_28 : decode cX11_lies 28 = .ok (.getfield 264, 3) := by decide +kernel
theorem dX11_lies_31 : decode cX11_lies 31 = .ok (.if_icmp .ge 21, 3) := by decide +kernel
theorem dX11_lies_34 : decode cX11_lies 34 = .ok (.iload_n 2, 1) := by decide +kernel
theorem dX11_lies_35 : decode cX11_lies 35 = .ok (.aload_n 0, 1) := by decide +kernel
theorem dX11_lies_36 : decode cX11_lies 36 = .ok (.getfield 19, 3) := by decide +kernel
theorem dX11_lies_39 : decode cX11_lies 39 = .ok (.iload_n 1, 1) := by decide +kernel
theorem dX11_lies_40 : decode cX11_lies 40 = .ok (.iload_n 3, 1) := by decide +kernel
theorem dX11_lies_41 : decode cX11_lies 41 = .ok (.invokevirtual 265, 3) := by decide +kernel
theorem dX11_lies_44 : decode cX11_lies 44 = .ok (.iadd, 1) := by decide +kernel
theorem dX11_lies_45 : decode cX11_lies 45 = .ok (.istore_n 2, 1) := by decide +kernel
theorem dX11_lies_46 : decode cX11_lies 46 = .ok (.iinc 3 1, 3) := by decide +kernel
theorem dX11_lies_49 : decode cX11_lies 49 = .ok (.goto (-29), 3) := by decide +kernel
theorem dX11_lies_52 : decode cX11_lies 52 = .ok (.iload_n 2, 1) := by decide +kernel
theorem dX11_lies_53 : decode cX11_lies 53 = .ok (.ireturn, 1) := by decide +kernel
theorem dX11_supposed_0 : decode cX11_supposed 0 = .ok (.aload_n 0, 1) := by decide +kernel
theorem dX11_supposed_1 : decode cX11_supposed 1 = .ok (.getfield 19, 3) := by decide +kernel
theorem dX11_supposed_4 : decode cX11_supposed 4 = .ok (.getfield 96, 3) := by decide +kernel
theorem dX11_supposed_7 : decode cX11_supposed 7 = .ok (.iload_n 1, 1) := by decide +kernel
theorem dX11_supposed_8 : decode cX11_supposed 8 = .ok (.invokevirtual 132, 3) := by decide +kernel
theorem dX11_supposed_11 : decode cX11_supposed 11 = .ok (.ifCond .ne 5, 3) := by decide +kernel
theorem dX11_supposed_14 : decode cX11_supposed 14 = .ok (.iconst (-1), 1) := by decide +kernel
theorem dX11_supposed_15 : decode cX11_supposed 15 = .ok (.ireturn, 1) := by decide +kernel
theorem dX11_supposed_16 : decode cX11_supposed 16 = .ok (.iconst 0, 1) := by decide +kernel
theorem dX11_supposed_17 : decode cX11_supposed 17 = .ok (.istore_n 2, 1) := by decide +kernel
theorem dX11_supposed_18 : decode cX11_supposed 18 = .ok (.iconst 0, 1) := by decide +kernel
theorem dX11_supposed_19 : decode cX11_supposed 19 = .ok (.istore_n 3, 1) := by decide +kernel
theorem dX11_supposed_20 : decode cX11_supposed 20 = .ok (.iload_n 3, 1) := by decide +kernel
theorem dX11_supposed_21 : decode cX11_supposed 21 = .ok (.aload_n 0, 1) := by decide +kernel
theorem dX11_supposed_22 : decode cX11_supposed 22 = .ok (.getfield 19, 3) := by decide +kernel
theorem dX11_supposed_25 : decode cX11_supposed 25 = .ok (.getfield 148, 3) := by decide +kernel
theorem dX11_supposed_28 : decode cX11_supposed 28 = .ok (.getfield 178, 3) := by decide +kernel
theorem dX11_supposed_31 : decode cX11_supposed 31 = .ok (.if_icmp .ge 49, 3) := by decide +kernel
theorem dX11_supposed_34 : decode cX11_supposed 34 = .ok (.aload_n 0, 1) := by decide +kernel
theorem dX11_supposed_35 : decode cX11_supposed 35 = .ok (.getfield 19, 3) := by decide +kernel
theorem dX11_supposed_38 : decode cX11_supposed 38 = .ok (.iload_n 3, 1) := by decide +kernel
theorem dX11_supposed_39 : decode cX11_supposed 39 = .ok (.iload_n 1, 1) := by decide +kernel
theorem dX11_supposed_40 : decode cX11_supposed 40 = .ok (.invokevirtual 200, 3) := by decide +kernel
theorem dX11_supposed_43 : decode cX11_supposed 43 = .ok (.ifCond .eq 31, 3) := by decide +kernel
theorem dX11_supposed_46 : decode cX11_supposed 46 = .ok (.aload_n 0, 1) := by decide +kernel
theorem dX11_supposed_47 : decode cX11_supposed 47 = .ok (.getfield 19, 3) := by decide +kernel
theorem dX11_supposed_50 : decode cX11_supposed 50 = .ok (.iload_n 3, 1) := by decide +kernel
theorem dX11_supposed_51 : decode cX11_supposed 51 = .ok (.invokevirtual 268, 3) := by decide +kernel
theorem dX11_supposed_54 : decode cX11_supposed 54 = .ok (.ifCond .eq 20, 3) := by decide +kernel
theorem dX11_supposed_57 : decode cX11_supposed 57 = .ok (.iload_n 2, 1) := by decide +kernel
theorem dX11_supposed_58 : decode cX11_supposed 58 = .ok (.iconst 1, 1) := by decide +kernel
theorem dX11_supposed_59 : decode cX11_supposed 59 = .ok (.aload_n 0, 1) := by decide +kernel
theorem dX11_supposed_60 : decode cX11_supposed 60 = .ok (.getfield 19, 3) := by decide +kernel
theorem dX11_supposed_63 : decode cX11_supposed 63 = .ok (.getfield 148, 3) := by decide +kernel
theorem dX11_supposed_66 : decode cX11_supposed 66 = .ok (.getfield 164, 3) := by decide +kernel
theorem dX11_supposed_69 : decode cX11_supposed 69 = .ok (.iload_n 3, 1) := by decide +kernel
theorem dX11_supposed_70 : decode cX11_supposed 70 = .ok (.iaload, 1) := by decide +kernel
theorem dX11_supposed_71 : decode cX11_supposed 71 = .ok (.ishl, 1) := by decide +kernel
theorem dX11_supposed_72 : decode cX11_supposed 72 = .ok (.ior, 1) := by decide +kernel
theorem dX11_supposed_73 : decode cX11_supposed 73 = .ok (.istore_n 2, 1) := by decide +kernel
theorem dX11_supposed_74 : decode cX11_supposed 74 = .ok (.iinc 3 1, 3) := by decide +kernel
theorem dX11_supposed_77 : decode cX11_supposed 77 = .ok (.goto (-57), 3) := by decide +kernel
theorem dX11_supposed_80 : decode cX11_supposed 80 = .ok (.iload_n 2, 1) := by decide +kernel
theorem dX11_supposed_81 : decode cX11_supposed 81 = .ok (.ireturn, 1) := by decide +kernel
theorem dX11_law_0 : decode cX11_law 0 = .ok (.aload_n 0, 1) := by decide +kernel
theorem dX11_law_1 : decode cX11_law 1 = .ok (.getfield 19, 3) := by decide +kernel
theorem dX11_law_4 : decode cX11_law 4 = .ok (.iload_n 1, 1) := by decide +kernel
theorem dX11_law_5 : decode cX11_law 5 = .ok (.invokevirtual 191, 3) := by decide +kernel
theorem dX11_law_8 : decode cX11_law 8 = .ok (.ifCond .eq 18, 3) := by decide +kernel
theorem dX11_law_11 : decode cX11_law 11 = .ok (.aload_n 0, 1) := by decide +kernel
theorem dX11_law_12 : decode cX11_law 12 = .ok (.getfield 43, 3) := by decide +kernel
theorem dX11_law_15 : decode cX11_law 15 = .ok (.aload_n 0, 1) := by decide +kernel
theorem dX11_law_16 : decode cX11_law 16 = .ok (.getfield 19, 3) := by decide +kernel
theorem dX11_law_19 : decode cX11_law 19 = .ok (.iload_n 1, 1) := by decide +kernel
theorem dX11_law_20 : decode cX11_law 20 = .ok (.invokevirtual 271, 3) := by decide +kernel
theorem dX11_law_23 : decode cX11_law 23 = .ok (.goto 4, 3) := by decide +kernel
theorem dX11_law_26 : decode cX11_law 26 = .ok (.iconst (-1), 1) := by decide +kernel
theorem dX11_law_27 : decode cX11_law 27 = .ok (.ireturn, 1) := by decide +kernel
theorem dX11_draws_0 : decode cX11_draws 0 = .ok (.aload_n 0, 1) := by decide +kernel
theorem dX11_draws_1 : decode cX11_draws 1 = .ok (.getfield 19, 3) := by decide +kernel
theorem dX11_draws_4 : decode cX11_draws 4 = .ok (.getfield 96, 3) := by decide +kernel
theorem dX11_draws_7 : decode cX11_draws 7 = .ok (.iload_n 1, 1) := by decide +kernel
theorem dX11_draws_8 : decode cX11_draws 8 = .ok (.invokevirtual 132, 3) := by decide +kernel
theorem dX11_draws_11 : decode cX11_draws 11 = .ok (.ifCond .eq 18, 3) := by decide +kernel
theorem dX11_draws_14 : decode cX11_draws 14 = .ok (.iload_n 2, 1) := by decide +kernel
theorem dX11_draws_15 : decode cX11_draws 15 = .ok (.ifCond .lt 14, 3) := by decide +kernel
theorem dX11_draws_18 : decode cX11_draws 18 = .ok (.iload_n 3, 1) := by decide +kernel
theorem dX11_draws_19 : decode cX11_draws 19 = .ok (.iconst 1, 1) := by decide +kernel
theorem dX11_draws_20 : decode cX11_draws 20 = .ok (.if_icmp .lt 9, 3) := by decide +kernel
theorem dX11_draws_23 : decode cX11_draws 23 = .ok (.iload_n 3, 1) := by decide +kernel
theorem dX11_draws_24 : decode cX11_draws 24 = .ok (.bipush 99, 2) := by decide +kernel
theorem dX11_draws_26 : decode cX11_draws 26 = .ok (.if_icmp .le 5, 3) := by decide +kernel
theorem dX11_draws_29 : decode cX11_draws 29 = .ok (.iconst (-1), 1) := by decide +kernel
theorem dX11_draws_30 : decode cX11_draws 30 = .ok (.ireturn, 1) := by decide +kernel
