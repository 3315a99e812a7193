theorem dX0_init_0 : decode cX0_init 0 = .ok (.aload_n 0, 1) := by decide +kernel
theorem dX0_init_1 : decode cX0_init 1 = .ok (.invokespecial 3, 3) := by decide +kernel
theorem dX0_init_4 : decode cX0_init 4 = .ok (.aload_n 0, 1) := by decide +kernel
theorem dX0_init_5 : decode cX0_init 5 = .ok (.new 9, 3) := by decide +kernel
theorem dX0_init_8 : decode cX0_init 8 = .ok (.dup, 1) := by decide +kernel
theorem dX0_init_9 : decode cX0_init 9 = .ok (.invokespecial 11, 3) := by decide +kernel
theorem dX0_init_12 : decode cX0_init 12 = .ok (.putfield 12, 3) := by decide +kernel
theorem dX0_init_15 : decode cX0_init 15 = .ok (.aload_n 0, 1) := by decide +kernel
theorem dX0_init_16 : decode cX0_init 16 = .ok (.new 18, 3) := by decide +kernel
theorem dX0_init_19 : decode cX0_init 19 = .ok (.dup, 1) := by decide +kernel
theorem dX0_init_20 : decode cX0_init 20 = .ok (.invokespecial 20, 3) := by decide +kernel
theorem dX0_init_23 : decode cX0_init 23 = .ok (.putfield 21, 3) := by decide +kernel
theorem dX0_init_26 : decode cX0_init 26 = .ok (.aload_n 0, 1) := by decide +kernel
theorem dX0_init_27 : decode cX0_init 27 = .ok (.new 25, 3) := by decide +kernel
theorem dX0_init_30 : decode cX0_init 30 = .ok (.dup, 1) := by decide +kernel
theorem dX0_init_31 : decode cX0_init 31 = .ok (.invokespecial 27, 3) := by decide +kernel
theorem dX0_init_34 : decode cX0_init 34 = .ok (.putfield 28, 3) := by decide +kernel
theorem dX0_init_37 : decode cX0_init 37 = .ok (.aload_n 0, 1) := by decide +kernel
theorem dX0_init_38 : decode cX0_init 38 = .ok (.new 32, 3) := by decide +kernel
theorem dX0_init_41 : decode cX0_init 41 = .ok (.dup, 1) := by decide +kernel
theorem dX0_init_42 : decode cX0_init 42 = .ok (.invokespecial 34, 3) := by decide +kernel
theorem dX0_init_45 : decode cX0_init 45 = .ok (.putfield 35, 3) := by decide +kernel
theorem dX0_init_48 : decode cX0_init 48 = .ok (.aload_n 0, 1) := by decide +kernel
theorem dX0_init_49 : decode cX0_init 49 = .ok (.new 39, 3) := by decide +kernel
theorem dX0_init_52 : decode cX0_init 52 = .ok (.dup, 1) := by decide +kernel
theorem dX0_init_53 : decode cX0_init 53 = .ok (.invokespecial 41, 3) := by decide +kernel
theorem dX0_init_56 : decode cX0_init 56 = .ok (.putfield 42, 3) := by decide +kernel
theorem dX0_init_59 : decode cX0_init 59 = .ok (.aload_n 0, 1) := by decide +kernel
theorem dX0_init_60 : decode cX0_init 60 = .ok (.new 39, 3) := by decide +kernel
theorem dX0_init_63 : decode cX0_init 63 = .ok (.dup, 1) := by decide +kernel
theorem dX0_init_64 : decode cX0_init 64 = .ok (.invokespecial 41, 3) := by decide +kernel
theorem dX0_init_67 : decode cX0_init 67 = .ok (.putfield 46, 3) := by decide +kernel
theorem dX0_init_70 : decode cX0_init 70 = .ok (.aload_n 0, 1) := by decide +kernel
theorem dX0_init_71 : decode cX0_init 71 = .ok (.new 39, 3) := by decide +kernel
theorem dX0_init_74 : decode cX0_init 74 = .ok (.dup, 1) := by decide +kernel
theorem dX0_init_75 : decode cX0_init 75 = .ok (.invokespecial 41, 3) := by decide +kernel
theorem dX0_init_78 : decode cX0_init 78 = .ok (.putfield 49, 3) := by decide +kernel
theorem dX0_init_81 : decode cX0_init 81 = .ok (.aload_n 0, 1) := by decide +kernel
theorem dX0_init_82 : decode cX0_init 82 = .ok (.iconst 0, 1) := by decide +kernel
theorem dX0_init_83 : decode cX0_init 83 = .ok (.putfield 52, 3) := by decide +kernel
theorem dX0_init_86 : decode cX0_init 86 = .ok (.aload_n 0, 1) := by decide +kernel
theorem dX0_init_87 : decode cX0_init 87 = .ok (.iconst 0, 1) := by decide +kernel
theorem dX0_init_88 : decode cX0_init 88 = .ok (.putfield 56, 3) := by decide +kernel
theorem dX0_init_91 : decode cX0_init 91 = .ok (.aload_n 0, 1) := by decide +kernel
theorem dX0_init_92 : decode cX0_init 92 = .ok (.sipush 199, 3) := by decide +kernel
theorem dX0_init_95 : decode cX0_init 95 = .ok (.putfield 59, 3) := by decide +kernel
theorem dX0_init_98 : decode cX0_init 98 = .ok (.aload_n 0, 1) := by decide +kernel
theorem dX0_init_99 : decode cX0_init 99 = .ok (.iconst 0, 1) := by decide +kernel
theorem dX0_init_100 : decode cX0_init 100 = .ok (.putfield 62, 3) := by decide +kernel
theorem dX0_init_103 : decode cX0_init 103 = .ok (.aload_n 0, 1) := by decide +kernel
theorem dX0_init_104 : decode cX0_init 104 = .ok (.iconst 5, 1) := by decide +kernel
theorem dX0_init_105 : decode cX0_init 105 = .ok (.newarray .int, 2) := by decide +kernel
theorem dX0_init_107 : decode cX0_init 107 = .ok (.putfield 65, 3) := by decide +kernel
theorem dX0_init_110 : decode cX0_init 110 = .ok (.aload_n 0, 1) := by decide +kernel
theorem dX0_init_111 : decode cX0_init 111 = .ok (.bipush 9, 2) := by decide +kernel
theorem dX0_init_113 : decode cX0_init 113 = .ok (.newarray .int, 2) := by decide +kernel
theorem dX0_init_115 : decode cX0_init 115 = .ok (.putfield 69, 3) := by decide +kernel
theorem dX0_init_118 : decode cX0_init 118 = .ok (.return_, 1) := by decide +kernel
theorem dX0_clear_0 : decode cX0_clear 0 = .ok (.aload_n 0, 1) := by decide +kernel
theorem dX0_clear_1 : decode cX0_clear 1 = .ok (.getfield 12, 3) := by decide +kernel
theorem dX0_clear_4 : decode cX0_clear 4 = .ok (.iconst 0, 1) := by decide +kernel
theorem dX0_clear_5 : decode cX0_clear 5 = .ok (.putfield 72, 3) := by decide +kernel
theorem dX0_clear_8 : decode cX0_clear 8 = .ok (.aload_n 0, 1) := by decide +kernel
theorem dX0_clear_9 : decode cX0_clear 9 = .ok (.getfield 21, 3) := by decide +kernel
theorem dX0_clear_12 : decode cX0_clear 12 = .ok (.iconst 0, 1) := by decide +kernel
theorem dX0_clear_13 : decode cX0_clear 13 = .ok (.putfield 75, 3) := by decide +kernel
theorem dX0_clear_16 : decode cX0_clear 16 = .ok (.aload_n 0, 1) := by decide +kernel
theorem dX0_clear_17 : decode cX0_clear 17 = .ok (.getfield 28, 3) := by decide +kernel
theorem dX0_clear_20 : decode cX0_clear 20 = .ok (.iconst 0, 1) := by decide +kernel
theorem dX0_clear_21 : decode cX0_clear 21 = .ok (.putfield 76, 3) := by decide +kernel
theorem dX0_clear_24 : decode cX0_clear 24 = .ok (.aload_n 0, 1) := by decide +kernel
theorem dX0_clear_25 : decode cX0_clear 25 = .ok (.getfield 28, 3) := by decide +kernel
theorem dX0_clear_28 : decode cX0_clear 28 = .ok (.iconst 0, 1) := by decide +kernel
theorem dX0_clear_29 : decode cX0_clear 29 = .ok (.putfield 77, 3) := by decide +kernel
theorem dX0_clear_32 : decode cX0_clear 32 = .ok (.aload_n 0, 1) := by decide +kernel
theorem dX0_clear_33 : decode cX0_clear 33 = .ok (.getfield 35, 3) := by decide +kernel
theorem dX0_clear_36 : decode cX0_clear 36 = .ok (.iconst 0, 1) := by decide +kernel
theorem dX0_clear_37 : decode cX0_clear 37 = .ok (.putfield 80, 3) := by decide +kernel
theorem dX0_clear_40 : decode cX0_clear 40 = .ok (.aload_n 0, 1) := by decide +kernel
theorem dX0_clear_41 : decode cX0_clear 41 = .ok (.getfield 42, 3) := by decide +kernel
theorem dX0_clear_44 : decode cX0_clear 44 = .ok (.iconst 0, 1) := by decide +kernel
theorem dX0_clear_45 : decode cX0_clear 45 = .ok (.putfield 81, 3) := by decide +kernel
theorem dX0_clear_48 : decode cX0_clear 48 = .ok (.aload_n 0, 1) := by decide +kernel
theorem dX0_clear_49 : decode cX0_clear 49 = .ok (.getfield 46, 3) := by decide +kernel
theorem dX0_clear_52 : decode cX0_clear 52 = .ok (.iconst 0, 1) := by decide +kernel
theorem dX0_clear_53 : decode cX0_clear 53 = .ok (.putfield 81, 3) := by decide +kernel
theorem dX0_clear_56 : decode cX0_clear 56 = .ok (.aload_n 0, 1) := by decide +kernel
theorem dX0_clear_57 : decode cX0_clear 57 = .ok (.getfield 49, 3) := by decide +kernel
theorem dX0_clear_60 : decode cX0_clear 60 = .ok (.iconst 0, 1) := by decide +kernel
theorem dX0_clear_61 : decode cX0_clear 61 = .ok (.putfield 81, 3) := by decide +kernel
theorem dX0_clear_64 : decode cX0_clear 64 = .ok (.aload_n 0, 1) := by decide +kernel
theorem dX0_clear_65 : decode cX0_clear 65 = .ok (.iconst 0, 1) := by decide +kernel
theorem dX0_clear_66 : decode cX0_clear 66 = .ok (.putfield 52, 3) := by decide +kernel
theorem dX0_clear_69 : decode cX0_clear 69 = .ok (.aload_n 0, 1) := by decide +kernel
theorem dX0_clear_70 : decode cX0_clear 70 = .ok (.iconst 0, 1) := by decide +kernel
theorem dX0_clear_71 : decode cX0_clear 71 = .ok (.putfield 56, 3) := by decide +kernel
theorem dX0_clear_74 : decode cX0_clear 74 = .ok (.aload_n 0, 1) := by decide +kernel
theorem dX0_clear_75 : decode cX0_clear 75 = .ok (.sipush 199, 3) := by decide +kernel
theorem dX0_clear_78 : decode cX0_clear 78 = .ok (.putfield 59, 3) := by decide +kernel
theorem dX0_clear_81 : decode cX0_clear 81 = .ok (.aload_n 0, 1) := by decide +kernel
theorem dX0_clear_82 : decode cX0_clear 82 = .ok (.iconst 0, 1) := by decide +kernel
theorem dX0_clear_83 : decode cX0_clear 83 = .ok (.putfield 62, 3) := by decide +kernel
theorem dX0_clear_86 : decode cX0_clear 86 = .ok (.return_, 1) := by decide +kernel
theorem dX0_canCome_0 : decode cX0_canCome 0 = .ok (.aload_n 0, 1) := by decide +kernel
theorem dX0_canCome_1 : decode cX0_canCome 1 = .ok (.getfield 21, 3) := by decide +kernel
theorem dX0_canCome_4 : decode cX0_canCome 4 = .ok (.iload_n 2, 1) := by decide +kernel
theorem dX0_canCome_5 : decode cX0_canCome 5 = .ok (.invokevirtual 82, 3) := by decide +kernel
theorem dX0_canCome_8 : decode cX0_canCome 8 = .ok (.ifCond .eq 27, 3) := by decide +kernel
theorem dX0_canCome_11 : decode cX0_canCome 11 = .ok (.aload_n 0, 1) := by decide +kernel
theorem dX0_canCome_12 : decode cX0_canCome 12 = .ok (.getfield 12, 3) := by decide +kernel
theorem dX0_canCome_15 : decode cX0_canCome 15 = .ok (.iload 4, 2) := by decide +kernel
theorem dX0_canCome_17 : decode cX0_canCome 17 = .ok (.invokevirtual 86, 3) := by decide +kernel
theorem dX0_canCome_20 : decode cX0_canCome 20 = .ok (.ifCond .eq 15, 3) := by decide +kernel
theorem dX0_canCome_23 : decode cX0_canCome 23 = .ok (.aload_n 0, 1) := by decide +kernel
theorem dX0_canCome_24 : decode cX0_canCome 24 = .ok (.getfield 28, 3) := by decide +kernel
theorem dX0_canCome_27 : decode cX0_canCome 27 = .ok (.getfield 76, 3) := by decide +kernel
theorem dX0_canCome_30 : decode cX0_canCome 30 = .ok (.bipush 60, 2) := by decide +kernel
theorem dX0_canCome_32 : decode cX0_canCome 32 = .ok (.if_icmp .lt 5, 3) := by decide +kernel
theorem dX0_canCome_35 : decode cX0_canCome 35 = .ok (.iconst 0, 1) := by decide +kernel
theorem dX0_canCome_36 : decode cX0_canCome 36 = .ok (.ireturn, 1) := by decide +kernel
theorem dX0_canCome_37 : decode cX0_canCome 37 = .ok (.iload_n 3, 1) := by decide +kernel
theorem dX0_canCome_38 : decode cX0_canCome 38 = .ok (.aload_n 0, 1) := by decide +kernel
theorem dX0_canCome_39 : decode cX0_canCome 39 = .ok (.getfield 21, 3) := by decide +kernel
theorem dX0_canCome_42 : decode cX0_canCome 42 = .ok (.getfield 87, 3) := by decide +kernel
theorem dX0_canCome_45 : decode cX0_canCome 45 = .ok (.iload_n 2, 1) := by decide +kernel
theorem dX0_canCome_46 : decode cX0_canCome 46 = .ok (.iaload, 1) := by decide +kernel
theorem dX0_canCome_47 : decode cX0_canCome 47 = .ok (.if_icmp .lt 28, 3) := by decide +kernel
theorem dX0_canCome_50 : decode cX0_canCome 50 = .ok (.iload_n 3, 1) := by decide +kernel
theorem dX0_canCome_51 : decode cX0_canCome 51 = .ok (.aload_n 0, 1) := by decide +kernel
theorem dX0_canCome_52 : decode cX0_canCome 52 = .ok (.getfield 21, 3) := by decide +kernel
theorem dX0_canCome_55 : decode cX0_canCome 55 = .ok (.getfield 90, 3) := by decide +kernel
theorem dX0_canCome_58 : decode cX0_canCome 58 = .ok (.iload_n 2, 1) := by decide +kernel
theorem dX0_canCome_59 : decode cX0_canCome 59 = .ok (.iaload, 1) := by decide +kernel
theorem dX0_canCome_60 : decode cX0_canCome 60 = .ok (.if_icmp .gt 15, 3) := by decide +kernel
theorem dX0_canCome_63 : decode cX0_canCome 63 = .ok (.iload_n 3, 1) := by decide +kernel
theorem dX0_canCome_64 : decode cX0_canCome 64 = .ok (.aload_n 0, 1) := by decide +kernel
theorem dX0_canCome_65 : decode cX0_canCome 65 = .ok (.getfield 28, 3) := by decide +kernel
theorem dX0_canCome_68 : decode cX0_canCome 68 = .ok (.iload_n 2, 1) := by decide +kernel
theorem dX0_canCome_69 : decode cX0_canCome 69 = .ok (.invokevirtual 93, 3) := by decide +kernel
theorem dX0_canCome_72 : decode cX0_canCome 72 = .ok (.if_icmp .ge 5, 3) := by decide +kernel
theorem dX0_canCome_75 : decode cX0_canCome 75 = .ok (.iconst 0, 1) := by decide +kernel
theorem dX0_canCome_76 : decode cX0_canCome 76 = .ok (.ireturn, 1) := by decide +kernel
theorem dX0_canCome_77 : decode cX0_canCome 77 = .ok (.iload 5, 2) := by decide +kernel
theorem dX0_canCome_79 : decode cX0_canCome 79 = .ok (.iconst (-1), 1) := by decide +kernel
theorem dX0_canCome_80 : decode cX0_canCome 80 = .ok (.if_icmp .ne 15, 3) := by decide +kernel
theorem dX0_canCome_83 : decode cX0_canCome 83 = .ok (.iload_n 1, 1) := by decide +kernel
theorem dX0_canCome_84 : decode cX0_canCome 84 = .ok (.ifCond .ne 7, 3) := by decide +kernel
theorem dX0_canCome_87 : decode cX0_canCome 87 = .ok (.iconst 1, 1) := by decide +kernel
theorem dX0_canCome_88 : decode cX0_canCome 88 = .ok (.goto 32, 3) := by decide +kernel
theorem dX0_canCome_91 : decode cX0_canCome 91 = .ok (.iconst 0, 1) := by decide +kernel
theorem dX0_canCome_92 : decode cX0_canCome 92 = .ok (.goto 28, 3) := by decide +kernel
theorem dX0_canCome_95 : decode cX0_canCome 95 = .ok (.iload 5, 2) := by decide +kernel
theorem dX0_canCome_97 : decode cX0_canCome 97 = .ok (.ifCond .lt 22, 3) := by decide +kernel
theorem dX0_canCome_100 : decode cX0_canCome 100 = .ok (.iload 5, 2) := by decide +kernel
theorem dX0_canCome_102 : decode cX0_canCome 102 = .ok (.aload_n 0, 1) := by decide +kernel
theorem dX0_canCome_103 : decode cX0_canCome 103 = .ok (.getfield 12, 3) := by decide +kernel
theorem dX0_canCome_106 : decode cX0_canCome 106 = .ok (.getfield 97, 3) := by decide +kernel
theorem dX0_canCome_109 : decode cX0_canCome 109 = .ok (.iload 4, 2) := by decide +kernel
theorem dX0_canCome_111 : decode cX0_canCome 111 = .ok (.iaload, 1) := by decide +kernel
theorem dX0_canCome_112 : decode cX0_canCome 112 = .ok (.if_icmp .ge 7, 3) := by decide +kernel
theorem dX0_canCome_115 : decode cX0_canCome 115 = .ok (.iconst 1, 1) := by decide +kernel
theorem dX0_canCome_116 : decode cX0_canCome 116 = .ok (.goto 4, 3) := by decide +kernel
theorem dX0_canCome_119 : decode cX0_canCome 119 = .ok (.iconst 0, 1) := by decide +kernel
theorem dX0_canCome_120 : decode cX0_canCome 120 = .ok (.ireturn, 1) := by decide +kernel
theorem dX0_isHeard_0 : decode cX0_isHeard 0 = .ok (.iload_n 1, 1) := by decide +kernel
theorem dX0_isHeard_1 : decode cX0_isHeard 1 = .ok (.ifCond .lt 34, 3) := by decide +kernel
theorem dX0_isHeard_4 : decode cX0_isHeard 4 = .ok (.iload_n 1, 1) := by decide +kernel
theorem dX0_isHeard_5 : decode cX0_isHeard 5 = .ok (.aload_n 0, 1) := by decide +kernel
theorem dX0_isHeard_6 : decode cX0_isHeard 6 = .ok (.getfield 28, 3) := by decide +kernel
theorem dX0_isHeard_9 : decode cX0_isHeard 9 = .ok (.getfield 76, 3) := by decide +kernel
theorem dX0_isHeard_12 : decode cX0_isHeard 12 = .ok (.if_icmp .ge 23, 3) := by decide +kernel
theorem dX0_isHeard_15 : decode cX0_isHeard 15 = .ok (.aload_n 0, 1) := by decide +kernel
theorem dX0_isHeard_16 : decode cX0_isHeard 16 = .ok (.getfield 28, 3) := by decide +kernel
theorem dX0_isHeard_19 : decode cX0_isHeard 19 = .ok (.getfield 100, 3) := by decide +kernel
theorem dX0_isHeard_22 : decode cX0_isHeard 22 = .ok (.iload_n 1, 1) := by decide +kernel
theorem dX0_isHeard_23 : decode cX0_isHeard 23 = .ok (.iaload, 1) := by decide +kernel
theorem dX0_isHeard_24 : decode cX0_isHeard 24 = .ok (.aload_n 0, 1) := by decide +kernel
theorem dX0_isHeard_25 : decode cX0_isHeard 25 = .ok (.getfield 59, 3) := by decide +kernel
theorem dX0_isHeard_28 : decode cX0_isHeard 28 = .ok (.if_icmp .gt 7, 3) := by decide +kernel
theorem dX0_isHeard_31 : decode cX0_isHeard 31 = .ok (.iconst 1, 1) := by decide +kernel
theorem dX0_isHeard_32 : decode cX0_isHeard 32 = .ok (.goto 4, 3) := by decide +kernel
theorem dX0_isHeard_35 : decode cX0_isHeard 35 = .ok (.iconst 0, 1) := by decide +kernel
theorem dX0_isHeard_36 : decode cX0_isHeard 36 = .ok (.ireturn, 1) := by decide +kernel
theorem dX0_isHeardWord_0 : decode cX0_isHeardWord 0 = .ok (.aload_n 0, 1) := by decide +kernel
theorem dX0_isHeardWord_1 : decode cX0_isHeardWord 1 = .ok (.iload_n 1, 1) := by decide +kernel
theorem dX0_isHeardWord_2 : decode cX0_isHeardWord 2 = .ok (.invokevirtual 103, 3) := by decide +kernel
theorem dX0_isHeardWord_5 : decode cX0_isHeardWord 5 = .ok (.ifCond .eq 19, 3) := by decide +kernel
theorem dX0_isHeardWord_8 : decode cX0_isHeardWord 8 = .ok (.aload_n 0, 1) := by decide +kernel
theorem dX0_isHeardWord_9 : decode cX0_isHeardWord 9 = .ok (.getfield 28, 3) := by decide +kernel
theorem dX0_isHeardWord_12 : decode cX0_isHeardWord 12 = .ok (.getfield 106, 3) := by decide +kernel
theorem dX0_isHeardWord_15 : decode cX0_isHeardWord 15 = .ok (.iload_n 1, 1) := by decide +kernel
theorem dX0_isHeardWord_16 : decode cX0_isHeardWord 16 = .ok (.baload, 1) := by decide +kernel
theorem dX0_isHeardWord_17 : decode cX0_isHeardWord 17 = .ok (.ifCond .eq 7, 3) := by decide +kernel
theorem dX0_isHeardWord_20 : decode cX0_isHeardWord 20 = .ok (.iconst 1, 1) := by decide +kernel
theorem dX0_isHeardWord_21 : decode cX0_isHeardWord 21 = .ok (.goto 4, 3) := by decide +kernel
theorem dX0_isHeardWord_24 : decode cX0_isHeardWord 24 = .ok (.iconst 0, 1) := by decide +kernel
theorem dX0_isHeardWord_25 : decode cX0_isHeardWord 25 = .ok (.ireturn, 1) := by decide +kernel
theorem dX0_isHeardWordOf_0 : decode cX0_isHeardWordOf 0 = .ok (.aload_n 0, 1) := by decide +kernel
theorem dX0_isHeardWordOf_1 : decode cX0_isHeardWordOf 1 = .ok (.iload_n 1, 1) := by decide +kernel
theorem dX0_isHeardWordOf_2 : decode cX0_isHeardWordOf 2 = .ok (.invokevirtual 103, 3) := by decide +kernel
theorem dX0_isHeardWordOf_5 : decode cX0_isHeardWordOf 5 = .ok (.ifCond .eq 32, 3) := by decide +kernel
theorem dX0_isHeardWordOf_8 : decode cX0_isHeardWordOf 8 = .ok (.aload_n 0, 1) := by decide +kernel
theorem dX0_isHeardWordOf_9 : decode cX0_isHeardWordOf 9 = .ok (.getfield 28, 3) := by decide +kernel
theorem dX0_isHeardWordOf_12 : decode cX0_isHeardWordOf 12 = .ok (.getfield 106, 3) := by decide +kernel
theorem dX0_isHeardWordOf_15 : decode cX0_isHeardWordOf 15 = .ok (.iload_n 1, 1) := by decide +kernel
theorem dX0_isHeardWordOf_16 : decode cX0_isHeardWordOf 16 = .ok (.baload, 1) := by decide +kernel
theorem dX0_isHeardWordOf_17 : decode cX0_isHeardWordOf 17 = .ok (.ifCond .eq 20, 3) := by decide +kernel
theorem dX0_isHeardWordOf_20 : decode cX0_isHeardWordOf 20 = .ok (.aload_n 0, 1) := by decide +kernel
theorem dX0_isHeardWordOf_21 : decode cX0_isHeardWordOf 21 = .ok (.getfield 28, 3) := by decide +kernel
theorem dX0_isHeardWordOf_24 : decode cX0_isHeardWordOf 24 = .ok (.getfield 110, 3) := by decide +kernel
theorem dX0_isHeardWordOf_27 : decode cX0_isHeardWordOf 27 = .ok (.iload_n 1, 1) := by decide +kernel
theorem dX0_isHeardWordOf_28 : decode cX0_isHeardWordOf 28 = .ok (.iaload, 1) := by decide +kernel
theorem dX0_isHeardWordOf_29 : decode cX0_isHeardWordOf 29 = .ok (.iload_n 2, 1) := by decide +kernel
theorem dX0_isHeardWordOf_30 : decode cX0_isHeardWordOf 30 = .ok (.if_icmp .ne 7, 3) := by decide +kernel
theorem dX0_isHeardWordOf_33 : decode cX0_isHeardWordOf 33 = .ok (.iconst 1, 1) := by decide +kernel
theorem dX0_isHeardWordOf_34 : decode cX0_isHeardWordOf 34 = .ok (.goto 4, 3) := by decide +kernel
theorem dX0_isHeardWordOf_37 : decode cX0_isHeardWordOf 37 = .ok (.iconst 0, 1) := by decide +kernel
theorem dX0_isHeardWordOf_38 : decode cX0_isHeardWordOf 38 = .ok (.ireturn, 1) := by decide +kernel
theorem dX0_heardLines_0 : decode cX0_heardLines 0 = .ok (.iconst 0, 1) := by decide +kernel
theorem dX0_heardLines_1 : decode cX0_heardLines 1 = .ok (.istore_n 1, 1) := by decide +kernel
theorem dX0_heardLines_2 : decode cX0_heardLines 2 = .ok (.iconst 0, 1) := by decide +kernel
theorem dX0_heardLines_3 : decode cX0_heardLines 3 = .ok (.istore_n 2, 1) := by decide +kernel
theorem dX0_heardLines_4 : decode cX0_heardLines 4 = .ok (.iload_n 2, 1) := by decide +kernel
theorem dX0_heardLines_5 : decode cX0_heardLines 5 = .ok (.aload_n 0, 1) := by decide +kernel
theorem dX0_heardLines_6 : decode cX0_heardLines 6 = .ok (.getfield 28, 3) := by decide +kernel
theorem dX0_heardLines_9 : decode cX0_heardLines 9 = .ok (.getfield 76, 3) := by decide +kernel
theorem dX0_heardLines_12 : decode cX0_heardLines 12 = .ok (.if_icmp .ge 20, 3) := by decide +kernel
theorem dX0_heardLines_15 : decode cX0_heardLines 15 = .ok (.aload_n 0, 1) := by decide +kernel
theorem dX0_heardLines_16 : decode cX0_heardLines 16 = .ok (.iload_n 2, 1) := by decide +kernel
theorem dX0_heardLines_17 : decode cX0_heardLines 17 = .ok (.invokevirtual 103, 3) := by decide +kernel
theorem dX0_heardLines_20 : decode cX0_heardLines 20 = .ok (.ifCond .eq 6, 3) := by decide +kernel
theorem dX0_heardLines_23 : decode cX0_heardLines 23 = .ok (.iinc 1 1, 3) := by decide +kernel
theorem dX0_heardLines_26 : decode cX0_heardLines 26 = .ok (.iinc 2 1, 3) := by decide +kernel
theorem dX0_heardLines_29 : decode cX0_heardLines 29 = .ok (.goto (-25), 3) := by decide +kernel
theorem dX0_heardLines_32 : decode cX0_heardLines 32 = .ok (.iload_n 1, 1) := by decide +kernel
theorem dX0_heardLines_33 : decode cX0_heardLines 33 = .ok (.ireturn, 1) := by decide +kernel
theorem dX0_isRight_0 : decode cX0_isRight 0 = .ok (.aload_n 0, 1) := by decide +kernel
theorem dX0_isRight_1 : decode cX0_isRight 1 = .ok (.getfield 28, 3) := by decide +kernel
theorem dX0_isRight_4 : decode cX0_isRight 4 = .ok (.getfield 113, 3) := by decide +kernel
theorem dX0_isRight_7 : decode cX0_isRight 7 = .ok (.iload_n 1, 1) := by decide +kernel
theorem dX0_isRight_8 : decode cX0_isRight 8 = .ok (.iaload, 1) := by decide +kernel
theorem dX0_isRight_9 : decode cX0_isRight 9 = .ok (.aload_n 0, 1) := by decide +kernel
theorem dX0_isRight_10 : decode cX0_isRight 10 = .ok (.getfield 12, 3) := by decide +kernel
theorem dX0_isRight_13 : decode cX0_isRight 13 = .ok (.getfield 116, 3) := by decide +kernel
theorem dX0_isRight_16 : decode cX0_isRight 16 = .ok (.aload_n 0, 1) := by decide +kernel
theorem dX0_isRight_17 : decode cX0_isRight 17 = .ok (.getfield 28, 3) := by decide +kernel
theorem dX0_isRight_20 : decode cX0_isRight 20 = .ok (.getfield 119, 3) := by decide +kernel
theorem dX0_isRight_23 : decode cX0_isRight 23 = .ok (.iload_n 1, 1) := by decide +kernel
theorem dX0_isRight_24 : decode cX0_isRight 24 = .ok (.iaload, 1) := by decide +kernel
theorem dX0_isRight_25 : decode cX0_isRight 25 = .ok (.iaload, 1) := by decide +kernel
theorem dX0_isRight_26 : decode cX0_isRight 26 = .ok (.if_icmp .ne 7, 3) := by decide +kernel
theorem dX0_isRight_29 : decode cX0_isRight 29 = .ok (.iconst 1, 1) := by decide +kernel
theorem dX0_isRight_30 : decode cX0_isRight 30 = .ok (.goto 4, 3) := by decide +kernel
theorem dX0_isRight_33 : decode cX0_isRight 33 = .ok (.iconst 0, 1) := by decide +kernel
theorem dX0_isRight_34 : decode cX0_isRight 34 = .ok (.ireturn, 1) := by decide +kernel
theorem dX0_isNew_0 : decode cX0_isNew 0 = .ok (.aload_n 0, 1) := by decide +kernel
theorem dX0_isNew_1 : decode cX0_isNew 1 = .ok (.getfield 28, 3) := by decide +kernel
theorem dX0_isNew_4 : decode cX0_isNew 4 = .ok (.getfield 119, 3) := by decide +kernel
theorem dX0_isNew_7 : decode cX0_isNew 7 = .ok (.iload_n 1, 1) := by decide +kernel
theorem dX0_isNew_8 : decode cX0_isNew 8 = .ok (.iaload, 1) := by decide +kernel
theorem dX0_isNew_9 : decode cX0_isNew 9 = .ok (.istore_n 2, 1) := by decide +kernel
theorem dX0_isNew_10 : decode cX0_isNew 10 = .ok (.aload_n 0, 1) := by decide +kernel
theorem dX0_isNew_11 : decode cX0_isNew 11 = .ok (.getfield 28, 3) := by decide +kernel
theorem dX0_isNew_14 : decode cX0_isNew 14 = .ok (.getfield 100, 3) := by decide +kernel
theorem dX0_isNew_17 : decode cX0_isNew 17 = .ok (.iload_n 1, 1) := by decide +kernel
theorem dX0_isNew_18 : decode cX0_isNew 18 = .ok (.iaload, 1) := by decide +kernel
theorem dX0_isNew_19 : decode cX0_isNew 19 = .ok (.istore_n 3, 1) := by decide +kernel
theorem dX0_isNew_20 : decode cX0_isNew 20 = .ok (.aload_n 0, 1) := by decide +kernel
theorem dX0_isNew_21 : decode cX0_isNew 21 = .ok (.iload_n 1, 1) := by decide +kernel
theorem dX0_isNew_22 : decode cX0_isNew 22 = .ok (.invokevirtual 122, 3) := by decide +kernel
theorem dX0_isNew_25 : decode cX0_isNew 25 = .ok (.ifCond .eq 39, 3) := by decide +kernel
theorem dX0_isNew_28 : decode cX0_isNew 28 = .ok (.aload_n 0, 1) := by decide +kernel
theorem dX0_isNew_29 : decode cX0_isNew 29 = .ok (.getfield 12, 3) := by decide +kernel
theorem dX0_isNew_32 : decode cX0_isNew 32 = .ok (.getfield 125, 3) := by decide +kernel
theorem dX0_isNew_35 : decode cX0_isNew 35 = .ok (.iload_n 2, 1) := by decide +kernel
theorem dX0_isNew_36 : decode cX0_isNew 36 = .ok (.iaload, 1) := by decide +kernel
theorem dX0_isNew_37 : decode cX0_isNew 37 = .ok (.iload_n 3, 1) := by decide +kernel
theorem dX0_isNew_38 : decode cX0_isNew 38 = .ok (.invokestatic 128, 3) := by decide +kernel
theorem dX0_isNew_41 : decode cX0_isNew 41 = .ok (.ifCond .ne 23, 3) := by decide +kernel
theorem dX0_isNew_44 : decode cX0_isNew 44 = .ok (.aload_n 0, 1) := by decide +kernel
theorem dX0_isNew_45 : decode cX0_isNew 45 = .ok (.getfield 12, 3) := by decide +kernel
theorem dX0_isNew_48 : decode cX0_isNew 48 = .ok (.getfield 132, 3) := by decide +kernel
theorem dX0_isNew_51 : decode cX0_isNew 51 = .ok (.iload_n 2, 1) := by decide +kernel
theorem dX0_isNew_52 : decode cX0_isNew 52 = .ok (.iaload, 1) := by decide +kernel
theorem dX0_isNew_53 : decode cX0_isNew 53 = .ok (.iload_n 3, 1) := by decide +kernel
theorem dX0_isNew_54 : decode cX0_isNew 54 = .ok (.invokestatic 128, 3) := by decide +kernel
theorem dX0_isNew_57 : decode cX0_isNew 57 = .ok (.ifCond .ne 7, 3) := by decide +kernel
theorem dX0_isNew_60 : decode cX0_isNew 60 = .ok (.iconst 1, 1) := by decide +kernel
theorem dX0_isNew_61 : decode cX0_isNew 61 = .ok (.goto 4, 3) := by decide +kernel
theorem dX0_isNew_64 : decode cX0_isNew 64 = .ok (.iconst 0, 1) := by decide +kernel
theorem dX0_isNew_65 : decode cX0_isNew 65 = .ok (.ireturn, 1) := by decide +kernel
theorem dX0_isOff_0 : decode cX0_isOff 0 = .ok (.aload_n 0, 1) := by decide +kernel
theorem dX0_isOff_1 : decode cX0_isOff 1 = .ok (.getfield 28, 3) := by decide +kernel
theorem dX0_isOff_4 : decode cX0_isOff 4 = .ok (.getfield 110, 3) := by decide +kernel
theorem dX0_isOff_7 : decode cX0_isOff 7 = .ok (.iload_n 1, 1) := by decide +kernel
theorem dX0_isOff_8 : decode cX0_isOff 8 = .ok (.iaload, 1) := by decide +kernel
theorem dX0_isOff_9 : decode cX0_isOff 9 = .ok (.istore_n 2, 1) := by decide +kernel
theorem dX0_isOff_10 : decode cX0_isOff 10 = .ok (.aload_n 0, 1) := by decide +kernel
theorem dX0_isOff_11 : decode cX0_isOff 11 = .ok (.getfield 21, 3) := by decide +kernel
theorem dX0_isOff_14 : decode cX0_isOff 14 = .ok (.iload_n 2, 1) := by decide +kernel
theorem dX0_isOff_15 : decode cX0_isOff 15 = .ok (.aload_n 0, 1) := by decide +kernel
theorem dX0_isOff_16 : decode cX0_isOff 16 = .ok (.getfield 28, 3) := by decide +kernel
theorem dX0_isOff_19 : decode cX0_isOff 19 = .ok (.getfield 100, 3) := by decide +kernel
theorem dX0_isOff_22 : decode cX0_isOff 22 = .ok (.iload_n 1, 1) := by decide +kernel
theorem dX0_isOff_23 : decode cX0_isOff 23 = .ok (.iaload, 1) := by decide +kernel
theorem dX0_isOff_24 : decode cX0_isOff 24 = .ok (.invokevirtual 135, 3) := by decide +kernel
theorem dX0_isOff_27 : decode cX0_isOff 27 = .ok (.istore_n 3, 1) := by decide +kernel
theorem dX0_isOff_28 : decode cX0_isOff 28 = .ok (.aload_n 0, 1) := by decide +kernel
theorem dX0_isOff_29 : decode cX0_isOff 29 = .ok (.iload_n 1, 1) := by decide +kernel
theorem dX0_isOff_30 : decode cX0_isOff 30 = .ok (.invokevirtual 122, 3) := by decide +kernel
theorem dX0_isOff_33 : decode cX0_isOff 33 = .ok (.ifCond .eq 44, 3) := by decide +kernel
theorem dX0_isOff_36 : decode cX0_isOff 36 = .ok (.iload_n 3, 1) := by decide +kernel
theorem dX0_isOff_37 : decode cX0_isOff 37 = .ok (.aload_n 0, 1) := by decide +kernel
theorem dX0_isOff_38 : decode cX0_isOff 38 = .ok (.getfield 21, 3) := by decide +kernel
theorem dX0_isOff_41 : decode cX0_isOff 41 = .ok (.getfield 87, 3) := by decide +kernel
theorem dX0_isOff_44 : decode cX0_isOff 44 = .ok (.iload_n 2, 1) := by decide +kernel
theorem dX0_isOff_45 : decode cX0_isOff 45 = .ok (.iaload, 1) := by decide +kernel
theorem dX0_isOff_46 : decode cX0_isOff 46 = .ok (.if_icmp .lt 31, 3) := by decide +kernel
theorem dX0_isOff_49 : decode cX0_isOff 49 = .ok (.aload_n 0, 1) := by decide +kernel
theorem dX0_isOff_50 : decode cX0_isOff 50 = .ok (.getfield 12, 3) := by decide +kernel
theorem dX0_isOff_53 : decode cX0_isOff 53 = .ok (.getfield 125, 3) := by decide +kernel
theorem dX0_isOff_56 : decode cX0_isOff 56 = .ok (.aload_n 0, 1) := by decide +kernel
theorem dX0_isOff_57 : decode cX0_isOff 57 = .ok (.getfield 28, 3) := by decide +kernel
theorem dX0_isOff_60 : decode cX0_isOff 60 = .ok (.getfield 119, 3) := by decide +kernel
theorem dX0_isOff_63 : decode cX0_isOff 63 = .ok (.iload_n 1, 1) := by decide +kernel
theorem dX0_isOff_64 : decode cX0_isOff 64 = .ok (.iaload, 1) := by decide +kernel
theorem dX0_isOff_65 : decode cX0_isOff 65 = .ok (.iaload, 1) := by decide +kernel
theorem dX0_isOff_66 : decode cX0_isOff 66 = .ok (.iload_n 3, 1) := by decide +kernel
theorem dX0_isOff_67 : decode cX0_isOff 67 = .ok (.invokestatic 128, 3) := by decide +kernel
theorem dX0_isOff_70 : decode cX0_isOff 70 = .ok (.ifCond .eq 7, 3) := by decide +kernel
theorem dX0_isOff_73 : decode cX0_isOff 73 = .ok (.iconst 1, 1) := by decide +kernel
theorem dX0_isOff_74 : decode cX0_isOff 74 = .ok (.goto 4, 3) := by decide +kernel
theorem dX0_isOff_77 : decode cX0_isOff 77 = .ok (.iconst 0, 1) := by decide +kernel
theorem dX0_isOff_78 : decode cX0_isOff 78 = .ok (.ireturn, 1) := by decide +kernel
theorem dX0_isFirst_0 : decode cX0_isFirst 0 = .ok (.iconst 0, 1) := by decide +kernel
theorem dX0_isFirst_1 : decode cX0_isFirst 1 = .ok (.istore_n 3, 1) := by decide +kernel
theorem dX0_isFirst_2 : decode cX0_isFirst 2 = .ok (.iload_n 3, 1) := by decide +kernel
theorem dX0_isFirst_3 : decode cX0_isFirst 3 = .ok (.iload_n 1, 1) := by decide +kernel
theorem dX0_isFirst_4 : decode cX0_isFirst 4 = .ok (.if_icmp .ge 48, 3) := by decide +kernel
theorem dX0_isFirst_7 : decode cX0_isFirst 7 = .ok (.aload_n 0, 1) := by decide +kernel
theorem dX0_isFirst_8 : decode cX0_isFirst 8 = .ok (.getfield 28, 3) := by decide +kernel
theorem dX0_isFirst_11 : decode cX0_isFirst 11 = .ok (.getfield 106, 3) := by decide +kernel
theorem dX0_isFirst_14 : decode cX0_isFirst 14 = .ok (.iload_n 3, 1) := by decide +kernel
theorem dX0_isFirst_15 : decode cX0_isFirst 15 = .ok (.baload, 1) := by decide +kernel
theorem dX0_isFirst_16 : decode cX0_isFirst 16 = .ok (.ifCond .eq 30, 3) := by decide +kernel
theorem dX0_isFirst_19 : decode cX0_isFirst 19 = .ok (.aload_n 0, 1) := by decide +kernel
theorem dX0_isFirst_20 : decode cX0_isFirst 20 = .ok (.getfield 28, 3) := by decide +kernel
theorem dX0_isFirst_23 : decode cX0_isFirst 23 = .ok (.iload_n 3, 1) := by decide +kernel
theorem dX0_isFirst_24 : decode cX0_isFirst 24 = .ok (.iload_n 1, 1) := by decide +kernel
theorem dX0_isFirst_25 : decode cX0_isFirst 25 = .ok (.invokevirtual 139, 3) := by decide +kernel
theorem dX0_isFirst_28 : decode cX0_isFirst 28 = .ok (.ifCond .eq 18, 3) := by decide +kernel
theorem dX0_isFirst_31 : decode cX0_isFirst 31 = .ok (.aload_n 0, 1) := by decide +kernel
theorem dX0_isFirst_32 : decode cX0_isFirst 32 = .ok (.getfield 28, 3) := by decide +kernel
theorem dX0_isFirst_35 : decode cX0_isFirst 35 = .ok (.getfield 100, 3) := by decide +kernel
theorem dX0_isFirst_38 : decode cX0_isFirst 38 = .ok (.iload_n 3, 1) := by decide +kernel
theorem dX0_isFirst_39 : decode cX0_isFirst 39 = .ok (.iaload, 1) := by decide +kernel
theorem dX0_isFirst_40 : decode cX0_isFirst 40 = .ok (.iload_n 2, 1) := by decide +kernel
theorem dX0_isFirst_41 : decode cX0_isFirst 41 = .ok (.if_icmp .lt 5, 3) := by decide +kernel
theorem dX0_isFirst_44 : decode cX0_isFirst 44 = .ok (.iconst 0, 1) := by decide +kernel
theorem dX0_isFirst_45 : decode cX0_isFirst 45 = .ok (.ireturn, 1) := by decide +kernel
theorem dX0_isFirst_46 : decode cX0_isFirst 46 = .ok (.iinc 3 1, 3) := by decide +kernel
theorem dX0_isFirst_49 : decode cX0_isFirst 49 = .ok (.goto (-47), 3) := by decide +kernel
theorem dX0_isFirst_52 : decode cX0_isFirst 52 = .ok (.iconst 1, 1) := by decide +kernel
theorem dX0_isFirst_53 : decode cX0_isFirst 53 = .ok (.ireturn, 1) := by decide +kernel
theorem dX0_ledBy_0 : decode cX0_ledBy 0 = .ok (.iload_n 1, 1) := by decide +kernel
theorem dX0_ledBy_1 : decode cX0_ledBy 1 = .ok (.iconst 1, 1) := by decide +kernel
theorem dX0_ledBy_2 : decode cX0_ledBy 2 = .ok (.isub, 1) := by decide +kernel
theorem dX0_ledBy_3 : decode cX0_ledBy 3 = .ok (.istore_n 2, 1) := by decide +kernel
theorem dX0_ledBy_4 : decode cX0_ledBy 4 = .ok (.iload_n 2, 1) := by decide +kernel
theorem dX0_ledBy_5 : decode cX0_ledBy 5 = .ok (.ifCond .lt 56, 3) := by decide +kernel
theorem dX0_ledBy_8 : decode cX0_ledBy 8 = .ok (.aload_n 0, 1) := by decide +kernel
theorem dX0_ledBy_9 : decode cX0_ledBy 9 = .ok (.getfield 28, 3) := by decide +kernel
theorem dX0_ledBy_12 : decode cX0_ledBy 12 = .ok (.getfield 106, 3) := by decide +kernel
theorem dX0_ledBy_15 : decode cX0_ledBy 15 = .ok (.iload_n 2, 1) := by decide +kernel
theorem dX0_ledBy_16 : decode cX0_ledBy 16 = .ok (.baload, 1) := by decide +kernel
theorem dX0_ledBy_17 : decode cX0_ledBy 17 = .ok (.ifCond .ne 38, 3) := by decide +kernel
theorem dX0_ledBy_20 : decode cX0_ledBy 20 = .ok (.aload_n 0, 1) := by decide +kernel
theorem dX0_ledBy_21 : decode cX0_ledBy 21 = .ok (.getfield 28, 3) := by decide +kernel
theorem dX0_ledBy_24 : decode cX0_ledBy 24 = .ok (.iload_n 2, 1) := by decide +kernel
theorem dX0_ledBy_25 : decode cX0_ledBy 25 = .ok (.iload_n 1, 1) := by decide +kernel
theorem dX0_ledBy_26 : decode cX0_ledBy 26 = .ok (.invokevirtual 139, 3) := by decide +kernel
theorem dX0_ledBy_29 : decode cX0_ledBy 29 = .ok (.ifCond .eq 26, 3) := by decide +kernel
theorem dX0_ledBy_32 : decode cX0_ledBy 32 = .ok (.aload_n 0, 1) := by decide +kernel
theorem dX0_ledBy_33 : decode cX0_ledBy 33 = .ok (.getfield 28, 3) := by decide +kernel
theorem dX0_ledBy_36 : decode cX0_ledBy 36 = .ok (.getfield 113, 3) := by decide +kernel
theorem dX0_ledBy_39 : decode cX0_ledBy 39 = .ok (.iload_n 2, 1) := by decide +kernel
theorem dX0_ledBy_40 : decode cX0_ledBy 40 = .ok (.iaload, 1) := by decide +kernel
theorem dX0_ledBy_41 : decode cX0_ledBy 41 = .ok (.aload_n 0, 1) := by decide +kernel
theorem dX0_ledBy_42 : decode cX0_ledBy 42 = .ok (.getfield 28, 3) := by decide +kernel
theorem dX0_ledBy_45 : decode cX0_ledBy 45 = .ok (.getfield 113, 3) := by decide +kernel
theorem dX0_ledBy_48 : decode cX0_ledBy 48 = .ok (.iload_n 1, 1) := by decide +kernel
theorem dX0_ledBy_49 : decode cX0_ledBy 49 = .ok (.iaload, 1) := by decide +kernel
theorem dX0_ledBy_50 : decode cX0_ledBy 50 = .ok (.if_icmp .ne 5, 3) := by decide +kernel
theorem dX0_ledBy_53 : decode cX0_ledBy 53 = .ok (.iload_n 2, 1) := by decide +kernel
theorem dX0_ledBy_54 : decode cX0_ledBy 54 = .ok (.ireturn, 1) := by decide +kernel
theorem dX0_ledBy_55 : decode cX0_ledBy 55 = .ok (.iinc 2 (-1), 3) := by decide +kernel
theorem dX0_ledBy_58 : decode cX0_ledBy 58 = .ok (.goto (-54), 3) := by decide +kernel
theorem dX0_ledBy_61 : decode cX0_ledBy 61 = .ok (.iconst (-1), 1) := by decide +kernel
theorem dX0_ledBy_62 : decode cX0_ledBy 62 = .ok (.ireturn, 1) := by decide +kernel
theorem dX0_latestPut_0 : decode cX0_latestPut 0 = .ok (.iload_n 1, 1) := by decide +kernel
theorem dX0_latestPut_1 : decode cX0_latestPut 1 = .ok (.iconst 1, 1) := by decide +kernel
theorem dX0_latestPut_2 : decode cX0_latestPut 2 = .ok (.isub, 1) := by decide +kernel
theorem dX0_latestPut_3 : decode cX0_latestPut 3 = .ok (.istore_n 2, 1) := by decide +kernel
theorem dX0_latestPut_4 : decode cX0_latestPut 4 = .ok (.iload_n 2, 1) := by decide +kernel
theorem dX0_latestPut_5 : decode cX0_latestPut 5 = .ok (.ifCond .lt 56, 3) := by decide +kernel
theorem dX0_latestPut_8 : decode cX0_latestPut 8 = .ok (.aload_n 0, 1) := by decide +kernel
theorem dX0_latestPut_9 : decode cX0_latestPut 9 = .ok (.getfield 28, 3) := by decide +kernel
theorem dX0_latestPut_12 : decode cX0_latestPut 12 = .ok (.getfield 106, 3) := by decide +kernel
theorem dX0_latestPut_15 : decode cX0_latestPut 15 = .ok (.iload_n 2, 1) := by decide +kernel
theorem dX0_latestPut_16 : decode cX0_latestPut 16 = .ok (.baload, 1) := by decide +kernel
theorem dX0_latestPut_17 : decode cX0_latestPut 17 = .ok (.ifCond .ne 38, 3) := by decide +kernel
theorem dX0_latestPut_20 : decode cX0_latestPut 20 = .ok (.aload_n 0, 1) := by decide +kernel
theorem dX0_latestPut_21 : decode cX0_latestPut 21 = .ok (.getfield 28, 3) := by decide +kernel
theorem dX0_latestPut_24 : decode cX0_latestPut 24 = .ok (.iload_n 2, 1) := by decide +kernel
theorem dX0_latestPut_25 : decode cX0_latestPut 25 = .ok (.iload_n 1, 1) := by decide +kernel
theorem dX0_latestPut_26 : decode cX0_latestPut 26 = .ok (.invokevirtual 139, 3) := by decide +kernel
theorem dX0_latestPut_29 : decode cX0_latestPut 29 = .ok (.ifCond .eq 26, 3) := by decide +kernel
theorem dX0_latestPut_32 : decode cX0_latestPut 32 = .ok (.aload_n 0, 1) := by decide +kernel
theorem dX0_latestPut_33 : decode cX0_latestPut 33 = .ok (.getfield 28, 3) := by decide +kernel
theorem dX0_latestPut_36 : decode cX0_latestPut 36 = .ok (.getfield 113, 3) := by decide +kernel
theorem dX0_latestPut_39 : decode cX0_latestPut 39 = .ok (.iload_n 2, 1) := by decide +kernel
theorem dX0_latestPut_40 : decode cX0_latestPut 40 = .ok (.iaload, 1) := by decide +kernel
theorem dX0_latestPut_41 : decode cX0_latestPut 41 = .ok (.iconst (-1), 1) := by decide +kernel
theorem dX0_latestPut_42 : decode cX0_latestPut 42 = .ok (.if_icmp .eq 13, 3) := by decide +kernel
theorem dX0_latestPut_45 : decode cX0_latestPut 45 = .ok (.aload_n 0, 1) := by decide +kernel
theorem dX0_latestPut_46 : decode cX0_latestPut 46 = .ok (.getfield 28, 3) := by decide +kernel
theorem dX0_latestPut_49 : decode cX0_latestPut 49 = .ok (.getfield 113, 3) := by decide +kernel
theorem dX0_latestPut_52 : decode cX0_latestPut 52 = .ok (.iload_n 2, 1) := by decide +kernel
theorem dX0_latestPut_53 : decode cX0_latestPut 53 = .ok (.iaload, 1) := by decide +kernel
theorem dX0_latestPut_54 : decode cX0_latestPut 54 = .ok (.ireturn, 1) := by decide +kernel
theorem dX0_latestPut_55 : decode cX0_latestPut 55 = .ok (.iinc 2 (-1), 3) := by decide +kernel
theorem dX0_latestPut_58 : decode cX0_latestPut 58 = .ok (.goto (-54), 3) := by decide +kernel
theorem dX0_latestPut_61 : decode cX0_latestPut 61 = .ok (.iconst (-1), 1) := by decide +kernel
theorem dX0_latestPut_62 : decode cX0_latestPut 62 = .ok (.ireturn, 1) := by decide +kernel
theorem dX0_bitsOf_0 : decode cX0_bitsOf 0 = .ok (.aload_n 0, 1) := by decide +kernel
theorem dX0_bitsOf_1 : decode cX0_bitsOf 1 = .ok (.iload_n 1, 1) := by decide +kernel
theorem dX0_bitsOf_2 : decode cX0_bitsOf 2 = .ok (.invokevirtual 122, 3) := by decide +kernel
theorem dX0_bitsOf_5 : decode cX0_bitsOf 5 = .ok (.ifCond .eq 7, 3) := by decide +kernel
theorem dX0_bitsOf_8 : decode cX0_bitsOf 8 = .ok (.iconst 1, 1) := by decide +kernel
theorem dX0_bitsOf_9 : decode cX0_bitsOf 9 = .ok (.goto 4, 3) := by decide +kernel
theorem dX0_bitsOf_12 : decode cX0_bitsOf 12 = .ok (.iconst 0, 1) := by decide +kernel
theorem dX0_bitsOf_13 : decode cX0_bitsOf 13 = .ok (.istore_n 2, 1) := by decide +kernel
theorem dX0_bitsOf_14 : decode cX0_bitsOf 14 = .ok (.aload_n 0, 1) := by decide +kernel
theorem dX0_bitsOf_15 : decode cX0_bitsOf 15 = .ok (.iload_n 1, 1) := by decide +kernel
theorem dX0_bitsOf_16 : decode cX0_bitsOf 16 = .ok (.iconst 0, 1) := by decide +kernel
theorem dX0_bitsOf_17 : decode cX0_bitsOf 17 = .ok (.invokevirtual 142, 3) := by decide +kernel
theorem dX0_bitsOf_20 : decode cX0_bitsOf 20 = .ok (.ifCond .eq 7, 3) := by decide +kernel
theorem dX0_bitsOf_23 : decode cX0_bitsOf 23 = .ok (.iload_n 2, 1) := by decide +kernel
theorem dX0_bitsOf_24 : decode cX0_bitsOf 24 = .ok (.iconst 2, 1) := by decide +kernel
theorem dX0_bitsOf_25 : decode cX0_bitsOf 25 = .ok (.ior, 1) := by decide +kernel
theorem dX0_bitsOf_26 : decode cX0_bitsOf 26 = .ok (.istore_n 2, 1) := by decide +kernel
theorem dX0_bitsOf_27 : decode cX0_bitsOf 27 = .ok (.aload_n 0, 1) := by decide +kernel
theorem dX0_bitsOf_28 : decode cX0_bitsOf 28 = .ok (.iload_n 1, 1) := by decide +kernel
theorem dX0_bitsOf_29 : decode cX0_bitsOf 29 = .ok (.invokevirtual 145, 3) := by decide +kernel
theorem dX0_bitsOf_32 : decode cX0_bitsOf 32 = .ok (.iconst (-1), 1) := by decide +kernel
theorem dX0_bitsOf_33 : decode cX0_bitsOf 33 = .ok (.if_icmp .eq 7, 3) := by decide +kernel
theorem dX0_bitsOf_36 : decode cX0_bitsOf 36 = .ok (.iload_n 2, 1) := by decide +kernel
theorem dX0_bitsOf_37 : decode cX0_bitsOf 37 = .ok (.iconst 4, 1) := by decide +kernel
theorem dX0_bitsOf_38 : decode cX0_bitsOf 38 = .ok (.ior, 1) := by decide +kernel
theorem dX0_bitsOf_39 : decode cX0_bitsOf 39 = .ok (.istore_n 2, 1) := by decide +kernel
theorem dX0_bitsOf_40 : decode cX0_bitsOf 40 = .ok (.aload_n 0, 1) := by decide +kernel
theorem dX0_bitsOf_41 : decode cX0_bitsOf 41 = .ok (.iload_n 1, 1) := by decide +kernel
theorem dX0_bitsOf_42 : decode cX0_bitsOf 42 = .ok (.invokevirtual 122, 3) := by decide +kernel
theorem dX0_bitsOf_45 : decode cX0_bitsOf 45 = .ok (.ifCond .eq 40, 3) := by decide +kernel
theorem dX0_bitsOf_48 : decode cX0_bitsOf 48 = .ok (.aload_n 0, 1) := by decide +kernel
theorem dX0_bitsOf_49 : decode cX0_bitsOf 49 = .ok (.getfield 12, 3) := by decide +kernel
theorem dX0_bitsOf_52 : decode cX0_bitsOf 52 = .ok (.getfield 132, 3) := by decide +kernel
theorem dX0_bitsOf_55 : decode cX0_bitsOf 55 = .ok (.aload_n 0, 1) := by decide +kernel
theorem dX0_bitsOf_56 : decode cX0_bitsOf 56 = .ok (.getfield 28, 3) := by decide +kernel
theorem dX0_bitsOf_59 : decode cX0_bitsOf 59 = .ok (.getfield 119, 3) := by decide +kernel
theorem dX0_bitsOf_62 : decode cX0_bitsOf 62 = .ok (.iload_n 1, 1) := by decide +kernel
theorem dX0_bitsOf_63 : decode cX0_bitsOf 63 = .ok (.iaload, 1) := by decide +kernel
theorem dX0_bitsOf_64 : decode cX0_bitsOf 64 = .ok (.iaload, 1) := by decide +kernel
theorem dX0_bitsOf_65 : decode cX0_bitsOf 65 = .ok (.aload_n 0, 1) := by decide +kernel
theorem dX0_bitsOf_66 : decode cX0_bitsOf 66 = .ok (.getfield 28, 3) := by decide +kernel
theorem dX0_bitsOf_69 : decode cX0_bitsOf 69 = .ok (.getfield 100, 3) := by decide +kernel
theorem dX0_bitsOf_72 : decode cX0_bitsOf 72 = .ok (.iload_n 1, 1) := by decide +kernel
theorem dX0_bitsOf_73 : decode cX0_bitsOf 73 = .ok (.iaload, 1) := by decide +kernel
theorem dX0_bitsOf_74 : decode cX0_bitsOf 74 = .ok (.invokestatic 128, 3) := by decide +kernel
theorem dX0_bitsOf_77 : decode cX0_bitsOf 77 = .ok (.ifCond .eq 8, 3) := by decide +kernel
theorem dX0_bitsOf_80 : decode cX0_bitsOf 80 = .ok (.iload_n 2, 1) := by decide +kernel
theorem dX0_bitsOf_81 : decode cX0_bitsOf 81 = .ok (.bipush 8, 2) := by decide +kernel
theorem dX0_bitsOf_83 : decode cX0_bitsOf 83 = .ok (.ior, 1) := by decide +kernel
theorem dX0_bitsOf_84 : decode cX0_bitsOf 84 = .ok (.istore_n 2, 1) := by decide +kernel
theorem dX0_bitsOf_85 : decode cX0_bitsOf 85 = .ok (.aload_n 0, 1) := by decide +kernel
theorem dX0_bitsOf_86 : decode cX0_bitsOf 86 = .ok (.iload_n 1, 1) := by decide +kernel
theorem dX0_bitsOf_87 : decode cX0_bitsOf 87 = .ok (.invokevirtual 148, 3) := by decide +kernel
theorem dX0_bitsOf_90 : decode cX0_bitsOf 90 = .ok (.ifCond .eq 8, 3) := by decide +kernel
theorem dX0_bitsOf_93 : decode cX0_bitsOf 93 = .ok (.iload_n 2, 1) := by decide +kernel
theorem dX0_bitsOf_94 : decode cX0_bitsOf 94 = .ok (.bipush 16, 2) := by decide +kernel
theorem dX0_bitsOf_96 : decode cX0_bitsOf 96 = .ok (.ior, 1) := by decide +kernel
theorem dX0_bitsOf_97 : decode cX0_bitsOf 97 = .ok (.istore_n 2, 1) := by decide +kernel
theorem dX0_bitsOf_98 : decode cX0_bitsOf 98 = .ok (.aload_n 0, 1) := by decide +kernel
theorem dX0_bitsOf_99 : decode cX0_bitsOf 99 = .ok (.iload_n 1, 1) := by decide +kernel
theorem dX0_bitsOf_100 : decode cX0_bitsOf 100 = .ok (.invokevirtual 151, 3) := by decide +kernel
theorem dX0_bitsOf_103 : decode cX0_bitsOf 103 = .ok (.ifCond .eq 8, 3) := by decide +kernel
theorem dX0_bitsOf_106 : decode cX0_bitsOf 106 = .ok (.iload_n 2, 1) := by decide +kernel
theorem dX0_bitsOf_107 : decode cX0_bitsOf 107 = .ok (.bipush 32, 2) := by decide +kernel
theorem dX0_bitsOf_109 : decode cX0_bitsOf 109 = .ok (.ior, 1) := by decide +kernel
theorem dX0_bitsOf_110 : decode cX0_bitsOf 110 = .ok (.istore_n 2, 1) := by decide +kernel
theorem dX0_bitsOf_111 : decode cX0_bitsOf 111 = .ok (.iload_n 2, 1) := by decide +kernel
theorem dX0_bitsOf_112 : decode cX0_bitsOf 112 = .ok (.bipush 30, 2) := by decide +kernel
theorem dX0_bitsOf_114 : decode cX0_bitsOf 114 = .ok (.iand, 1) := by decide +kernel
theorem dX0_bitsOf_115 : decode cX0_bitsOf 115 = .ok (.iconst 2, 1) := by decide +kernel
theorem dX0_bitsOf_116 : decode cX0_bitsOf 116 = .ok (.if_icmp .ne 10, 3) := by decide +kernel
theorem dX0_bitsOf_119 : decode cX0_bitsOf 119 = .ok (.iload_n 2, 1) := by decide +kernel
theorem dX0_bitsOf_120 : decode cX0_bitsOf 120 = .ok (.bipush 64, 2) := by decide +kernel
theorem dX0_bitsOf_122 : decode cX0_bitsOf 122 = .ok (.ior, 1) := by decide +kernel
theorem dX0_bitsOf_123 : decode cX0_bitsOf 123 = .ok (.goto 4, 3) := by decide +kernel
theorem dX0_bitsOf_126 : decode cX0_bitsOf 126 = .ok (.iload_n 2, 1) := by decide +kernel
theorem dX0_bitsOf_127 : decode cX0_bitsOf 127 = .ok (.ireturn, 1) := by decide +kernel
theorem dX0_firstSaid_0 : decode cX0_firstSaid 0 = .ok (.iconst 0, 1) := by decide +kernel
theorem dX0_firstSaid_1 : decode cX0_firstSaid 1 = .ok (.istore_n 2, 1) := by decide +kernel
theorem dX0_firstSaid_2 : decode cX0_firstSaid 2 = .ok (.iload_n 2, 1) := by decide +kernel
theorem dX0_firstSaid_3 : decode cX0_firstSaid 3 = .ok (.aload_n 0, 1) := by decide +kernel
theorem dX0_firstSaid_4 : decode cX0_firstSaid 4 = .ok (.getfield 28, 3) := by decide +kernel
theorem dX0_firstSaid_7 : decode cX0_firstSaid 7 = .ok (.getfield 76, 3) := by decide +kernel
theorem dX0_firstSaid_10 : decode cX0_firstSaid 10 = .ok (.if_icmp .ge 70, 3) := by decide +kernel
theorem dX0_firstSaid_13 : decode cX0_firstSaid 13 = .ok (.aload_n 0, 1) := by decide +kernel
theorem dX0_firstSaid_14 : decode cX0_firstSaid 14 = .ok (.iload_n 2, 1) := by decide +kernel
theorem dX0_firstSaid_15 : decode cX0_firstSaid 15 = .ok (.aload_n 0, 1) := by decide +kernel
theorem dX0_firstSaid_16 : decode cX0_firstSaid 16 = .ok (.getfield 35, 3) := by decide +kernel
theorem dX0_firstSaid_19 : decode cX0_firstSaid 19 = .ok (.getfield 154, 3) := by decide +kernel
theorem dX0_firstSaid_22 : decode cX0_firstSaid 22 = .ok (.iload_n 1, 1) := by decide +kernel
theorem dX0_firstSaid_23 : decode cX0_firstSaid 23 = .ok (.iaload, 1) := by decide +kernel
theorem dX0_firstSaid_24 : decode cX0_firstSaid 24 = .ok (.invokevirtual 155, 3) := by decide +kernel
theorem dX0_firstSaid_27 : decode cX0_firstSaid 27 = .ok (.ifCond .eq 47, 3) := by decide +kernel
theorem dX0_firstSaid_30 : decode cX0_firstSaid 30 = .ok (.aload_n 0, 1) := by decide +kernel
theorem dX0_firstSaid_31 : decode cX0_firstSaid 31 = .ok (.getfield 28, 3) := by decide +kernel
theorem dX0_firstSaid_34 : decode cX0_firstSaid 34 = .ok (.getfield 119, 3) := by decide +kernel
theorem dX0_firstSaid_37 : decode cX0_firstSaid 37 = .ok (.iload_n 2, 1) := by decide +kernel
theorem dX0_firstSaid_38 : decode cX0_firstSaid 38 = .ok (.iaload, 1) := by decide +kernel
theorem dX0_firstSaid_39 : decode cX0_firstSaid 39 = .ok (.aload_n 0, 1) := by decide +kernel
theorem dX0_firstSaid_40 : decode cX0_firstSaid 40 = .ok (.getfield 35, 3) := by decide +kernel
theorem dX0_firstSaid_43 : decode cX0_firstSaid 43 = .ok (.getfield 158, 3) := by decide +kernel
theorem dX0_firstSaid_46 : decode cX0_firstSaid 46 = .ok (.iload_n 1, 1) := by decide +kernel
theorem dX0_firstSaid_47 : decode cX0_firstSaid 47 = .ok (.iaload, 1) := by decide +kernel
theorem dX0_firstSaid_48 : decode cX0_firstSaid 48 = .ok (.if_icmp .ne 26, 3) := by decide +kernel
theorem dX0_firstSaid_51 : decode cX0_firstSaid 51 = .ok (.aload_n 0, 1) := by decide +kernel
theorem dX0_firstSaid_52 : decode cX0_firstSaid 52 = .ok (.getfield 28, 3) := by decide +kernel
theorem dX0_firstSaid_55 : decode cX0_firstSaid 55 = .ok (.getfield 113, 3) := by decide +kernel
theorem dX0_firstSaid_58 : decode cX0_firstSaid 58 = .ok (.iload_n 2, 1) := by decide +kernel
theorem dX0_firstSaid_59 : decode cX0_firstSaid 59 = .ok (.iaload, 1) := by decide +kernel
theorem dX0_firstSaid_60 : decode cX0_firstSaid 60 = .ok (.aload_n 0, 1) := by decide +kernel
theorem dX0_firstSaid_61 : decode cX0_firstSaid 61 = .ok (.getfield 35, 3) := by decide +kernel
theorem dX0_firstSaid_64 : decode cX0_firstSaid 64 = .ok (.getfield 159, 3) := by decide +kernel
theorem dX0_firstSaid_67 : decode cX0_firstSaid 67 = .ok (.iload_n 1, 1) := by decide +kernel
theorem dX0_firstSaid_68 : decode cX0_firstSaid 68 = .ok (.iaload, 1) := by decide +kernel
theorem dX0_firstSaid_69 : decode cX0_firstSaid 69 = .ok (.if_icmp .ne 5, 3) := by decide +kernel
theorem dX0_firstSaid_72 : decode cX0_firstSaid 72 = .ok (.iload_n 2, 1) := by decide +kernel
theorem dX0_firstSaid_73 : decode cX0_firstSaid 73 = .ok (.ireturn, 1) := by decide +kernel
theorem dX0_firstSaid_74 : decode cX0_firstSaid 74 = .ok (.iinc 2 1, 3) := by decide +kernel
theorem dX0_firstSaid_77 : decode cX0_firstSaid 77 = .ok (.goto (-75), 3) := by decide +kernel
theorem dX0_firstSaid_80 : decode cX0_firstSaid 80 = .ok (.iconst (-1), 1) := by decide +kernel
theorem dX0_firstSaid_81 : decode cX0_firstSaid 81 = .ok (.ireturn, 1) := by decide +kernel
theorem dX0_pageState_0 : decode cX0_pageState 0 = .ok (.aload_n 0, 1) := by decide +kernel
theorem dX0_pageState_1 : decode cX0_pageState 1 = .ok (.aload_n 0, 1) := by decide +kernel
theorem dX0_pageState_2 : decode cX0_pageState 2 = .ok (.getfield 35, 3) := by decide +kernel
theorem dX0_pageState_5 : decode cX0_pageState 5 = .ok (.getfield 154, 3) := by decide +kernel
theorem dX0_pageState_8 : decode cX0_pageState 8 = .ok (.iload_n 1, 1) := by decide +kernel
theorem dX0_pageState_9 : decode cX0_pageState 9 = .ok (.iaload, 1) := by decide +kernel
theorem dX0_pageState_10 : decode cX0_pageState 10 = .ok (.aload_n 0, 1) := by decide +kernel
theorem dX0_pageState_11 : decode cX0_pageState 11 = .ok (.getfield 35, 3) := by decide +kernel
theorem dX0_pageState_14 : decode cX0_pageState 14 = .ok (.getfield 158, 3) := by decide +kernel
theorem dX0_pageState_17 : decode cX0_pageState 17 = .ok (.iload_n 1, 1) := by decide +kernel
theorem dX0_pageState_18 : decode cX0_pageState 18 = .ok (.iaload, 1) := by decide +kernel
theorem dX0_pageState_19 : decode cX0_pageState 19 = .ok (.invokevirtual 160, 3) := by decide +kernel
theorem dX0_pageState_22 : decode cX0_pageState 22 = .ok (.istore_n 2, 1) := by decide +kernel
theorem dX0_pageState_23 : decode cX0_pageState 23 = .ok (.iload_n 2, 1) := by decide +kernel
theorem dX0_pageState_24 : decode cX0_pageState 24 = .ok (.iconst (-1), 1) := by decide +kernel
theorem dX0_pageState_25 : decode cX0_pageState 25 = .ok (.if_icmp .ne 5, 3) := by decide +kernel
theorem dX0_pageState_28 : decode cX0_pageState 28 = .ok (.iconst 3, 1) := by decide +kernel
theorem dX0_pageState_29 : decode cX0_pageState 29 = .ok (.ireturn, 1) := by decide +kernel
theorem dX0_pageState_30 : decode cX0_pageState 30 = .ok (.iload_n 2, 1) := by decide +kernel
theorem dX0_pageState_31 : decode cX0_pageState 31 = .ok (.aload_n 0, 1) := by decide +kernel
theorem dX0_pageState_32 : decode cX0_pageState 32 = .ok (.getfield 35, 3) := by decide +kernel
theorem dX0_pageState_35 : decode cX0_pageState 35 = .ok (.getfield 159, 3) := by decide +kernel
theorem dX0_pageState_38 : decode cX0_pageState 38 = .ok (.iload_n 1, 1) := by decide +kernel
theorem dX0_pageState_39 : decode cX0_pageState 39 = .ok (.iaload, 1) := by decide +kernel
theorem dX0_pageState_40 : decode cX0_pageState 40 = .ok (.if_icmp .ne 5, 3) := by decide +kernel
theorem dX0_pageState_43 : decode cX0_pageState 43 = .ok (.iconst 0, 1) := by decide +kernel
theorem dX0_pageState_44 : decode cX0_pageState 44 = .ok (.ireturn, 1) := by decide +kernel
theorem dX0_pageState_45 : decode cX0_pageState 45 = .ok (.aload_n 0, 1) := by decide +kernel
theorem dX0_pageState_46 : decode cX0_pageState 46 = .ok (.iload_n 1, 1) := by decide +kernel
theorem dX0_pageState_47 : decode cX0_pageState 47 = .ok (.invokevirtual 163, 3) := by decide +kernel
theorem dX0_pageState_50 : decode cX0_pageState 50 = .ok (.iconst (-1), 1) := by decide +kernel
theorem dX0_pageState_51 : decode cX0_pageState 51 = .ok (.if_icmp .ne 7, 3) := by decide +kernel
theorem dX0_pageState_54 : decode cX0_pageState 54 = .ok (.iconst 2, 1) := by decide +kernel
theorem dX0_pageState_55 : decode cX0_pageState 55 = .ok (.goto 4, 3) := by decide +kernel
theorem dX0_pageState_58 : decode cX0_pageState 58 = .ok (.iconst 1, 1) := by decide +kernel
theorem dX0_pageState_59 : decode cX0_pageState 59 = .ok (.ireturn, 1) := by decide +kernel
theorem dX0_leftOut_0 : decode cX0_leftOut 0 = .ok (.iconst 0, 1) := by decide +kernel
theorem dX0_leftOut_1 : decode cX0_leftOut 1 = .ok (.istore_n 2, 1) := by decide +kernel
theorem dX0_leftOut_2 : decode cX0_leftOut 2 = .ok (.iconst 0, 1) := by decide +kernel
theorem dX0_leftOut_3 : decode cX0_leftOut 3 = .ok (.istore_n 3, 1) := by decide +kernel
theorem dX0_leftOut_4 : decode cX0_leftOut 4 = .ok (.iload_n 3, 1) := by decide +kernel
theorem dX0_leftOut_5 : decode cX0_leftOut 5 = .ok (.aload_n 0, 1) := by decide +kernel
theorem dX0_leftOut_6 : decode cX0_leftOut 6 = .ok (.getfield 28, 3) := by decide +kernel
theorem dX0_leftOut_9 : decode cX0_leftOut 9 = .ok (.getfield 76, 3) := by decide +kernel
theorem dX0_leftOut_12 : decode cX0_leftOut 12 = .ok (.if_icmp .ge 58, 3) := by decide +kernel
theorem dX0_leftOut_15 : decode cX0_leftOut 15 = .ok (.aload_n 0, 1) := by decide +kernel
theorem dX0_leftOut_16 : decode cX0_leftOut 16 = .ok (.iload_n 3, 1) := by decide +kernel
theorem dX0_leftOut_17 : decode cX0_leftOut 17 = .ok (.iload_n 1, 1) := by decide +kernel
theorem dX0_leftOut_18 : decode cX0_leftOut 18 = .ok (.invokevirtual 155, 3) := by decide +kernel
theorem dX0_leftOut_21 : decode cX0_leftOut 21 = .ok (.ifCond .eq 43, 3) := by decide +kernel
theorem dX0_leftOut_24 : decode cX0_leftOut 24 = .ok (.aload_n 0, 1) := by decide +kernel
theorem dX0_leftOut_25 : decode cX0_leftOut 25 = .ok (.iload_n 3, 1) := by decide +kernel
theorem dX0_leftOut_26 : decode cX0_leftOut 26 = .ok (.invokevirtual 122, 3) := by decide +kernel
theorem dX0_leftOut_29 : decode cX0_leftOut 29 = .ok (.ifCond .ne 35, 3) := by decide +kernel
theorem dX0_leftOut_32 : decode cX0_leftOut 32 = .ok (.aload_n 0, 1) := by decide +kernel
theorem dX0_leftOut_33 : decode cX0_leftOut 33 = .ok (.getfield 35, 3) := by decide +kernel
theorem dX0_leftOut_36 : decode cX0_leftOut 36 = .ok (.iload_n 1, 1) := by decide +kernel
theorem dX0_leftOut_37 : decode cX0_leftOut 37 = .ok (.aload_n 0, 1) := by decide +kernel
theorem dX0_leftOut_38 : decode cX0_leftOut 38 = .ok (.getfield 28, 3) := by decide +kernel
theorem dX0_leftOut_41 : decode cX0_leftOut 41 = .ok (.getfield 119, 3) := by decide +kernel
theorem dX0_leftOut_44 : decode cX0_leftOut 44 = .ok (.iload_n 3, 1) := by decide +kernel
theorem dX0_leftOut_45 : decode cX0_leftOut 45 = .ok (.iaload, 1) := by decide +kernel
theorem dX0_leftOut_46 : decode cX0_leftOut 46 = .ok (.aload_n 0, 1) := by decide +kernel
theorem dX0_leftOut_47 : decode cX0_leftOut 47 = .ok (.getfield 28, 3) := by decide +kernel
theorem dX0_leftOut_50 : decode cX0_leftOut 50 = .ok (.getfield 113, 3) := by decide +kernel
theorem dX0_leftOut_53 : decode cX0_leftOut 53 = .ok (.iload_n 3, 1) := by decide +kernel
theorem dX0_leftOut_54 : decode cX0_leftOut 54 = .ok (.iaload, 1) := by decide +kernel
theorem dX0_leftOut_55 : decode cX0_leftOut 55 = .ok (.invokevirtual 166, 3) := by decide +kernel
theorem dX0_leftOut_58 : decode cX0_leftOut 58 = .ok (.ifCond .ne 6, 3) := by decide +kernel
theorem dX0_leftOut_61 : decode cX0_leftOut 61 = .ok (.iinc 2 1, 3) := by decide +kernel
theorem dX0_leftOut_64 : decode cX0_leftOut 64 = .ok (.iinc 3 1, 3) := by decide +kernel
theorem dX0_leftOut_67 : decode cX0_leftOut 67 = .ok (.goto (-63), 3) := by decide +kernel
theorem dX0_leftOut_70 : decode cX0_leftOut 70 = .ok (.iload_n 2, 1) := by decide +kernel
theorem dX0_leftOut_71 : decode cX0_leftOut 71 = .ok (.ireturn, 1) := by decide +kernel
theorem dX0_storyValue_0 : decode cX0_storyValue 0 = .ok (.aload_n 0, 1) := by decide +kernel
theorem dX0_storyValue_1 : decode cX0_storyValue 1 = .ok (.getfield 28, 3) := by decide +kernel
theorem dX0_storyValue_4 : decode cX0_storyValue 4 = .ok (.getfield 76, 3) := by decide +kernel
theorem dX0_storyValue_7 : decode cX0_storyValue 7 = .ok (.iconst 1, 1) := by decide +kernel
theorem dX0_storyValue_8 : decode cX0_storyValue 8 = .ok (.isub, 1) := by decide +kernel
theorem dX0_storyValue_9 : decode cX0_storyValue 9 = .ok (.istore_n 3, 1) := by decide +kernel
theorem dX0_storyValue_10 : decode cX0_storyValue 10 = .ok (.iload_n 3, 1) := by decide +kernel
theorem dX0_storyValue_11 : decode cX0_storyValue 11 = .ok (.ifCond .lt 41, 3) := by decide +kernel
theorem dX0_storyValue_14 : decode cX0_storyValue 14 = .ok (.aload_n 0, 1) := by decide +kernel
theorem dX0_storyValue_15 : decode cX0_storyValue 15 = .ok (.iload_n 3, 1) := by decide +kernel
theorem dX0_storyValue_16 : decode cX0_storyValue 16 = .ok (.iload_n 1, 1) := by decide +kernel
theorem dX0_storyValue_17 : decode cX0_storyValue 17 = .ok (.invokevirtual 155, 3) := by decide +kernel
theorem dX0_storyValue_20 : decode cX0_storyValue 20 = .ok (.ifCond .eq 26, 3) := by decide +kernel
theorem dX0_storyValue_23 : decode cX0_storyValue 23 = .ok (.aload_n 0, 1) := by decide +kernel
theorem dX0_storyValue_24 : decode cX0_storyValue 24 = .ok (.getfield 28, 3) := by decide +kernel
theorem dX0_storyValue_27 : decode cX0_storyValue 27 = .ok (.getfield 119, 3) := by decide +kernel
theorem dX0_storyValue_30 : decode cX0_storyValue 30 = .ok (.iload_n 3, 1) := by decide +kernel
theorem dX0_storyValue_31 : decode cX0_storyValue 31 = .ok (.iaload, 1) := by decide +kernel
theorem dX0_storyValue_32 : decode cX0_storyValue 32 = .ok (.iload_n 2, 1) := by decide +kernel
theorem dX0_storyValue_33 : decode cX0_storyValue 33 = .ok (.if_icmp .ne 13, 3) := by decide +kernel
theorem dX0_storyValue_36 : decode cX0_storyValue 36 = .ok (.aload_n 0, 1) := by decide +kernel
theorem dX0_storyValue_37 : decode cX0_storyValue 37 = .ok (.getfield 28, 3) := by decide +kernel
theorem dX0_storyValue_40 : decode cX0_storyValue 40 = .ok (.getfield 113, 3) := by decide +kernel
theorem dX0_storyValue_43 : decode cX0_storyValue 43 = .ok (.iload_n 3, 1) := by decide +kernel
theorem dX0_storyValue_44 : decode cX0_storyValue 44 = .ok (.iaload, 1) := by decide +kernel
theorem dX0_storyValue_45 : decode cX0_storyValue 45 = .ok (.ireturn, 1) := by decide +kernel
theorem dX0_storyValue_46 : decode cX0_storyValue 46 = .ok (.iinc 3 (-1), 3) := by decide +kernel
theorem dX0_storyValue_49 : decode cX0_storyValue 49 = .ok (.goto (-39), 3) := by decide +kernel
theorem dX0_storyValue_52 : decode cX0_storyValue 52 = .ok (.iconst (-1), 1) := by decide +kernel
theorem dX0_storyValue_53 : decode cX0_storyValue 53 = .ok (.ireturn, 1) := by decide +kernel
theorem dX0_clashes_0 : decode cX0_clashes 0 = .ok (.iconst 0, 1) := by decide +kernel
theorem dX0_clashes_1 : decode cX0_clashes 1 = .ok (.istore_n 3, 1) := by decide +kernel
theorem dX0_clashes_2 : decode cX0_clashes 2 = .ok (.iconst 0, 1) := by decide +kernel
theorem dX0_clashes_3 : decode cX0_clashes 3 = .ok (.istore 4, 2) := by decide +kernel
theorem dX0_clashes_5 : decode cX0_clashes 5 = .ok (.iload 4, 2) := by decide +kernel
theorem dX0_clashes_7 : decode cX0_clashes 7 = .ok (.aload_n 0, 1) := by decide +kernel
theorem dX0_clashes_8 : decode cX0_clashes 8 = .ok (.getfield 12, 3) := by decide +kernel
theorem dX0_clashes_11 : decode cX0_clashes 11 = .ok (.getfield 72, 3) := by decide +kernel
theorem dX0_clashes_14 : decode cX0_clashes 14 = .ok (.if_icmp .ge 49, 3) := by decide +kernel
theorem dX0_clashes_17 : decode cX0_clashes 17 = .ok (.aload_n 0, 1) := by decide +kernel
theorem dX0_clashes_18 : decode cX0_clashes 18 = .ok (.iload_n 1, 1) := by decide +kernel
theorem dX0_clashes_19 : decode cX0_clashes 19 = .ok (.iload 4, 2) := by decide +kernel
theorem dX0_clashes_21 : decode cX0_clashes 21 = .ok (.invokevirtual 160, 3) := by decide +kernel
theorem dX0_clashes_24 : decode cX0_clashes 24 = .ok (.istore 5, 2) := by decide +kernel
theorem dX0_clashes_26 : decode cX0_clashes 26 = .ok (.aload_n 0, 1) := by decide +kernel
theorem dX0_clashes_27 : decode cX0_clashes 27 = .ok (.iload_n 2, 1) := by decide +kernel
theorem dX0_clashes_28 : decode cX0_clashes 28 = .ok (.iload 4, 2) := by decide +kernel
theorem dX0_clashes_30 : decode cX0_clashes 30 = .ok (.invokevirtual 160, 3) := by decide +kernel
theorem dX0_clashes_33 : decode cX0_clashes 33 = .ok (.istore 6, 2) := by decide +kernel
theorem dX0_clashes_35 : decode cX0_clashes 35 = .ok (.iload 5, 2) := by decide +kernel
theorem dX0_clashes_37 : decode cX0_clashes 37 = .ok (.iconst (-1), 1) := by decide +kernel
theorem dX0_clashes_38 : decode cX0_clashes 38 = .ok (.if_icmp .eq 19, 3) := by decide +kernel
theorem dX0_clashes_41 : decode cX0_clashes 41 = .ok (.iload 6, 2) := by decide +kernel
theorem dX0_clashes_43 : decode cX0_clashes 43 = .ok (.iconst (-1), 1) := by decide +kernel
theorem dX0_clashes_44 : decode cX0_clashes 44 = .ok (.if_icmp .eq 13, 3) := by decide +kernel
theorem dX0_clashes_47 : decode cX0_clashes 47 = .ok (.iload 5, 2) := by decide +kernel
theorem dX0_clashes_49 : decode cX0_clashes 49 = .ok (.iload 6, 2) := by decide +kernel
theorem dX0_clashes_51 : decode cX0_clashes 51 = .ok (.if_icmp .eq 6, 3) := by decide +kernel
theorem dX0_clashes_54 : decode cX0_clashes 54 = .ok (.iinc 3 1, 3) := by decide +kernel
theorem dX0_clashes_57 : decode cX0_clashes 57 = .ok (.iinc 4 1, 3) := by decide +kernel
theorem dX0_clashes_60 : decode cX0_clashes 60 = .ok (.goto (-55), 3) := by decide +kernel
theorem dX0_clashes_63 : decode cX0_clashes 63 = .ok (.iload_n 3, 1) := by decide +kernel
theorem dX0_clashes_64 : decode cX0_clashes 64 = .ok (.ireturn, 1) := by decide +kernel
theorem dX0_findFoes_0 : decode cX0_findFoes 0 = .ok (.iconst 0, 1) := by decide +kernel
theorem dX0_findFoes_1 : decode cX0_findFoes 1 = .ok (.istore_n 1, 1) := by decide +kernel
theorem dX0_findFoes_2 : decode cX0_findFoes 2 = .ok (.iload_n 1, 1) := by decide +kernel
theorem dX0_findFoes_3 : decode cX0_findFoes 3 = .ok (.aload_n 0, 1) := by decide +kernel
theorem dX0_findFoes_4 : decode cX0_findFoes 4 = .ok (.getfield 21, 3) := by decide +kernel
theorem dX0_findFoes_7 : decode cX0_findFoes 7 = .ok (.getfield 75, 3) := by decide +kernel
theorem dX0_findFoes_10 : decode cX0_findFoes 10 = .ok (.if_icmp .ge 61, 3) := by decide +kernel
theorem dX0_findFoes_13 : decode cX0_findFoes 13 = .ok (.aload_n 0, 1) := by decide +kernel
theorem dX0_findFoes_14 : decode cX0_findFoes 14 = .ok (.getfield 65, 3) := by decide +kernel
theorem dX0_findFoes_17 : decode cX0_findFoes 17 = .ok (.iload_n 1, 1) := by decide +kernel
theorem dX0_findFoes_18 : decode cX0_findFoes 18 = .ok (.iconst 0, 1) := by decide +kernel
theorem dX0_findFoes_19 : decode cX0_findFoes 19 = .ok (.iastore, 1) := by decide +kernel
theorem dX0_findFoes_20 : decode cX0_findFoes 20 = .ok (.iconst 0, 1) := by decide +kernel
theorem dX0_findFoes_21 : decode cX0_findFoes 21 = .ok (.istore_n 2, 1) := by decide +kernel
theorem dX0_findFoes_22 : decode cX0_findFoes 22 = .ok (.iload_n 2, 1) := by decide +kernel
theorem dX0_findFoes_23 : decode cX0_findFoes 23 = .ok (.aload_n 0, 1) := by decide +kernel
theorem dX0_findFoes_24 : decode cX0_findFoes 24 = .ok (.getfield 21, 3) := by decide +kernel
theorem dX0_findFoes_27 : decode cX0_findFoes 27 = .ok (.getfield 75, 3) := by decide +kernel
theorem dX0_findFoes_30 : decode cX0_findFoes 30 = .ok (.if_icmp .ge 35, 3) := by decide +kernel
theorem dX0_findFoes_33 : decode cX0_findFoes 33 = .ok (.iload_n 1, 1) := by decide +kernel
theorem dX0_findFoes_34 : decode cX0_findFoes 34 = .ok (.iload_n 2, 1) := by decide +kernel
theorem dX0_findFoes_35 : decode cX0_findFoes 35 = .ok (.if_icmp .eq 24, 3) := by decide +kernel
theorem dX0_findFoes_38 : decode cX0_findFoes 38 = .ok (.aload_n 0, 1) := by decide +kernel
theorem dX0_findFoes_39 : decode cX0_findFoes 39 = .ok (.iload_n 1, 1) := by decide +kernel
theorem dX0_findFoes_40 : decode cX0_findFoes 40 = .ok (.iload_n 2, 1) := by decide +kernel
theorem dX0_findFoes_41 : decode cX0_findFoes 41 = .ok (.invokevirtual 170, 3) := by decide +kernel
theorem dX0_findFoes_44 : decode cX0_findFoes 44 = .ok (.ifCond .le 15, 3) := by decide +kernel
theorem dX0_findFoes_47 : decode cX0_findFoes 47 = .ok (.aload_n 0, 1) := by decide +kernel
theorem dX0_findFoes_48 : decode cX0_findFoes 48 = .ok (.getfield 65, 3) := by decide +kernel
theorem dX0_findFoes_51 : decode cX0_findFoes 51 = .ok (.iload_n 1, 1) := by decide +kernel
theorem dX0_findFoes_52 : decode cX0_findFoes 52 = .ok (.dup2, 1) := by decide +kernel
theorem dX0_findFoes_53 : decode cX0_findFoes 53 = .ok (.iaload, 1) := by decide +kernel
theorem dX0_findFoes_54 : decode cX0_findFoes 54 = .ok (.iconst 1, 1) := by decide +kernel
theorem dX0_findFoes_55 : decode cX0_findFoes 55 = .ok (.iload_n 2, 1) := by decide +kernel
theorem dX0_findFoes_56 : decode cX0_findFoes 56 = .ok (.ishl, 1) := by decide +kernel
theorem dX0_findFoes_57 : decode cX0_findFoes 57 = .ok (.ior, 1) := by decide +kernel
theorem dX0_findFoes_58 : decode cX0_findFoes 58 = .ok (.iastore, 1) := by decide +kernel
theorem dX0_findFoes_59 : decode cX0_findFoes 59 = .ok (.iinc 2 1, 3) := by decide +kernel
theorem dX0_findFoes_62 : decode cX0_findFoes 62 = .ok (.goto (-40), 3) := by decide +kernel
theorem dX0_findFoes_65 : decode cX0_findFoes 65 = .ok (.iinc 1 1, 3) := by decide +kernel
theorem dX0_findFoes_68 : decode cX0_findFoes 68 = .ok (.goto (-66), 3) := by decide +kernel
theorem dX0_findFoes_71 : decode cX0_findFoes 71 = .ok (.return_, 1) := by decide +kernel
theorem dX0_goTogether_0 : decode cX0_goTogether 0 = .ok (.iconst 0, 1) := by decide +kernel
theorem dX0_goTogether_1 : decode cX0_goTogether 1 = .ok (.istore_n 2, 1) := by decide +kernel
theorem dX0_goTogether_2 : decode cX0_goTogether 2 = .ok (.iload_n 2, 1) := by decide +kernel
theorem dX0_goTogether_3 : decode cX0_goTogether 3 = .ok (.aload_n 0, 1) := by decide +kernel
theorem dX0_goTogether_4 : decode cX0_goTogether 4 = .ok (.getfield 21, 3) := by decide +kernel
theorem dX0_goTogether_7 : decode cX0_goTogether 7 = .ok (.getfield 75, 3) := by decide +kernel
theorem dX0_goTogether_10 : decode cX0_goTogether 10 = .ok (.if_icmp .ge 30, 3) := by decide +kernel
theorem dX0_goTogether_13 : decode cX0_goTogether 13 = .ok (.iload_n 1, 1) := by decide +kernel
theorem dX0_goTogether_14 : decode cX0_goTogether 14 = .ok (.iload_n 2, 1) := by decide +kernel
theorem dX0_goTogether_15 : decode cX0_goTogether 15 = .ok (.invokestatic 173, 3) := by decide +kernel
theorem dX0_goTogether_18 : decode cX0_goTogether 18 = .ok (.ifCond .eq 16, 3) := by decide +kernel
theorem dX0_goTogether_21 : decode cX0_goTogether 21 = .ok (.iload_n 1, 1) := by decide +kernel
theorem dX0_goTogether_22 : decode cX0_goTogether 22 = .ok (.aload_n 0, 1) := by decide +kernel
theorem dX0_goTogether_23 : decode cX0_goTogether 23 = .ok (.getfield 65, 3) := by decide +kernel
theorem dX0_goTogether_26 : decode cX0_goTogether 26 = .ok (.iload_n 2, 1) := by decide +kernel
theorem dX0_goTogether_27 : decode cX0_goTogether 27 = .ok (.iaload, 1) := by decide +kernel
theorem dX0_goTogether_28 : decode cX0_goTogether 28 = .ok (.iand, 1) := by decide +kernel
theorem dX0_goTogether_29 : decode cX0_goTogether 29 = .ok (.ifCond .eq 5, 3) := by decide +kernel
theorem dX0_goTogether_32 : decode cX0_goTogether 32 = .ok (.iconst 0, 1) := by decide +kernel
theorem dX0_goTogether_33 : decode cX0_goTogether 33 = .ok (.ireturn, 1) := by decide +kernel
theorem dX0_goTogether_34 : decode cX0_goTogether 34 = .ok (.iinc 2 1, 3) := by decide +kernel
theorem dX0_goTogether_37 : decode cX0_goTogether 37 = .ok (.goto (-35), 3) := by decide +kernel
theorem dX0_goTogether_40 : decode cX0_goTogether 40 = .ok (.iconst 1, 1) := by decide +kernel
theorem dX0_goTogether_41 : decode cX0_goTogether 41 = .ok (.ireturn, 1) := by decide +kernel
theorem dX0_liesOf_0 : decode cX0_liesOf 0 = .ok (.iconst 0, 1) := by decide +kernel
theorem dX0_liesOf_1 : decode cX0_liesOf 1 = .ok (.istore_n 3, 1) := by decide +kernel
theorem dX0_liesOf_2 : decode cX0_liesOf 2 = .ok (.iload_n 3, 1) := by decide +kernel
theorem dX0_liesOf_3 : decode cX0_liesOf 3 = .ok (.bipush 9, 2) := by decide +kernel
theorem dX0_liesOf_5 : decode cX0_liesOf 5 = .ok (.if_icmp .ge 16, 3) := by decide +kernel
theorem dX0_liesOf_8 : decode cX0_liesOf 8 = .ok (.aload_n 0, 1) := by decide +kernel
theorem dX0_liesOf_9 : decode cX0_liesOf 9 = .ok (.getfield 69, 3) := by decide +kernel
theorem dX0_liesOf_12 : decode cX0_liesOf 12 = .ok (.iload_n 3, 1) := by decide +kernel
theorem dX0_liesOf_13 : decode cX0_liesOf 13 = .ok (.iconst 0, 1) := by decide +kernel
theorem dX0_liesOf_14 : decode cX0_liesOf 14 = .ok (.iastore, 1) := by decide +kernel
theorem dX0_liesOf_15 : decode cX0_liesOf 15 = .ok (.iinc 3 1, 3) := by decide +kernel
theorem dX0_liesOf_18 : decode cX0_liesOf 18 = .ok (.goto (-16), 3) := by decide +kernel
theorem dX0_liesOf_21 : decode cX0_liesOf 21 = .ok (.iconst 0, 1) := by decide +kernel
theorem dX0_liesOf_22 : decode cX0_liesOf 22 = .ok (.istore_n 3, 1) := by decide +kernel
theorem dX0_liesOf_23 : decode cX0_liesOf 23 = .ok (.iconst 0, 1) := by decide +kernel
theorem dX0_liesOf_24 : decode cX0_liesOf 24 = .ok (.istore 4, 2) := by decide +kernel
theorem dX0_liesOf_26 : decode cX0_liesOf 26 = .ok (.iconst 0, 1) := by decide +kernel
theorem dX0_liesOf_27 : decode cX0_liesOf 27 = .ok (.istore 5, 2) := by decide +kernel
theorem dX0_liesOf_29 : decode cX0_liesOf 29 = .ok (.iload 5, 2) := by decide +kernel
theorem dX0_liesOf_31 : decode cX0_liesOf 31 = .ok (.aload_n 0, 1) := by decide +kernel
theorem dX0_liesOf_32 : decode cX0_liesOf 32 = .ok (.getfield 21, 3) := by decide +kernel
theorem dX0_liesOf_35 : decode cX0_liesOf 35 = .ok (.getfield 75, 3) := by decide +kernel
theorem dX0_liesOf_38 : decode cX0_liesOf 38 = .ok (.if_icmp .ge 71, 3) := by decide +kernel
theorem dX0_liesOf_41 : decode cX0_liesOf 41 = .ok (.iload_n 1, 1) := by decide +kernel
theorem dX0_liesOf_42 : decode cX0_liesOf 42 = .ok (.iload 5, 2) := by decide +kernel
theorem dX0_liesOf_44 : decode cX0_liesOf 44 = .ok (.invokestatic 173, 3) := by decide +kernel
theorem dX0_liesOf_47 : decode cX0_liesOf 47 = .ok (.ifCond .eq 13, 3) := by decide +kernel
theorem dX0_liesOf_50 : decode cX0_liesOf 50 = .ok (.aload_n 0, 1) := by decide +kernel
theorem dX0_liesOf_51 : decode cX0_liesOf 51 = .ok (.iload 5, 2) := by decide +kernel
theorem dX0_liesOf_53 : decode cX0_liesOf 53 = .ok (.iload_n 2, 1) := by decide +kernel
theorem dX0_liesOf_54 : decode cX0_liesOf 54 = .ok (.invokevirtual 160, 3) := by decide +kernel
theorem dX0_liesOf_57 : decode cX0_liesOf 57 = .ok (.goto 4, 3) := by decide +kernel
theorem dX0_liesOf_60 : decode cX0_liesOf 60 = .ok (.iconst (-1), 1) := by decide +kernel
theorem dX0_liesOf_61 : decode cX0_liesOf 61 = .ok (.istore 6, 2) := by decide +kernel
theorem dX0_liesOf_63 : decode cX0_liesOf 63 = .ok (.iload 6, 2) := by decide +kernel
theorem dX0_liesOf_65 : decode cX0_liesOf 65 = .ok (.ifCond .lt 38, 3) := by decide +kernel
theorem dX0_liesOf_68 : decode cX0_liesOf 68 = .ok (.iload 6, 2) := by decide +kernel
theorem dX0_liesOf_70 : decode cX0_liesOf 70 = .ok (.bipush 9, 2) := by decide +kernel
theorem dX0_liesOf_72 : decode cX0_liesOf 72 = .ok (.if_icmp .ge 31, 3) := by decide +kernel
theorem dX0_liesOf_75 : decode cX0_liesOf 75 = .ok (.aload_n 0, 1) := by decide +kernel
theorem dX0_liesOf_76 : decode cX0_liesOf 76 = .ok (.getfield 69, 3) := by decide +kernel
theorem dX0_liesOf_79 : decode cX0_liesOf 79 = .ok (.iload 6, 2) := by decide +kernel
theorem dX0_liesOf_81 : decode cX0_liesOf 81 = .ok (.dup2, 1) := by decide +kernel
theorem dX0_liesOf_82 : decode cX0_liesOf 82 = .ok (.iaload, 1) := by decide +kernel
theorem dX0_liesOf_83 : decode cX0_liesOf 83 = .ok (.iconst 1, 1) := by decide +kernel
theorem dX0_liesOf_84 : decode cX0_liesOf 84 = .ok (.iadd, 1) := by decide +kernel
theorem dX0_liesOf_85 : decode cX0_liesOf 85 = .ok (.iastore, 1) := by decide +kernel
theorem dX0_liesOf_86 : decode cX0_liesOf 86 = .ok (.iinc 3 1, 3) := by decide +kernel
theorem dX0_liesOf_89 : decode cX0_liesOf 89 = .ok (.iload 4, 2) := by decide +kernel
theorem dX0_liesOf_91 : decode cX0_liesOf 91 = .ok (.aload_n 0, 1) := by decide +kernel
theorem dX0_liesOf_92 : decode cX0_liesOf 92 = .ok (.getfield 69, 3) := by decide +kernel
theorem dX0_liesOf_95 : decode cX0_liesOf 95 = .ok (.iload 6, 2) := by decide +kernel
theorem dX0_liesOf_97 : decode cX0_liesOf 97 = .ok (.iaload, 1) := by decide +kernel
theorem dX0_liesOf_98 : decode cX0_liesOf 98 = .ok (.invokestatic 176, 3) := by decide +kernel
theorem dX0_liesOf_101 : decode cX0_liesOf 101 = .ok (.istore 4, 2) := by decide +kernel
theorem dX0_liesOf_103 : decode cX0_liesOf 103 = .ok (.iinc 5 1, 3) := by decide +kernel
theorem dX0_liesOf_106 : decode cX0_liesOf 106 = .ok (.goto (-77), 3) := by decide +kernel
theorem dX0_liesOf_109 : decode cX0_liesOf 109 = .ok (.iload_n 3, 1) := by decide +kernel
theorem dX0_liesOf_110 : decode cX0_liesOf 110 = .ok (.iload 4, 2) := by decide +kernel
theorem dX0_liesOf_112 : decode cX0_liesOf 112 = .ok (.isub, 1) := by decide +kernel
theorem dX0_liesOf_113 : decode cX0_liesOf 113 = .ok (.ireturn, 1) := by decide +kernel
theorem dX0_supposesMore_0 : decode cX0_supposesMore 0 = .ok (.aload_n 0, 1) := by decide +kernel
theorem dX0_supposesMore_1 : decode cX0_supposesMore 1 = .ok (.getfield 21, 3) := by decide +kernel
theorem dX0_supposesMore_4 : decode cX0_supposesMore 4 = .ok (.getfield 181, 3) := by decide +kernel
theorem dX0_supposesMore_7 : decode cX0_supposesMore 7 = .ok (.aload_n 0, 1) := by decide +kernel
theorem dX0_supposesMore_8 : decode cX0_supposesMore 8 = .ok (.getfield 28, 3) := by decide +kernel
theorem dX0_supposesMore_11 : decode cX0_supposesMore 11 = .ok (.getfield 110, 3) := by decide +kernel
theorem dX0_supposesMore_14 : decode cX0_supposesMore 14 = .ok (.iload_n 1, 1) := by decide +kernel
theorem dX0_supposesMore_15 : decode cX0_supposesMore 15 = .ok (.iaload, 1) := by decide +kernel
theorem dX0_supposesMore_16 : decode cX0_supposesMore 16 = .ok (.iaload, 1) := by decide +kernel
theorem dX0_supposesMore_17 : decode cX0_supposesMore 17 = .ok (.istore_n 2, 1) := by decide +kernel
theorem dX0_supposesMore_18 : decode cX0_supposesMore 18 = .ok (.iload_n 2, 1) := by decide +kernel
theorem dX0_supposesMore_19 : decode cX0_supposesMore 19 = .ok (.aload_n 0, 1) := by decide +kernel
theorem dX0_supposesMore_20 : decode cX0_supposesMore 20 = .ok (.getfield 21, 3) := by decide +kernel
theorem dX0_supposesMore_23 : decode cX0_supposesMore 23 = .ok (.getfield 87, 3) := by decide +kernel
theorem dX0_supposesMore_26 : decode cX0_supposesMore 26 = .ok (.aload_n 0, 1) := by decide +kernel
theorem dX0_supposesMore_27 : decode cX0_supposesMore 27 = .ok (.getfield 28, 3) := by decide +kernel
theorem dX0_supposesMore_30 : decode cX0_supposesMore 30 = .ok (.getfield 110, 3) := by decide +kernel
theorem dX0_supposesMore_33 : decode cX0_supposesMore 33 = .ok (.iload_n 1, 1) := by decide +kernel
theorem dX0_supposesMore_34 : decode cX0_supposesMore 34 = .ok (.iaload, 1) := by decide +kernel
theorem dX0_supposesMore_35 : decode cX0_supposesMore 35 = .ok (.iaload, 1) := by decide +kernel
theorem dX0_supposesMore_36 : decode cX0_supposesMore 36 = .ok (.if_icmp .le 16, 3) := by decide +kernel
theorem dX0_supposesMore_39 : decode cX0_supposesMore 39 = .ok (.aload_n 0, 1) := by decide +kernel
theorem dX0_supposesMore_40 : decode cX0_supposesMore 40 = .ok (.getfield 28, 3) := by decide +kernel
theorem dX0_supposesMore_43 : decode cX0_supposesMore 43 = .ok (.getfield 100, 3) := by decide +kernel
theorem dX0_supposesMore_46 : decode cX0_supposesMore 46 = .ok (.iload_n 1, 1) := by decide +kernel
theorem dX0_supposesMore_47 : decode cX0_supposesMore 47 = .ok (.iaload, 1) := by decide +kernel
theorem dX0_supposesMore_48 : decode cX0_supposesMore 48 = .ok (.iload_n 2, 1) := by decide +kernel
theorem dX0_supposesMore_49 : decode cX0_supposesMore 49 = .ok (.if_icmp .ge 5, 3) := by decide +kernel
theorem dX0_supposesMore_52 : decode cX0_supposesMore 52 = .ok (.iconst 0, 1) := by decide +kernel
theorem dX0_supposesMore_53 : decode cX0_supposesMore 53 = .ok (.ireturn, 1) := by decide +kernel
theorem dX0_supposesMore_54 : decode cX0_supposesMore 54 = .ok (.aload_n 0, 1) := by decide +kernel
theorem dX0_supposesMore_55 : decode cX0_supposesMore 55 = .ok (.iload_n 1, 1) := by decide +kernel
theorem dX0_supposesMore_56 : decode cX0_supposesMore 56 = .ok (.invokevirtual 122, 3) := by decide +kernel
theorem dX0_supposesMore_59 : decode cX0_supposesMore 59 = .ok (.ifCond .eq 27, 3) := by decide +kernel
theorem dX0_supposesMore_62 : decode cX0_supposesMore 62 = .ok (.aload_n 0, 1) := by decide +kernel
theorem dX0_supposesMore_63 : decode cX0_supposesMore 63 = .ok (.getfield 12, 3) := by decide +kernel
theorem dX0_supposesMore_66 : decode cX0_supposesMore 66 = .ok (.getfield 125, 3) := by decide +kernel
theorem dX0_supposesMore_69 : decode cX0_supposesMore 69 = .ok (.aload_n 0, 1) := by decide +kernel
theorem dX0_supposesMore_70 : decode cX0_supposesMore 70 = .ok (.getfield 28, 3) := by decide +kernel
theorem dX0_supposesMore_73 : decode cX0_supposesMore 73 = .ok (.getfield 119, 3) := by decide +kernel
theorem dX0_supposesMore_76 : decode cX0_supposesMore 76 = .ok (.iload_n 1, 1) := by decide +kernel
theorem dX0_supposesMore_77 : decode cX0_supposesMore 77 = .ok (.iaload, 1) := by decide +kernel
theorem dX0_supposesMore_78 : decode cX0_supposesMore 78 = .ok (.iaload, 1) := by decide +kernel
theorem dX0_supposesMore_79 : decode cX0_supposesMore 79 = .ok (.iload_n 2, 1) := by decide +kernel
theorem dX0_supposesMore_80 : decode cX0_supposesMore 80 = .ok (.invokestatic 128, 3) := by decide +kernel
theorem dX0_supposesMore_83 : decode cX0_supposesMore 83 = .ok (.ifCond .ne 5, 3) := by decide +kernel
theorem dX0_supposesMore_86 : decode cX0_supposesMore 86 = .ok (.iconst 0, 1) := by decide +kernel
theorem dX0_supposesMore_87 : decode cX0_supposesMore 87 = .ok (.ireturn, 1) := by decide +kernel
theorem dX0_supposesMore_88 : decode cX0_supposesMore 88 = .ok (.iconst 0, 1) := by decide +kernel
theorem dX0_supposesMore_89 : decode cX0_supposesMore 89 = .ok (.istore_n 3, 1) := by decide +kernel
theorem dX0_supposesMore_90 : decode cX0_supposesMore 90 = .ok (.iload_n 3, 1) := by decide +kernel
theorem dX0_supposesMore_91 : decode cX0_supposesMore 91 = .ok (.iload_n 1, 1) := by decide +kernel
theorem dX0_supposesMore_92 : decode cX0_supposesMore 92 = .ok (.if_icmp .ge 48, 3) := by decide +kernel
theorem dX0_supposesMore_95 : decode cX0_supposesMore 95 = .ok (.aload_n 0, 1) := by decide +kernel
theorem dX0_supposesMore_96 : decode cX0_supposesMore 96 = .ok (.getfield 28, 3) := by decide +kernel
theorem dX0_supposesMore_99 : decode cX0_supposesMore 99 = .ok (.getfield 106, 3) := by decide +kernel
theorem dX0_supposesMore_102 : decode cX0_supposesMore 102 = .ok (.iload_n 3, 1) := by decide +kernel
theorem dX0_supposesMore_103 : decode cX0_supposesMore 103 = .ok (.baload, 1) := by decide +kernel
theorem dX0_supposesMore_104 : decode cX0_supposesMore 104 = .ok (.ifCond .ne 30, 3) := by decide +kernel
theorem dX0_supposesMore_107 : decode cX0_supposesMore 107 = .ok (.aload_n 0, 1) := by decide +kernel
theorem dX0_supposesMore_108 : decode cX0_supposesMore 108 = .ok (.getfield 28, 3) := by decide +kernel
theorem dX0_supposesMore_111 : decode cX0_supposesMore 111 = .ok (.iload_n 3, 1) := by decide +kernel
theorem dX0_supposesMore_112 : decode cX0_supposesMore 112 = .ok (.iload_n 1, 1) := by decide +kernel
theorem dX0_supposesMore_113 : decode cX0_supposesMore 113 = .ok (.invokevirtual 139, 3) := by decide +kernel
theorem dX0_supposesMore_116 : decode cX0_supposesMore 116 = .ok (.ifCond .eq 18, 3) := by decide +kernel
theorem dX0_supposesMore_119 : decode cX0_supposesMore 119 = .ok (.aload_n 0, 1) := by decide +kernel
theorem dX0_supposesMore_120 : decode cX0_supposesMore 120 = .ok (.getfield 28, 3) := by decide +kernel
theorem dX0_supposesMore_123 : decode cX0_supposesMore 123 = .ok (.getfield 100, 3) := by decide +kernel
theorem dX0_supposesMore_126 : decode cX0_supposesMore 126 = .ok (.iload_n 3, 1) := by decide +kernel
theorem dX0_supposesMore_127 : decode cX0_supposesMore 127 = .ok (.iaload, 1) := by decide +kernel
theorem dX0_supposesMore_128 : decode cX0_supposesMore 128 = .ok (.iload_n 2, 1) := by decide +kernel
theorem dX0_supposesMore_129 : decode cX0_supposesMore 129 = .ok (.if_icmp .lt 5, 3) := by decide +kernel
theorem dX0_supposesMore_132 : decode cX0_supposesMore 132 = .ok (.iconst 0, 1) := by decide +kernel
theorem dX0_supposesMore_133 : decode cX0_supposesMore 133 = .ok (.ireturn, 1) := by decide +kernel
theorem dX0_supposesMore_134 : decode cX0_supposesMore 134 = .ok (.iinc 3 1, 3) := by decide +kernel
theorem dX0_supposesMore_137 : decode cX0_supposesMore 137 = .ok (.goto (-47), 3) := by decide +kernel
theorem dX0_supposesMore_140 : decode cX0_supposesMore 140 = .ok (.iconst 1, 1) := by decide +kernel
theorem dX0_supposesMore_141 : decode cX0_supposesMore 141 = .ok (.ireturn, 1) := by decide +kernel
theorem dX1_init_0 : decode cX1_init 0 = .ok (.aload_n 0, 1) := by decide +kernel
theorem dX1_init_1 : decode cX1_init 1 = .ok (.invokespecial 3, 3) := by decide +kernel
theorem dX1_init_4 : decode cX1_init 4 = .ok (.aload_n 0, 1) := by decide +kernel
theorem dX1_init_5 : decode cX1_init 5 = .ok (.iconst 0, 1) := by decide +kernel
theorem dX1_init_6 : decode cX1_init 6 = .ok (.putfield 9, 3) := by decide +kernel
theorem dX1_init_9 : decode cX1_init 9 = .ok (.aload_n 0, 1) := by decide +kernel
theorem dX1_init_10 : decode cX1_init 10 = .ok (.iconst 0, 1) := by decide +kernel
theorem dX1_init_11 : decode cX1_init 11 = .ok (.putfield 15, 3) := by decide +kernel
theorem dX1_init_14 : decode cX1_init 14 = .ok (.aload_n 0, 1) := by decide +kernel
theorem dX1_init_15 : decode cX1_init 15 = .ok (.iconst 0, 1) := by decide +kernel
theorem dX1_init_16 : decode cX1_init 16 = .ok (.putfield 18, 3) := by decide +kernel
theorem dX1_init_19 : decode cX1_init 19 = .ok (.aload_n 0, 1) := by decide +kernel
theorem dX1_init_20 : decode cX1_init 20 = .ok (.bipush 8, 2) := by decide +kernel
theorem dX1_init_22 : decode cX1_init 22 = .ok (.newarray .int, 2) := by decide +kernel
theorem dX1_init_24 : decode cX1_init 24 = .ok (.putfield 21, 3) := by decide +kernel
theorem dX1_init_27 : decode cX1_init 27 = .ok (.aload_n 0, 1) := by decide +kernel
theorem dX1_init_28 : decode cX1_init 28 = .ok (.bipush 8, 2) := by decide +kernel
theorem dX1_init_30 : decode cX1_init 30 = .ok (.newarray .int, 2) := by decide +kernel
theorem dX1_init_32 : decode cX1_init 32 = .ok (.putfield 25, 3) := by decide +kernel
theorem dX1_init_35 : decode cX1_init 35 = .ok (.aload_n 0, 1) := by decide +kernel
theorem dX1_init_36 : decode cX1_init 36 = .ok (.bipush 8, 2) := by decide +kernel
theorem dX1_init_38 : decode cX1_init 38 = .ok (.newarray .int, 2) := by decide +kernel
theorem dX1_init_40 : decode cX1_init 40 = .ok (.putfield 28, 3) := by decide +kernel
theorem dX1_init_43 : decode cX1_init 43 = .ok (.aload_n 0, 1) := by decide +kernel
theorem dX1_init_44 : decode cX1_init 44 = .ok (.bipush 8, 2) := by decide +kernel
theorem dX1_init_46 : decode cX1_init 46 = .ok (.newarray .int, 2) := by decide +kernel
theorem dX1_init_48 : decode cX1_init 48 = .ok (.putfield 31, 3) := by decide +kernel
theorem dX1_init_51 : decode cX1_init 51 = .ok (.return_, 1) := by decide +kernel
theorem dX1_prepare_0 : decode cX1_prepare 0 = .ok (.aload_n 0, 1) := by decide +kernel
theorem dX1_prepare_1 : decode cX1_prepare 1 = .ok (.iconst 0, 1) := by decide +kernel
theorem dX1_prepare_2 : decode cX1_prepare 2 = .ok (.putfield 9, 3) := by decide +kernel
theorem dX1_prepare_5 : decode cX1_prepare 5 = .ok (.aload_n 0, 1) := by decide +kernel
theorem dX1_prepare_6 : decode cX1_prepare 6 = .ok (.iconst 0, 1) := by decide +kernel
theorem dX1_prepare_7 : decode cX1_prepare 7 = .ok (.putfield 15, 3) := by decide +kernel
theorem dX1_prepare_10 : decode cX1_prepare 10 = .ok (.iconst 0, 1) := by decide +kernel
theorem dX1_prepare_11 : decode cX1_prepare 11 = .ok (.istore 4, 2) := by decide +kernel
theorem dX1_prepare_13 : decode cX1_prepare 13 = .ok (.iload 4, 2) := by decide +kernel
theorem dX1_prepare_15 : decode cX1_prepare 15 = .ok (.aload_n 1, 1) := by decide +kernel
theorem dX1_prepare_16 : decode cX1_prepare 16 = .ok (.getfield 34, 3) := by decide +kernel
theorem dX1_prepare_19 : decode cX1_prepare 19 = .ok (.getfield 40, 3) := by decide +kernel
theorem dX1_prepare_22 : decode cX1_prepare 22 = .ok (.if_icmp .ge 152, 3) := by decide +kernel
theorem dX1_prepare_25 : decode cX1_prepare 25 = .ok (.aload_n 1, 1) := by decide +kernel
theorem dX1_prepare_26 : decode cX1_prepare 26 = .ok (.iload 4, 2) := by decide +kernel
theorem dX1_prepare_28 : decode cX1_prepare 28 = .ok (.iload_n 2, 1) := by decide +kernel
theorem dX1_prepare_29 : decode cX1_prepare 29 = .ok (.invokevirtual 43, 3) := by decide +kernel
theorem dX1_prepare_32 : decode cX1_prepare 32 = .ok (.ifCond .eq 136, 3) := by decide +kernel
theorem dX1_prepare_35 : decode cX1_prepare 35 = .ok (.aload_n 1, 1) := by decide +kernel
theorem dX1_prepare_36 : decode cX1_prepare 36 = .ok (.iload 4, 2) := by decide +kernel
theorem dX1_prepare_38 : decode cX1_prepare 38 = .ok (.iconst 0, 1) := by decide +kernel
theorem dX1_prepare_39 : decode cX1_prepare 39 = .ok (.invokevirtual 47, 3) := by decide +kernel
theorem dX1_prepare_42 : decode cX1_prepare 42 = .ok (.ifCond .eq 126, 3) := by decide +kernel
theorem dX1_prepare_45 : decode cX1_prepare 45 = .ok (.aload_n 0, 1) := by decide +kernel
theorem dX1_prepare_46 : decode cX1_prepare 46 = .ok (.getfield 9, 3) := by decide +kernel
theorem dX1_prepare_49 : decode cX1_prepare 49 = .ok (.bipush 8, 2) := by decide +kernel
theorem dX1_prepare_51 : decode cX1_prepare 51 = .ok (.if_icmp .ge 117, 3) := by decide +kernel
theorem dX1_prepare_54 : decode cX1_prepare 54 = .ok (.aload_n 1, 1) := by decide +kernel
theorem dX1_prepare_55 : decode cX1_prepare 55 = .ok (.getfield 34, 3) := by decide +kernel
theorem dX1_prepare_58 : decode cX1_prepare 58 = .ok (.getfield 50, 3) := by decide +kernel
theorem dX1_prepare_61 : decode cX1_prepare 61 = .ok (.iload 4, 2) := by decide +kernel
theorem dX1_prepare_63 : decode cX1_prepare 63 = .ok (.iaload, 1) := by decide +kernel
theorem dX1_prepare_64 : decode cX1_prepare 64 = .ok (.istore 5, 2) := by decide +kernel
theorem dX1_prepare_66 : decode cX1_prepare 66 = .ok (.aload_n 0, 1) := by decide +kernel
theorem dX1_prepare_67 : decode cX1_prepare 67 = .ok (.getfield 21, 3) := by decide +kernel
theorem dX1_prepare_70 : decode cX1_prepare 70 = .ok (.aload_n 0, 1) := by decide +kernel
theorem dX1_prepare_71 : decode cX1_prepare 71 = .ok (.getfield 9, 3) := by decide +kernel
theorem dX1_prepare_74 : decode cX1_prepare 74 = .ok (.aload_n 1, 1) := by decide +kernel
theorem dX1_prepare_75 : decode cX1_prepare 75 = .ok (.getfield 53, 3) := by decide +kernel
theorem dX1_prepare_78 : decode cX1_prepare 78 = .ok (.getfield 57, 3) := by decide +kernel
theorem dX1_prepare_81 : decode cX1_prepare 81 = .ok (.iload 5, 2) := by decide +kernel
theorem dX1_prepare_83 : decode cX1_prepare 83 = .ok (.iaload, 1) := by decide +kernel
theorem dX1_prepare_84 : decode cX1_prepare 84 = .ok (.iastore, 1) := by decide +kernel
theorem dX1_prepare_85 : decode cX1_prepare 85 = .ok (.aload_n 0, 1) := by decide +kernel
theorem dX1_prepare_86 : decode cX1_prepare 86 = .ok (.getfield 25, 3) := by decide +kernel
theorem dX1_prepare_89 : decode cX1_prepare 89 = .ok (.aload_n 0, 1) := by decide +kernel
theorem dX1_prepare_90 : decode cX1_prepare 90 = .ok (.getfield 9, 3) := by decide +kernel
theorem dX1_prepare_93 : decode cX1_prepare 93 = .ok (.aload_n 1, 1) := by decide +kernel
theorem dX1_prepare_94 : decode cX1_prepare 94 = .ok (.getfield 53, 3) := by decide +kernel
theorem dX1_prepare_97 : decode cX1_prepare 97 = .ok (.getfield 60, 3) := by decide +kernel
theorem dX1_prepare_100 : decode cX1_prepare 100 = .ok (.iload 5, 2) := by decide +kernel
theorem dX1_prepare_102 : decode cX1_prepare 102 = .ok (.iaload, 1) := by decide +kernel
theorem dX1_prepare_103 : decode cX1_prepare 103 = .ok (.iastore, 1) := by decide +kernel
theorem dX1_prepare_104 : decode cX1_prepare 104 = .ok (.aload_n 0, 1) := by decide +kernel
theorem dX1_prepare_105 : decode cX1_prepare 105 = .ok (.getfield 28, 3) := by decide +kernel
theorem dX1_prepare_108 : decode cX1_prepare 108 = .ok (.aload_n 0, 1) := by decide +kernel
theorem dX1_prepare_109 : decode cX1_prepare 109 = .ok (.getfield 9, 3) := by decide +kernel
theorem dX1_prepare_112 : decode cX1_prepare 112 = .ok (.aload_n 1, 1) := by decide +kernel
theorem dX1_prepare_113 : decode cX1_prepare 113 = .ok (.iload 4, 2) := by decide +kernel
theorem dX1_prepare_115 : decode cX1_prepare 115 = .ok (.invokevirtual 61, 3) := by decide +kernel
theorem dX1_prepare_118 : decode cX1_prepare 118 = .ok (.iastore, 1) := by decide +kernel
theorem dX1_prepare_119 : decode cX1_prepare 119 = .ok (.aload_n 0, 1) := by decide +kernel
theorem dX1_prepare_120 : decode cX1_prepare 120 = .ok (.getfield 31, 3) := by decide +kernel
theorem dX1_prepare_123 : decode cX1_prepare 123 = .ok (.aload_n 0, 1) := by decide +kernel
theorem dX1_prepare_124 : decode cX1_prepare 124 = .ok (.getfield 9, 3) := by decide +kernel
theorem dX1_prepare_127 : decode cX1_prepare 127 = .ok (.aload_n 3, 1) := by decide +kernel
theorem dX1_prepare_128 : decode cX1_prepare 128 = .ok (.aload_n 1, 1) := by decide +kernel
theorem dX1_prepare_129 : decode cX1_prepare 129 = .ok (.iload 4, 2) := by decide +kernel
theorem dX1_prepare_131 : decode cX1_prepare 131 = .ok (.invokevirtual 65, 3) := by decide +kernel
theorem dX1_prepare_134 : decode cX1_prepare 134 = .ok (.iastore, 1) := by decide +kernel
theorem dX1_prepare_135 : decode cX1_prepare 135 = .ok (.aload_n 0, 1) := by decide +kernel
theorem dX1_prepare_136 : decode cX1_prepare 136 = .ok (.dup, 1) := by decide +kernel
theorem dX1_prepare_137 : decode cX1_prepare 137 = .ok (.getfield 9, 3) := by decide +kernel
theorem dX1_prepare_140 : decode cX1_prepare 140 = .ok (.iconst 1, 1) := by decide +kernel
theorem dX1_prepare_141 : decode cX1_prepare 141 = .ok (.iadd, 1) := by decide +kernel
theorem dX1_prepare_142 : decode cX1_prepare 142 = .ok (.putfield 9, 3) := by decide +kernel
theorem dX1_prepare_145 : decode cX1_prepare 145 = .ok (.aload_n 0, 1) := by decide +kernel
theorem dX1_prepare_146 : decode cX1_prepare 146 = .ok (.dup, 1) := by decide +kernel
theorem dX1_prepare_147 : decode cX1_prepare 147 = .ok (.getfield 15, 3) := by decide +kernel
theorem dX1_prepare_150 : decode cX1_prepare 150 = .ok (.aload_n 1, 1) := by decide +kernel
theorem dX1_prepare_151 : decode cX1_prepare 151 = .ok (.iload 4, 2) := by decide +kernel
theorem dX1_prepare_153 : decode cX1_prepare 153 = .ok (.invokevirtual 71, 3) := by decide +kernel
theorem dX1_prepare_156 : decode cX1_prepare 156 = .ok (.ifCond .eq 7, 3) := by decide +kernel
theorem dX1_prepare_159 : decode cX1_prepare 159 = .ok (.iconst 1, 1) := by decide +kernel
theorem dX1_prepare_160 : decode cX1_prepare 160 = .ok (.goto 4, 3) := by decide +kernel
theorem dX1_prepare_163 : decode cX1_prepare 163 = .ok (.iconst 0, 1) := by decide +kernel
theorem dX1_prepare_164 : decode cX1_prepare 164 = .ok (.iadd, 1) := by decide +kernel
theorem dX1_prepare_165 : decode cX1_prepare 165 = .ok (.putfield 15, 3) := by decide +kernel
theorem dX1_prepare_168 : decode cX1_prepare 168 = .ok (.iinc 4 1, 3) := by decide +kernel
theorem dX1_prepare_171 : decode cX1_prepare 171 = .ok (.goto (-158), 3) := by decide +kernel
theorem dX1_prepare_174 : decode cX1_prepare 174 = .ok (.return_, 1) := by decide +kernel
theorem dX1_asGood_0 : decode cX1_asGood 0 = .ok (.iconst 0, 1) := by decide +kernel
theorem dX1_asGood_1 : decode cX1_asGood 1 = .ok (.istore_n 3, 1) := by decide +kernel
theorem dX1_asGood_2 : decode cX1_asGood 2 = .ok (.aload_n 0, 1) := by decide +kernel
theorem dX1_asGood_3 : decode cX1_asGood 3 = .ok (.iload_n 1, 1) := by decide +kernel
theorem dX1_asGood_4 : decode cX1_asGood 4 = .ok (.putfield 18, 3) := by decide +kernel
theorem dX1_asGood_7 : decode cX1_asGood 7 = .ok (.iconst 0, 1) := by decide +kernel
theorem dX1_asGood_8 : decode cX1_asGood 8 = .ok (.istore 4, 2) := by decide +kernel
theorem dX1_asGood_10 : decode cX1_asGood 10 = .ok (.iload 4, 2) := by decide +kernel
theorem dX1_asGood_12 : decode cX1_asGood 12 = .ok (.iload_n 2, 1) := by decide +kernel
theorem dX1_asGood_13 : decode cX1_asGood 13 = .ok (.if_icmp .ge 23, 3) := by decide +kernel
theorem dX1_asGood_16 : decode cX1_asGood 16 = .ok (.aload_n 0, 1) := by decide +kernel
theorem dX1_asGood_17 : decode cX1_asGood 17 = .ok (.invokevirtual 75, 3) := by decide +kernel
theorem dX1_asGood_20 : decode cX1_asGood 20 = .ok (.aload_n 0, 1) := by decide +kernel
theorem dX1_asGood_21 : decode cX1_asGood 21 = .ok (.getfield 15, 3) := by decide +kernel
theorem dX1_asGood_24 : decode cX1_asGood 24 = .ok (.if_icmp .lt 6, 3) := by decide +kernel
theorem dX1_asGood_27 : decode cX1_asGood 27 = .ok (.iinc 3 1, 3) := by decide +kernel
theorem dX1_asGood_30 : decode cX1_asGood 30 = .ok (.iinc 4 1, 3) := by decide +kernel
theorem dX1_asGood_33 : decode cX1_asGood 33 = .ok (.goto (-23), 3) := by decide +kernel
theorem dX1_asGood_36 : decode cX1_asGood 36 = .ok (.iload_n 3, 1) := by decide +kernel
theorem dX1_asGood_37 : decode cX1_asGood 37 = .ok (.ireturn, 1) := by decide +kernel
theorem dX1_rightInOne_0 : decode cX1_rightInOne 0 = .ok (.iconst 0, 1) := by decide +kernel
theorem dX1_rightInOne_1 : decode cX1_rightInOne 1 = .ok (.istore_n 1, 1) := by decide +kernel
theorem dX1_rightInOne_2 : decode cX1_rightInOne 2 = .ok (.iconst 0, 1) := by decide +kernel
theorem dX1_rightInOne_3 : decode cX1_rightInOne 3 = .ok (.istore_n 2, 1) := by decide +kernel
theorem dX1_rightInOne_4 : decode cX1_rightInOne 4 = .ok (.iload_n 2, 1) := by decide +kernel
theorem dX1_rightInOne_5 : decode cX1_rightInOne 5 = .ok (.aload_n 0, 1) := by decide +kernel
theorem dX1_rightInOne_6 : decode cX1_rightInOne 6 = .ok (.getfield 9, 3) := by decide +kernel
theorem dX1_rightInOne_9 : decode cX1_rightInOne 9 = .ok (.if_icmp .ge 84, 3) := by decide +kernel
theorem dX1_rightInOne_12 : decode cX1_rightInOne 12 = .ok (.aload_n 0, 1) := by decide +kernel
theorem dX1_rightInOne_13 : decode cX1_rightInOne 13 = .ok (.getfield 28, 3) := by decide +kernel
theorem dX1_rightInOne_16 : decode cX1_rightInOne 16 = .ok (.iload_n 2, 1) := by decide +kernel
theorem dX1_rightInOne_17 : decode cX1_rightInOne 17 = .ok (.iaload, 1) := by decide +kernel
theorem dX1_rightInOne_18 : decode cX1_rightInOne 18 = .ok (.iconst (-1), 1) := by decide +kernel
theorem dX1_rightInOne_19 : decode cX1_rightInOne 19 = .ok (.if_icmp .eq 22, 3) := by decide +kernel
theorem dX1_rightInOne_22 : decode cX1_rightInOne 22 = .ok (.aload_n 0, 1) := by decide +kernel
theorem dX1_rightInOne_23 : decode cX1_rightInOne 23 = .ok (.bipush 100, 2) := by decide +kernel
theorem dX1_rightInOne_25 : decode cX1_rightInOne 25 = .ok (.invokevirtual 79, 3) := by decide +kernel
theorem dX1_rightInOne_28 : decode cX1_rightInOne 28 = .ok (.aload_n 0, 1) := by decide +kernel
theorem dX1_rightInOne_29 : decode cX1_rightInOne 29 = .ok (.getfield 31, 3) := by decide +kernel
theorem dX1_rightInOne_32 : decode cX1_rightInOne 32 = .ok (.iload_n 2, 1) := by decide +kernel
theorem dX1_rightInOne_33 : decode cX1_rightInOne 33 = .ok (.iaload, 1) := by decide +kernel
theorem dX1_rightInOne_34 : decode cX1_rightInOne 34 = .ok (.if_icmp .ge 7, 3) := by decide +kernel
theorem dX1_rightInOne_37 : decode cX1_rightInOne 37 = .ok (.iconst 1, 1) := by decide +kernel
theorem dX1_rightInOne_38 : decode cX1_rightInOne 38 = .ok (.goto 4, 3) := by decide +kernel
theorem dX1_rightInOne_41 : decode cX1_rightInOne 41 = .ok (.iconst 0, 1) := by decide +kernel
theorem dX1_rightInOne_42 : decode cX1_rightInOne 42 = .ok (.istore_n 3, 1) := by decide +kernel
theorem dX1_rightInOne_43 : decode cX1_rightInOne 43 = .ok (.iload_n 3, 1) := by decide +kernel
theorem dX1_rightInOne_44 : decode cX1_rightInOne 44 = .ok (.ifCond .eq 12, 3) := by decide +kernel
theorem dX1_rightInOne_47 : decode cX1_rightInOne 47 = .ok (.aload_n 0, 1) := by decide +kernel
theorem dX1_rightInOne_48 : decode cX1_rightInOne 48 = .ok (.getfield 28, 3) := by decide +kernel
theorem dX1_rightInOne_51 : decode cX1_rightInOne 51 = .ok (.iload_n 2, 1) := by decide +kernel
theorem dX1_rightInOne_52 : decode cX1_rightInOne 52 = .ok (.iaload, 1) := by decide +kernel
theorem dX1_rightInOne_53 : decode cX1_rightInOne 53 = .ok (.goto 13, 3) := by decide +kernel
theorem dX1_rightInOne_56 : decode cX1_rightInOne 56 = .ok (.aload_n 0, 1) := by decide +kernel
theorem dX1_rightInOne_57 : decode cX1_rightInOne 57 = .ok (.aload_n 0, 1) := by decide +kernel
theorem dX1_rightInOne_58 : decode cX1_rightInOne 58 = .ok (.getfield 21, 3) := by decide +kernel
theorem dX1_rightInOne_61 : decode cX1_rightInOne 61 = .ok (.iload_n 2, 1) := by decide +kernel
theorem dX1_rightInOne_62 : decode cX1_rightInOne 62 = .ok (.iaload, 1) := by decide +kernel
theorem dX1_rightInOne_63 : decode cX1_rightInOne 63 = .ok (.invokevirtual 79, 3) := by decide +kernel
theorem dX1_rightInOne_66 : decode cX1_rightInOne 66 = .ok (.istore 4, 2) := by decide +kernel
theorem dX1_rightInOne_68 : decode cX1_rightInOne 68 = .ok (.iload_n 1, 1) := by decide +kernel
theorem dX1_rightInOne_69 : decode cX1_rightInOne 69 = .ok (.iload 4, 2) := by decide +kernel
theorem dX1_rightInOne_71 : decode cX1_rightInOne 71 = .ok (.aload_n 0, 1) := by decide +kernel
theorem dX1_rightInOne_72 : decode cX1_rightInOne 72 = .ok (.getfield 25, 3) := by decide +kernel
theorem dX1_rightInOne_75 : decode cX1_rightInOne 75 = .ok (.iload_n 2, 1) := by decide +kernel
theorem dX1_rightInOne_76 : decode cX1_rightInOne 76 = .ok (.iaload, 1) := by decide +kernel
theorem dX1_rightInOne_77 : decode cX1_rightInOne 77 = .ok (.if_icmp .ne 7, 3) := by decide +kernel
theorem dX1_rightInOne_80 : decode cX1_rightInOne 80 = .ok (.iconst 1, 1) := by decide +kernel
theorem dX1_rightInOne_81 : decode cX1_rightInOne 81 = .ok (.goto 4, 3) := by decide +kernel
theorem dX1_rightInOne_84 : decode cX1_rightInOne 84 = .ok (.iconst 0, 1) := by decide +kernel
theorem dX1_rightInOne_85 : decode cX1_rightInOne 85 = .ok (.iadd, 1) := by decide +kernel
theorem dX1_rightInOne_86 : decode cX1_rightInOne 86 = .ok (.istore_n 1, 1) := by decide +kernel
theorem dX1_rightInOne_87 : decode cX1_rightInOne 87 = .ok (.iinc 2 1, 3) := by decide +kernel
theorem dX1_rightInOne_90 : decode cX1_rightInOne 90 = .ok (.goto (-86), 3) := by decide +kernel
theorem dX1_rightInOne_93 : decode cX1_rightInOne 93 = .ok (.iload_n 1, 1) := by decide +kernel
theorem dX1_rightInOne_94 : decode cX1_rightInOne 94 = .ok (.ireturn, 1) := by decide +kernel
theorem dX1_drawBelow_0 : decode cX1_drawBelow 0 = .ok (.aload_n 0, 1) := by decide +kernel
theorem dX1_drawBelow_1 : decode cX1_drawBelow 1 = .ok (.aload_n 0, 1) := by decide +kernel
theorem dX1_drawBelow_2 : decode cX1_drawBelow 2 = .ok (.getfield 18, 3) := by decide +kernel
theorem dX1_drawBelow_5 : decode cX1_drawBelow 5 = .ok (.ldc 82, 2) := by decide +kernel
theorem dX1_drawBelow_7 : decode cX1_drawBelow 7 = .ok (.imul, 1) := by decide +kernel
theorem dX1_drawBelow_8 : decode cX1_drawBelow 8 = .ok (.sipush 12345, 3) := by decide +kernel
theorem dX1_drawBelow_11 : decode cX1_drawBelow 11 = .ok (.iadd, 1) := by decide +kernel
theorem dX1_drawBelow_12 : decode cX1_drawBelow 12 = .ok (.ldc 83, 2) := by decide +kernel
theorem dX1_drawBelow_14 : decode cX1_drawBelow 14 = .ok (.iand, 1) := by decide +kernel
theorem dX1_drawBelow_15 : decode cX1_drawBelow 15 = .ok (.putfield 18, 3) := by decide +kernel
theorem dX1_drawBelow_18 : decode cX1_drawBelow 18 = .ok (.iload_n 1, 1) := by decide +kernel
theorem dX1_drawBelow_19 : decode cX1_drawBelow 19 = .ok (.ifCond .le 15, 3) := by decide +kernel
theorem dX1_drawBelow_22 : decode cX1_drawBelow 22 = .ok (.aload_n 0, 1) := by decide +kernel
theorem dX1_drawBelow_23 : decode cX1_drawBelow 23 = .ok (.getfield 18, 3) := by decide +kernel
theorem dX1_drawBelow_26 : decode cX1_drawBelow 26 = .ok (.ldc 84, 2) := by decide +kernel
theorem dX1_drawBelow_28 : decode cX1_drawBelow 28 = .ok (.idiv, 1) := by decide +kernel
theorem dX1_drawBelow_29 : decode cX1_drawBelow 29 = .ok (.iload_n 1, 1) := by decide +kernel
theorem dX1_drawBelow_30 : decode cX1_drawBelow 30 = .ok (.irem, 1) := by decide +kernel
theorem dX1_drawBelow_31 : decode cX1_drawBelow 31 = .ok (.goto 4, 3) := by decide +kernel
theorem dX1_drawBelow_34 : decode cX1_drawBelow 34 = .ok (.iconst 0, 1) := by decide +kernel
theorem dX1_drawBelow_35 : decode cX1_drawBelow 35 = .ok (.ireturn, 1) := by decide +kernel
theorem dX2_init_0 : decode cX2_init 0 = .ok (.aload_n 0, 1) := by decide +kernel
theorem dX2_init_1 : decode cX2_init 1 = .ok (.invokespecial 3, 3) := by decide +kernel
theorem dX2_init_4 : decode cX2_init 4 = .ok (.aload_n 0, 1) := by decide +kernel
theorem dX2_init_5 : decode cX2_init 5 = .ok (.iconst 0, 1) := by decide +kernel
theorem dX2_init_6 : decode cX2_init 6 = .ok (.putfield 9, 3) := by decide +kernel
theorem dX2_init_9 : decode cX2_init 9 = .ok (.aload_n 0, 1) := by decide +kernel
theorem dX2_init_10 : decode cX2_init 10 = .ok (.bipush 64, 2) := by decide +kernel
theorem dX2_init_12 : decode cX2_init 12 = .ok (.newarray .int, 2) := by decide +kernel
theorem dX2_init_14 : decode cX2_init 14 = .ok (.putfield 15, 3) := by decide +kernel
theorem dX2_init_17 : decode cX2_init 17 = .ok (.return_, 1) := by decide +kernel
theorem dX2_add_0 : decode cX2_add 0 = .ok (.aload_n 0, 1) := by decide +kernel
theorem dX2_add_1 : decode cX2_add 1 = .ok (.getfield 9, 3) := by decide +kernel
theorem dX2_add_4 : decode cX2_add 4 = .ok (.bipush 64, 2) := by decide +kernel
theorem dX2_add_6 : decode cX2_add 6 = .ok (.if_icmp .ge 23, 3) := by decide +kernel
theorem dX2_add_9 : decode cX2_add 9 = .ok (.aload_n 0, 1) := by decide +kernel
theorem dX2_add_10 : decode cX2_add 10 = .ok (.getfield 15, 3) := by decide +kernel
theorem dX2_add_13 : decode cX2_add 13 = .ok (.aload_n 0, 1) := by decide +kernel
theorem dX2_add_14 : decode cX2_add 14 = .ok (.getfield 9, 3) := by decide +kernel
theorem dX2_add_17 : decode cX2_add 17 = .ok (.iload_n 1, 1) := by decide +kernel
theorem dX2_add_18 : decode cX2_add 18 = .ok (.iastore, 1) := by decide +kernel
theorem dX2_add_19 : decode cX2_add 19 = .ok (.aload_n 0, 1) := by decide +kernel
theorem dX2_add_20 : decode cX2_add 20 = .ok (.dup, 1) := by decide +kernel
theorem dX2_add_21 : decode cX2_add 21 = .ok (.getfield 9, 3) := by decide +kernel
theorem dX2_add_24 : decode cX2_add 24 = .ok (.iconst 1, 1) := by decide +kernel
theorem dX2_add_25 : decode cX2_add 25 = .ok (.iadd, 1) := by decide +kernel
theorem dX2_add_26 : decode cX2_add 26 = .ok (.putfield 9, 3) := by decide +kernel
theorem dX2_add_29 : decode cX2_add 29 = .ok (.return_, 1) := by decide +kernel
theorem dX2_workOut_0 : decode cX2_workOut 0 = .ok (.iconst 0, 1) := by decide +kernel
theorem dX2_workOut_1 : decode cX2_workOut 1 = .ok (.istore_n 3, 1) := by decide +kernel
theorem dX2_workOut_2 : decode cX2_workOut 2 = .ok (.iconst 0, 1) := by decide +kernel
theorem dX2_workOut_3 : decode cX2_workOut 3 = .ok (.istore 4, 2) := by decide +kernel
theorem dX2_workOut_5 : decode cX2_workOut 5 = .ok (.iload 4, 2) := by decide +kernel
theorem dX2_workOut_7 : decode cX2_workOut 7 = .ok (.aload_n 0, 1) := by decide +kernel
theorem dX2_workOut_8 : decode cX2_workOut 8 = .ok (.getfield 9, 3) := by decide +kernel
theorem dX2_workOut_11 : decode cX2_workOut 11 = .ok (.if_icmp .ge 180, 3) := by decide +kernel
theorem dX2_workOut_14 : decode cX2_workOut 14 = .ok (.aload_n 0, 1) := by decide +kernel
theorem dX2_workOut_15 : decode cX2_workOut 15 = .ok (.getfield 15, 3) := by decide +kernel
theorem dX2_workOut_18 : decode cX2_workOut 18 = .ok (.iload 4, 2) := by decide +kernel
theorem dX2_workOut_20 : decode cX2_workOut 20 = .ok (.iaload, 1) := by decide +kernel
theorem dX2_workOut_21 : decode cX2_workOut 21 = .ok (.istore 5, 2) := by decide +kernel
theorem dX2_workOut_23 : decode cX2_workOut 23 = .ok (.iload 5, 2) := by decide +kernel
theorem dX2_workOut_25 : decode cX2_workOut 25 = .ok (.sipush 999, 3) := by decide +kernel
theorem dX2_workOut_28 : decode cX2_workOut 28 = .ok (.if_icmp .le 11, 3) := by decide +kernel
theorem dX2_workOut_31 : decode cX2_workOut 31 = .ok (.iload 5, 2) := by decide +kernel
theorem dX2_workOut_33 : decode cX2_workOut 33 = .ok (.invokestatic 19, 3) := by decide +kernel
theorem dX2_workOut_36 : decode cX2_workOut 36 = .ok (.ifCond .eq 7, 3) := by decide +kernel
theorem dX2_workOut_39 : decode cX2_workOut 39 = .ok (.iconst 1, 1) := by decide +kernel
theorem dX2_workOut_40 : decode cX2_workOut 40 = .ok (.goto 4, 3) := by decide +kernel
theorem dX2_workOut_43 : decode cX2_workOut 43 = .ok (.iconst 0, 1) := by decide +kernel
theorem dX2_workOut_44 : decode cX2_workOut 44 = .ok (.istore 6, 2) := by decide +kernel
theorem dX2_workOut_46 : decode cX2_workOut 46 = .ok (.iload 6, 2) := by decide +kernel
theorem dX2_workOut_48 : decode cX2_workOut 48 = .ok (.ifCond .eq 7, 3) := by decide +kernel
theorem dX2_workOut_51 : decode cX2_workOut 51 = .ok (.iconst 0, 1) := by decide +kernel
theorem dX2_workOut_52 : decode cX2_workOut 52 = .ok (.goto 16, 3) := by decide +kernel
theorem dX2_workOut_55 : decode cX2_workOut 55 = .ok (.iload 5, 2) := by decide +kernel
theorem dX2_workOut_57 : decode cX2_workOut 57 = .ok (.sipush 1116, 3) := by decide +kernel
theorem dX2_workOut_60 : decode cX2_workOut 60 = .ok (.if_icmp .ne 7, 3) := by decide +kernel
theorem dX2_workOut_63 : decode cX2_workOut 63 = .ok (.iconst 1, 1) := by decide +kernel
theorem dX2_workOut_64 : decode cX2_workOut 64 = .ok (.goto 4, 3) := by decide +kernel
theorem dX2_workOut_67 : decode cX2_workOut 67 = .ok (.iconst 2, 1) := by decide +kernel
theorem dX2_workOut_68 : decode cX2_workOut 68 = .ok (.istore 7, 2) := by decide +kernel
theorem dX2_workOut_70 : decode cX2_workOut 70 = .ok (.iload_n 3, 1) := by decide +kernel
theorem dX2_workOut_71 : decode cX2_workOut 71 = .ok (.iload 7, 2) := by decide +kernel
theorem dX2_workOut_73 : decode cX2_workOut 73 = .ok (.if_icmp .lt 12, 3) := by decide +kernel
theorem dX2_workOut_76 : decode cX2_workOut 76 = .ok (.iload_n 3, 1) := by decide +kernel
theorem dX2_workOut_77 : decode cX2_workOut 77 = .ok (.iload 7, 2) := by decide +kernel
theorem dX2_workOut_79 : decode cX2_workOut 79 = .ok (.isub, 1) := by decide +kernel
theorem dX2_workOut_80 : decode cX2_workOut 80 = .ok (.aload_n 2, 1) := by decide +kernel
theorem dX2_workOut_81 : decode cX2_workOut 81 = .ok (.arraylength, 1) := by decide +kernel
theorem dX2_workOut_82 : decode cX2_workOut 82 = .ok (.if_icmp .lt 7, 3) := by decide +kernel
theorem dX2_workOut_85 : decode cX2_workOut 85 = .ok (.ldc2_w 25, 3) := by decide +kernel
theorem dX2_workOut_88 : decode cX2_workOut 88 = .ok (.lreturn, 1) := by decide +kernel
theorem dX2_workOut_89 : decode cX2_workOut 89 = .ok (.iload_n 3, 1) := by decide +kernel
theorem dX2_workOut_90 : decode cX2_workOut 90 = .ok (.iload 7, 2) := by decide +kernel
theorem dX2_workOut_92 : decode cX2_workOut 92 = .ok (.isub, 1) := by decide +kernel
theorem dX2_workOut_93 : decode cX2_workOut 93 = .ok (.istore_n 3, 1) := by decide +kernel
theorem dX2_workOut_94 : decode cX2_workOut 94 = .ok (.iload 7, 2) := by decide +kernel
theorem dX2_workOut_96 : decode cX2_workOut 96 = .ok (.ifCond .ne 32, 3) := by decide +kernel
theorem dX2_workOut_99 : decode cX2_workOut 99 = .ok (.aload_n 2, 1) := by decide +kernel
theorem dX2_workOut_100 : decode cX2_workOut 100 = .ok (.iload_n 3, 1) := by decide +kernel
theorem dX2_workOut_101 : decode cX2_workOut 101 = .ok (.iload 5, 2) := by decide +kernel
theorem dX2_workOut_103 : decode cX2_workOut 103 = .ok (.sipush 999, 3) := by decide +kernel
theorem dX2_workOut_106 : decode cX2_workOut 106 = .ok (.if_icmp .gt 9, 3) := by decide +kernel
theorem dX2_workOut_109 : decode cX2_workOut 109 = .ok (.iload 5, 2) := by decide +kernel
theorem dX2_workOut_111 : decode cX2_workOut 111 = .ok (.i2l, 1) := by decide +kernel
theorem dX2_workOut_112 : decode cX2_workOut 112 = .ok (.goto 12, 3) := by decide +kernel
theorem dX2_workOut_115 : decode cX2_workOut 115 = .ok (.aload_n 1, 1) := by decide +kernel
theorem dX2_workOut_116 : decode cX2_workOut 116 = .ok (.iload 5, 2) := by decide +kernel
theorem dX2_workOut_118 : decode cX2_workOut 118 = .ok (.sipush 1117, 3) := by decide +kernel
theorem dX2_workOut_121 : decode cX2_workOut 121 = .ok (.isub, 1) := by decide +kernel
theorem dX2_workOut_122 : decode cX2_workOut 122 = .ok (.iaload, 1) := by decide +kernel
theorem dX2_workOut_123 : decode cX2_workOut 123 = .ok (.i2l, 1) := by decide +kernel
theorem dX2_workOut_124 : decode cX2_workOut 124 = .ok (.lastore, 1) := by decide +kernel
theorem dX2_workOut_125 : decode cX2_workOut 125 = .ok (.goto 44, 3) := by decide +kernel
theorem dX2_workOut_128 : decode cX2_workOut 128 = .ok (.iload 7, 2) := by decide +kernel
theorem dX2_workOut_130 : decode cX2_workOut 130 = .ok (.iconst 1, 1) := by decide +kernel
theorem dX2_workOut_131 : decode cX2_workOut 131 = .ok (.if_icmp .ne 22, 3) := by decide +kernel
theorem dX2_workOut_134 : decode cX2_workOut 134 = .ok (.aload_n 2, 1) := by decide +kernel
theorem dX2_workOut_135 : decode cX2_workOut 135 = .ok (.iload_n 3, 1) := by decide +kernel
theorem dX2_workOut_136 : decode cX2_workOut 136 = .ok (.aload_n 2, 1) := by decide +kernel
theorem dX2_workOut_137 : decode cX2_workOut 137 = .ok (.iload_n 3, 1) := by decide +kernel
theorem dX2_workOut_138 : decode cX2_workOut 138 = .ok (.laload, 1) := by decide +kernel
theorem dX2_workOut_139 : decode cX2_workOut 139 = .ok (.lconst 0, 1) := by decide +kernel
theorem dX2_workOut_140 : decode cX2_workOut 140 = .ok (.lcmp, 1) := by decide +kernel
theorem dX2_workOut_141 : decode cX2_workOut 141 = .ok (.ifCond .ne 7, 3) := by decide +kernel
theorem dX2_workOut_144 : decode cX2_workOut 144 = .ok (.lconst 1, 1) := by decide +kernel
theorem dX2_workOut_145 : decode cX2_workOut 145 = .ok (.goto 4, 3) := by decide +kernel
theorem dX2_workOut_148 : decode cX2_workOut 148 = .ok (.lconst 0, 1) := by decide +kernel
theorem dX2_workOut_149 : decode cX2_workOut 149 = .ok (.lastore, 1) := by decide +kernel
theorem dX2_workOut_150 : decode cX2_workOut 150 = .ok (.goto 19, 3) := by decide +kernel
theorem dX2_workOut_153 : decode cX2_workOut 153 = .ok (.aload_n 2, 1) := by decide +kernel
theorem dX2_workOut_154 : decode cX2_workOut 154 = .ok (.iload_n 3, 1) := by decide +kernel
theorem dX2_workOut_155 : decode cX2_workOut 155 = .ok (.iload 5, 2) := by decide +kernel
theorem dX2_workOut_157 : decode cX2_workOut 157 = .ok (.aload_n 2, 1) := by decide +kernel
theorem dX2_workOut_158 : decode cX2_workOut 158 = .ok (.iload_n 3, 1) := by decide +kernel
theorem dX2_workOut_159 : decode cX2_workOut 159 = .ok (.laload, 1) := by decide +kernel
theorem dX2_workOut_160 : decode cX2_workOut 160 = .ok (.aload_n 2, 1) := by decide +kernel
theorem dX2_workOut_161 : decode cX2_workOut 161 = .ok (.iload_n 3, 1) := by decide +kernel
theorem dX2_workOut_162 : decode cX2_workOut 162 = .ok (.iconst 1, 1) := by decide +kernel
theorem dX2_workOut_163 : decode cX2_workOut 163 = .ok (.iadd, 1) := by decide +kernel
theorem dX2_workOut_164 : decode cX2_workOut 164 = .ok (.laload, 1) := by decide +kernel
theorem dX2_workOut_165 : decode cX2_workOut 165 = .ok (.invokestatic 27, 3) := by decide +kernel
theorem dX2_workOut_168 : decode cX2_workOut 168 = .ok (.lastore, 1) := by decide +kernel
theorem dX2_workOut_169 : decode cX2_workOut 169 = .ok (.aload_n 2, 1) := by decide +kernel
theorem dX2_workOut_170 : decode cX2_workOut 170 = .ok (.iload_n 3, 1) := by decide +kernel
theorem dX2_workOut_171 : decode cX2_workOut 171 = .ok (.laload, 1) := by decide +kernel
theorem dX2_workOut_172 : decode cX2_workOut 172 = .ok (.invokestatic 31, 3) := by decide +kernel
theorem dX2_workOut_175 : decode cX2_workOut 175 = .ok (.ifCond .eq 7, 3) := by decide +kernel
theorem dX2_workOut_178 : decode cX2_workOut 178 = .ok (.ldc2_w 25, 3) := by decide +kernel
theorem dX2_workOut_181 : decode cX2_workOut 181 = .ok (.lreturn, 1) := by decide +kernel
theorem dX2_workOut_182 : decode cX2_workOut 182 = .ok (.iinc 3 1, 3) := by decide +kernel
theorem dX2_workOut_185 : decode cX2_workOut 185 = .ok (.iinc 4 1, 3) := by decide +kernel
theorem dX2_workOut_188 : decode cX2_workOut 188 = .ok (.goto (-183), 3) := by decide +kernel
theorem dX2_workOut_191 : decode cX2_workOut 191 = .ok (.iload_n 3, 1) := by decide +kernel
theorem dX2_workOut_192 : decode cX2_workOut 192 = .ok (.iconst 1, 1) := by decide +kernel
theorem dX2_workOut_193 : decode cX2_workOut 193 = .ok (.if_icmp .ne 9, 3) := by decide +kernel
theorem dX2_workOut_196 : decode cX2_workOut 196 = .ok (.aload_n 2, 1) := by decide +kernel
theorem dX2_workOut_197 : decode cX2_workOut 197 = .ok (.iconst 0, 1) := by decide +kernel
theorem dX2_workOut_198 : decode cX2_workOut 198 = .ok (.laload, 1) := by decide +kernel
theorem dX2_workOut_199 : decode cX2_workOut 199 = .ok (.goto 6, 3) := by decide +kernel
theorem dX2_workOut_202 : decode cX2_workOut 202 = .ok (.ldc2_w 25, 3) := by decide +kernel
theorem dX2_workOut_205 : decode cX2_workOut 205 = .ok (.lreturn, 1) := by decide +kernel
theorem dX2_isBeyond_0 : decode cX2_isBeyond 0 = .ok (.lload_n 0, 1) := by decide +kernel
theorem dX2_isBeyond_1 : decode cX2_isBeyond 1 = .ok (.ldc2_w 35, 3) := by decide +kernel
theorem dX2_isBeyond_4 : decode cX2_isBeyond 4 = .ok (.lcmp, 1) := by decide +kernel
theorem dX2_isBeyond_5 : decode cX2_isBeyond 5 = .ok (.ifCond .gt 11, 3) := by decide +kernel
theorem dX2_isBeyond_8 : decode cX2_isBeyond 8 = .ok (.lload_n 0, 1) := by decide +kernel
theorem dX2_isBeyond_9 : decode cX2_isBeyond 9 = .ok (.ldc2_w 37, 3) := by decide +kernel
theorem dX2_isBeyond_12 : decode cX2_isBeyond 12 = .ok (.lcmp, 1) := by decide +kernel
theorem dX2_isBeyond_13 : decode cX2_isBeyond 13 = .ok (.ifCond .ge 7, 3) := by decide +kernel
theorem dX2_isBeyond_16 : decode cX2_isBeyond 16 = .ok (.iconst 1, 1) := by decide +kernel
theorem dX2_isBeyond_17 : decode cX2_isBeyond 17 = .ok (.goto 4, 3) := by decide +kernel
theorem dX2_isBeyond_20 : decode cX2_isBeyond 20 = .ok (.iconst 0, 1) := by decide +kernel
theorem dX2_isBeyond_21 : decode cX2_isBeyond 21 = .ok (.ireturn, 1) := by decide +kernel
theorem dX2_join_0 : decode cX2_join 0 = .ok (.iload_n 0, 1) := by decide +kernel
theorem dX2_join_1 : decode cX2_join 1 = .ok (.tableswitch 61 1013 1016 #[31, 35, 39, 45], 31) := by decide +kernel
theorem dX2_join_32 : decode cX2_join 32 = .ok (.lload_n 1, 1) := by decide +kernel
theorem dX2_join_33 : decode cX2_join 33 = .ok (.lload_n 3, 1) := by decide +kernel
theorem dX2_join_34 : decode cX2_join 34 = .ok (.ladd, 1) := by decide +kernel
theorem dX2_join_35 : decode cX2_join 35 = .ok (.lreturn, 1) := by decide +kernel
theorem dX2_join_36 : decode cX2_join 36 = .ok (.lload_n 1, 1) := by decide +kernel
theorem dX2_join_37 : decode cX2_join 37 = .ok (.lload_n 3, 1) := by decide +kernel
theorem dX2_join_38 : decode cX2_join 38 = .ok (.lsub, 1) := by decide +kernel
theorem dX2_join_39 : decode cX2_join 39 = .ok (.lreturn, 1) := by decide +kernel
theorem dX2_join_40 : decode cX2_join 40 = .ok (.lload_n 1, 1) := by decide +kernel
theorem dX2_join_41 : decode cX2_join 41 = .ok (.lload_n 3, 1) := by decide +kernel
theorem dX2_join_42 : decode cX2_join 42 = .ok (.invokestatic 39, 3) := by decide +kernel
theorem dX2_join_45 : decode cX2_join 45 = .ok (.lreturn, 1) := by decide +kernel
theorem dX2_join_46 : decode cX2_join 46 = .ok (.lload_n 3, 1) := by decide +kernel
theorem dX2_join_47 : decode cX2_join 47 = .ok (.lconst 0, 1) := by decide +kernel
theorem dX2_join_48 : decode cX2_join 48 = .ok (.lcmp, 1) := by decide +kernel
theorem dX2_join_49 : decode cX2_join 49 = .ok (.ifCond .ne 9, 3) := by decide +kernel
theorem dX2_join_52 : decode cX2_join 52 = .ok (.ldc2_w 25, 3) := by decide +kernel
theorem dX2_join_55 : decode cX2_join 55 = .ok (.goto 6, 3) := by decide +kernel
theorem dX2_join_58 : decode cX2_join 58 = .ok (.lload_n 1, 1) := by decide +kernel
theorem dX2_join_59 : decode cX2_join 59 = .ok (.lload_n 3, 1) := by decide +kernel
theorem dX2_join_60 : decode cX2_join 60 = .ok (.ldiv, 1) := by decide +kernel
theorem dX2_join_61 : decode cX2_join 61 = .ok (.lreturn, 1) := by decide +kernel
theorem dX2_join_62 : decode cX2_join 62 = .ok (.iload_n 0, 1) := by decide +kernel
theorem dX2_join_63 : decode cX2_join 63 = .ok (.lload_n 1, 1) := by decide +kernel
theorem dX2_join_64 : decode cX2_join 64 = .ok (.lload_n 3, 1) := by decide +kernel
theorem dX2_join_65 : decode cX2_join 65 = .ok (.invokestatic 43, 3) := by decide +kernel
theorem dX2_join_68 : decode cX2_join 68 = .ok (.ifCond .eq 7, 3) := by decide +kernel
theorem dX2_join_71 : decode cX2_join 71 = .ok (.lconst 1, 1) := by decide +kernel
theorem dX2_join_72 : decode cX2_join 72 = .ok (.goto 4, 3) := by decide +kernel
theorem dX2_join_75 : decode cX2_join 75 = .ok (.lconst 0, 1) := by decide +kernel
theorem dX2_join_76 : decode cX2_join 76 = .ok (.lreturn, 1) := by decide +kernel
theorem dX2_holds_0 : decode cX2_holds 0 = .ok (.iload_n 0, 1) := by decide +kernel
theorem dX2_holds_1 : decode cX2_holds 1 = .ok (.lookupswitch 157 #[(1017, 67), (1018, 79), (1019, 91), (1020, 103), (1021, 115), (1022, 127), (1115, 139)], 67) := by decide +kernel
theorem dX2_holds_68 : decode cX2_holds 68 = .ok (.lload_n 1, 1) := by decide +kernel
theorem dX2_holds_69 : decode cX2_holds 69 = .ok (.lload_n 3, 1) := by decide +kernel
theorem dX2_holds_70 : decode cX2_holds 70 = .ok (.lcmp, 1) := by decide +kernel
theorem dX2_holds_71 : decode cX2_holds 71 = .ok (.ifCond .ge 7, 3) := by decide +kernel
theorem dX2_holds_74 : decode cX2_holds 74 = .ok (.iconst 1, 1) := by decide +kernel
theorem dX2_holds_75 : decode cX2_holds 75 = .ok (.goto 4, 3) := by decide +kernel
theorem dX2_holds_78 : decode cX2_holds 78 = .ok (.iconst 0, 1) := by decide +kernel
theorem dX2_holds_79 : decode cX2_holds 79 = .ok (.ireturn, 1) := by decide +kernel
theorem dX2_holds_80 : decode cX2_holds 80 = .ok (.lload_n 1, 1) := by decide +kernel
theorem dX2_holds_81 : decode cX2_holds 81 = .ok (.lload_n 3, 1) := by decide +kernel
theorem dX2_holds_82 : decode cX2_holds 82 = .ok (.lcmp, 1) := by decide +kernel
theorem dX2_holds_83 : decode cX2_holds 83 = .ok (.ifCond .gt 7, 3) := by decide +kernel
theorem dX2_holds_86 : decode cX2_holds 86 = .ok (.iconst 1, 1) := by decide +kernel
theorem dX2_holds_87 : decode cX2_holds 87 = .ok (.goto 4, 3) := by decide +kernel
theorem dX2_holds_90 : decode cX2_holds 90 = .ok (.iconst 0, 1) := by decide +kernel
theorem dX2_holds_91 : decode cX2_holds 91 = .ok (.ireturn, 1) := by decide +kernel
theorem dX2_holds_92 : decode cX2_holds 92 = .ok (.lload_n 1, 1) := by decide +kernel
theorem dX2_holds_93 : decode cX2_holds 93 = .ok (.lload_n 3, 1) := by decide +kernel
theorem dX2_holds_94 : decode cX2_holds 94 = .ok (.lcmp, 1) := by decide +kernel
theorem dX2_holds_95 : decode cX2_holds 95 = .ok (.ifCond .ne 7, 3) := by decide +kernel
theorem dX2_holds_98 : decode cX2_holds 98 = .ok (.iconst 1, 1) := by decide +kernel
theorem dX2_holds_99 : decode cX2_holds 99 = .ok (.goto 4, 3) := by decide +kernel
theorem dX2_holds_102 : decode cX2_holds 102 = .ok (.iconst 0, 1) := by decide +kernel
theorem dX2_holds_103 : decode cX2_holds 103 = .ok (.ireturn, 1) := by decide +kernel
theorem dX2_holds_104 : decode cX2_holds 104 = .ok (.lload_n 1, 1) := by decide +kernel
theorem dX2_holds_105 : decode cX2_holds 105 = .ok (.lload_n 3, 1) := by decide +kernel
theorem dX2_holds_106 : decode cX2_holds 106 = .ok (.lcmp, 1) := by decide +kernel
theorem dX2_holds_107 : decode cX2_holds 107 = .ok (.ifCond .eq 7, 3) := by decide +kernel
theorem dX2_holds_110 : decode cX2_holds 110 = .ok (.iconst 1, 1) := by decide +kernel
theorem dX2_holds_111 : decode cX2_holds 111 = .ok (.goto 4, 3) := by decide +kernel
theorem dX2_holds_114 : decode cX2_holds 114 = .ok (.iconst 0, 1) := by decide +kernel
theorem dX2_holds_115 : decode cX2_holds 115 = .ok (.ireturn, 1) := by decide +kernel
theorem dX2_holds_116 : decode cX2_holds 116 = .ok (.lload_n 1, 1) := by decide +kernel
theorem dX2_holds_117 : decode cX2_holds 117 = .ok (.lload_n 3, 1) := by decide +kernel
theorem dX2_holds_118 : decode cX2_holds 118 = .ok (.lcmp, 1) := by decide +kernel
theorem dX2_holds_119 : decode cX2_holds 119 = .ok (.ifCond .lt 7, 3) := by decide +kernel
theorem dX2_holds_122 : decode cX2_holds 122 = .ok (.iconst 1, 1) := by decide +kernel
theorem dX2_holds_123 : decode cX2_holds 123 = .ok (.goto 4, 3) := by decide +kernel
theorem dX2_holds_126 : decode cX2_holds 126 = .ok (.iconst 0, 1) := by decide +kernel
theorem dX2_holds_127 : decode cX2_holds 127 = .ok (.ireturn, 1) := by decide +kernel
theorem dX2_holds_128 : decode cX2_holds 128 = .ok (.lload_n 1, 1) := by decide +kernel
theorem dX2_holds_129 : decode cX2_holds 129 = .ok (.lload_n 3, 1) := by decide +kernel
theorem dX2_holds_130 : decode cX2_holds 130 = .ok (.lcmp, 1) := by decide +kernel
theorem dX2_holds_131 : decode cX2_holds 131 = .ok (.ifCond .le 7, 3) := by decide +kernel
theorem dX2_holds_134 : decode cX2_holds 134 = .ok (.iconst 1, 1) := by decide +kernel
theorem dX2_holds_135 : decode cX2_holds 135 = .ok (.goto 4, 3) := by decide +kernel
theorem dX2_holds_138 : decode cX2_holds 138 = .ok (.iconst 0, 1) := by decide +kernel
theorem dX2_holds_139 : decode cX2_holds 139 = .ok (.ireturn, 1) := by decide +kernel
theorem dX2_holds_140 : decode cX2_holds 140 = .ok (.lload_n 1, 1) := by decide +kernel
theorem dX2_holds_141 : decode cX2_holds 141 = .ok (.lconst 0, 1) := by decide +kernel
theorem dX2_holds_142 : decode cX2_holds 142 = .ok (.lcmp, 1) := by decide +kernel
theorem dX2_holds_143 : decode cX2_holds 143 = .ok (.ifCond .eq 13, 3) := by decide +kernel
theorem dX2_holds_146 : decode cX2_holds 146 = .ok (.lload_n 3, 1) := by decide +kernel
theorem dX2_holds_147 : decode cX2_holds 147 = .ok (.lconst 0, 1) := by decide +kernel
theorem dX2_holds_148 : decode cX2_holds 148 = .ok (.lcmp, 1) := by decide +kernel
theorem dX2_holds_149 : decode cX2_holds 149 = .ok (.ifCond .eq 7, 3) := by decide +kernel
theorem dX2_holds_152 : decode cX2_holds 152 = .ok (.iconst 1, 1) := by decide +kernel
theorem dX2_holds_153 : decode cX2_holds 153 = .ok (.goto 4, 3) := by decide +kernel
theorem dX2_holds_156 : decode cX2_holds 156 = .ok (.iconst 0, 1) := by decide +kernel
theorem dX2_holds_157 : decode cX2_holds 157 = .ok (.ireturn, 1) := by decide +kernel
theorem dX2_holds_158 : decode cX2_holds 158 = .ok (.lload_n 1, 1) := by decide +kernel
theorem dX2_holds_159 : decode cX2_holds 159 = .ok (.lconst 0, 1) := by decide +kernel
theorem dX2_holds_160 : decode cX2_holds 160 = .ok (.lcmp, 1) := by decide +kernel
theorem dX2_holds_161 : decode cX2_holds 161 = .ok (.ifCond .ne 9, 3) := by decide +kernel
theorem dX2_holds_164 : decode cX2_holds 164 = .ok (.lload_n 3, 1) := by decide +kernel
theorem dX2_holds_165 : decode cX2_holds 165 = .ok (.lconst 0, 1) := by decide +kernel
theorem dX2_holds_166 : decode cX2_holds 166 = .ok (.lcmp, 1) := by decide +kernel
theorem dX2_holds_167 : decode cX2_holds 167 = .ok (.ifCond .eq 7, 3) := by decide +kernel
theorem dX2_holds_170 : decode cX2_holds 170 = .ok (.iconst 1, 1) := by decide +kernel
theorem dX2_holds_171 : decode cX2_holds 171 = .ok (.goto 4, 3) := by decide +kernel
theorem dX2_holds_174 : decode cX2_holds 174 = .ok (.iconst 0, 1) := by decide +kernel
theorem dX2_holds_175 : decode cX2_holds 175 = .ok (.ireturn, 1) := by decide +kernel
theorem dX2_product_0 : decode cX2_product 0 = .ok (.lload_n 0, 1) := by decide +kernel
theorem dX2_product_1 : decode cX2_product 1 = .ok (.lconst 0, 1) := by decide +kernel
theorem dX2_product_2 : decode cX2_product 2 = .ok (.lcmp, 1) := by decide +kernel
theorem dX2_product_3 : decode cX2_product 3 = .ok (.ifCond .eq 9, 3) := by decide +kernel
theorem dX2_product_6 : decode cX2_product 6 = .ok (.lload_n 2, 1) := by decide +kernel
theorem dX2_product_7 : decode cX2_product 7 = .ok (.lconst 0, 1) := by decide +kernel
theorem dX2_product_8 : decode cX2_product 8 = .ok (.lcmp, 1) := by decide +kernel
theorem dX2_product_9 : decode cX2_product 9 = .ok (.ifCond .ne 5, 3) := by decide +kernel
theorem dX2_product_12 : decode cX2_product 12 = .ok (.lconst 0, 1) := by decide +kernel
theorem dX2_product_13 : decode cX2_product 13 = .ok (.lreturn, 1) := by decide +kernel
theorem dX2_product_14 : decode cX2_product 14 = .ok (.lload_n 2, 1) := by decide +kernel
theorem dX2_product_15 : decode cX2_product 15 = .ok (.invokestatic 47, 3) := by decide +kernel
theorem dX2_product_18 : decode cX2_product 18 = .ok (.ldc2_w 35, 3) := by decide +kernel
theorem dX2_product_21 : decode cX2_product 21 = .ok (.lload_n 0, 1) := by decide +kernel
theorem dX2_product_22 : decode cX2_product 22 = .ok (.invokestatic 47, 3) := by decide +kernel
theorem dX2_product_25 : decode cX2_product 25 = .ok (.ldiv, 1) := by decide +kernel
theorem dX2_product_26 : decode cX2_product 26 = .ok (.lcmp, 1) := by decide +kernel
theorem dX2_product_27 : decode cX2_product 27 = .ok (.ifCond .le 9, 3) := by decide +kernel
theorem dX2_product_30 : decode cX2_product 30 = .ok (.ldc2_w 25, 3) := by decide +kernel
theorem dX2_product_33 : decode cX2_product 33 = .ok (.goto 6, 3) := by decide +kernel
theorem dX2_product_36 : decode cX2_product 36 = .ok (.lload_n 0, 1) := by decide +kernel
theorem dX2_product_37 : decode cX2_product 37 = .ok (.lload_n 2, 1) := by decide +kernel
theorem dX2_product_38 : decode cX2_product 38 = .ok (.lmul, 1) := by decide +kernel
theorem dX2_product_39 : decode cX2_product 39 = .ok (.lreturn, 1) := by decide +kernel
theorem dX3_init_0 : decode cX3_init 0 = .ok (.aload_n 0, 1) := by decide +kernel
theorem dX3_init_1 : decode cX3_init 1 = .ok (.invokespecial 3, 3) := by decide +kernel
theorem dX3_init_4 : decode cX3_init 4 = .ok (.aload_n 0, 1) := by decide +kernel
theorem dX3_init_5 : decode cX3_init 5 = .ok (.iconst 0, 1) := by decide +kernel
theorem dX3_init_6 : decode cX3_init 6 = .ok (.putfield 9, 3) := by decide +kernel
theorem dX3_init_9 : decode cX3_init 9 = .ok (.aload_n 0, 1) := by decide +kernel
theorem dX3_init_10 : decode cX3_init 10 = .ok (.iconst 0, 1) := by decide +kernel
theorem dX3_init_11 : decode cX3_init 11 = .ok (.putfield 15, 3) := by decide +kernel
theorem dX3_init_14 : decode cX3_init 14 = .ok (.aload_n 0, 1) := by decide +kernel
theorem dX3_init_15 : decode cX3_init 15 = .ok (.bipush 60, 2) := by decide +kernel
theorem dX3_init_17 : decode cX3_init 17 = .ok (.newarray .boolean, 2) := by decide +kernel
theorem dX3_init_19 : decode cX3_init 19 = .ok (.putfield 18, 3) := by decide +kernel
theorem dX3_init_22 : decode cX3_init 22 = .ok (.aload_n 0, 1) := by decide +kernel
theorem dX3_init_23 : decode cX3_init 23 = .ok (.bipush 60, 2) := by decide +kernel
theorem dX3_init_25 : decode cX3_init 25 = .ok (.newarray .int, 2) := by decide +kernel
theorem dX3_init_27 : decode cX3_init 27 = .ok (.putfield 22, 3) := by decide +kernel
theorem dX3_init_30 : decode cX3_init 30 = .ok (.aload_n 0, 1) := by decide +kernel
theorem dX3_init_31 : decode cX3_init 31 = .ok (.bipush 60, 2) := by decide +kernel
theorem dX3_init_33 : decode cX3_init 33 = .ok (.newarray .int, 2) := by decide +kernel
theorem dX3_init_35 : decode cX3_init 35 = .ok (.putfield 26, 3) := by decide +kernel
theorem dX3_init_38 : decode cX3_init 38 = .ok (.aload_n 0, 1) := by decide +kernel
theorem dX3_init_39 : decode cX3_init 39 = .ok (.bipush 60, 2) := by decide +kernel
theorem dX3_init_41 : decode cX3_init 41 = .ok (.newarray .int, 2) := by decide +kernel
theorem dX3_init_43 : decode cX3_init 43 = .ok (.putfield 29, 3) := by decide +kernel
theorem dX3_init_46 : decode cX3_init 46 = .ok (.aload_n 0, 1) := by decide +kernel
theorem dX3_init_47 : decode cX3_init 47 = .ok (.bipush 60, 2) := by decide +kernel
theorem dX3_init_49 : decode cX3_init 49 = .ok (.newarray .int, 2) := by decide +kernel
theorem dX3_init_51 : decode cX3_init 51 = .ok (.putfield 32, 3) := by decide +kernel
theorem dX3_init_54 : decode cX3_init 54 = .ok (.return_, 1) := by decide +kernel
theorem dX3_add_0 : decode cX3_add 0 = .ok (.aload_n 0, 1) := by decide +kernel
theorem dX3_add_1 : decode cX3_add 1 = .ok (.getfield 9, 3) := by decide +kernel
theorem dX3_add_4 : decode cX3_add 4 = .ok (.bipush 60, 2) := by decide +kernel
theorem dX3_add_6 : decode cX3_add 6 = .ok (.if_icmp .lt 4, 3) := by decide +kernel
theorem dX3_add_9 : decode cX3_add 9 = .ok (.return_, 1) := by decide +kernel
theorem dX3_add_10 : decode cX3_add 10 = .ok (.aload_n 0, 1) := by decide +kernel
theorem dX3_add_11 : decode cX3_add 11 = .ok (.getfield 18, 3) := by decide +kernel
theorem dX3_add_14 : decode cX3_add 14 = .ok (.aload_n 0, 1) := by decide +kernel
theorem dX3_add_15 : decode cX3_add 15 = .ok (.getfield 9, 3) := by decide +kernel
theorem dX3_add_18 : decode cX3_add 18 = .ok (.iload_n 1, 1) := by decide +kernel
theorem dX3_add_19 : decode cX3_add 19 = .ok (.bastore, 1) := by decide +kernel
theorem dX3_add_20 : decode cX3_add 20 = .ok (.aload_n 0, 1) := by decide +kernel
theorem dX3_add_21 : decode cX3_add 21 = .ok (.getfield 22, 3) := by decide +kernel
theorem dX3_add_24 : decode cX3_add 24 = .ok (.aload_n 0, 1) := by decide +kernel
theorem dX3_add_25 : decode cX3_add 25 = .ok (.getfield 9, 3) := by decide +kernel
theorem dX3_add_28 : decode cX3_add 28 = .ok (.iload_n 2, 1) := by decide +kernel
theorem dX3_add_29 : decode cX3_add 29 = .ok (.iastore, 1) := by decide +kernel
theorem dX3_add_30 : decode cX3_add 30 = .ok (.aload_n 0, 1) := by decide +kernel
theorem dX3_add_31 : decode cX3_add 31 = .ok (.getfield 26, 3) := by decide +kernel
theorem dX3_add_34 : decode cX3_add 34 = .ok (.aload_n 0, 1) := by decide +kernel
theorem dX3_add_35 : decode cX3_add 35 = .ok (.getfield 9, 3) := by decide +kernel
theorem dX3_add_38 : decode cX3_add 38 = .ok (.iload_n 3, 1) := by decide +kernel
theorem dX3_add_39 : decode cX3_add 39 = .ok (.iastore, 1) := by decide +kernel
theorem dX3_add_40 : decode cX3_add 40 = .ok (.aload_n 0, 1) := by decide +kernel
theorem dX3_add_41 : decode cX3_add 41 = .ok (.getfield 29, 3) := by decide +kernel
theorem dX3_add_44 : decode cX3_add 44 = .ok (.aload_n 0, 1) := by decide +kernel
theorem dX3_add_45 : decode cX3_add 45 = .ok (.getfield 9, 3) := by decide +kernel
theorem dX3_add_48 : decode cX3_add 48 = .ok (.iload 4, 2) := by decide +kernel
theorem dX3_add_50 : decode cX3_add 50 = .ok (.iastore, 1) := by decide +kernel
theorem dX3_add_51 : decode cX3_add 51 = .ok (.aload_n 0, 1) := by decide +kernel
theorem dX3_add_52 : decode cX3_add 52 = .ok (.getfield 32, 3) := by decide +kernel
theorem dX3_add_55 : decode cX3_add 55 = .ok (.aload_n 0, 1) := by decide +kernel
theorem dX3_add_56 : decode cX3_add 56 = .ok (.getfield 9, 3) := by decide +kernel
theorem dX3_add_59 : decode cX3_add 59 = .ok (.iload 5, 2) := by decide +kernel
theorem dX3_add_61 : decode cX3_add 61 = .ok (.iastore, 1) := by decide +kernel
theorem dX3_add_62 : decode cX3_add 62 = .ok (.aload_n 0, 1) := by decide +kernel
theorem dX3_add_63 : decode cX3_add 63 = .ok (.dup, 1) := by decide +kernel
theorem dX3_add_64 : decode cX3_add 64 = .ok (.getfield 9, 3) := by decide +kernel
theorem dX3_add_67 : decode cX3_add 67 = .ok (.iconst 1, 1) := by decide +kernel
theorem dX3_add_68 : decode cX3_add 68 = .ok (.iadd, 1) := by decide +kernel
theorem dX3_add_69 : decode cX3_add 69 = .ok (.putfield 9, 3) := by decide +kernel
theorem dX3_add_72 : decode cX3_add 72 = .ok (.return_, 1) := by decide +kernel
theorem dX3_takeBack_0 : decode cX3_takeBack 0 = .ok (.aload_n 0, 1) := by decide +kernel
theorem dX3_takeBack_1 : decode cX3_takeBack 1 = .ok (.getfield 9, 3) := by decide +kernel
theorem dX3_takeBack_4 : decode cX3_takeBack 4 = .ok (.aload_n 0, 1) := by decide +kernel
theorem dX3_takeBack_5 : decode cX3_takeBack 5 = .ok (.getfield 15, 3) := by decide +kernel
theorem dX3_takeBack_8 : decode cX3_takeBack 8 = .ok (.if_icmp .gt 5, 3) := by decide +kernel
theorem dX3_takeBack_11 : decode cX3_takeBack 11 = .ok (.iconst (-1), 1) := by decide +kernel
theorem dX3_takeBack_12 : decode cX3_takeBack 12 = .ok (.ireturn, 1) := by decide +kernel
theorem dX3_takeBack_13 : decode cX3_takeBack 13 = .ok (.aload_n 0, 1) := by decide +kernel
theorem dX3_takeBack_14 : decode cX3_takeBack 14 = .ok (.dup, 1) := by decide +kernel
theorem dX3_takeBack_15 : decode cX3_takeBack 15 = .ok (.getfield 9, 3) := by decide +kernel
theorem dX3_takeBack_18 : decode cX3_takeBack 18 = .ok (.iconst 1, 1) := by decide +kernel
theorem dX3_takeBack_19 : decode cX3_takeBack 19 = .ok (.isub, 1) := by decide +kernel
theorem dX3_takeBack_20 : decode cX3_takeBack 20 = .ok (.putfield 9, 3) := by decide +kernel
theorem dX3_takeBack_23 : decode cX3_takeBack 23 = .ok (.aload_n 0, 1) := by decide +kernel
theorem dX3_takeBack_24 : decode cX3_takeBack 24 = .ok (.getfield 9, 3) := by decide +kernel
theorem dX3_takeBack_27 : decode cX3_takeBack 27 = .ok (.aload_n 0, 1) := by decide +kernel
theorem dX3_takeBack_28 : decode cX3_takeBack 28 = .ok (.getfield 15, 3) := by decide +kernel
theorem dX3_takeBack_31 : decode cX3_takeBack 31 = .ok (.isub, 1) := by decide +kernel
theorem dX3_takeBack_32 : decode cX3_takeBack 32 = .ok (.ireturn, 1) := by decide +kernel
theorem dX3_latestHour_0 : decode cX3_latestHour 0 = .ok (.aload_n 0, 1) := by decide +kernel
theorem dX3_latestHour_1 : decode cX3_latestHour 1 = .ok (.getfield 9, 3) := by decide +kernel
theorem dX3_latestHour_4 : decode cX3_latestHour 4 = .ok (.iconst 1, 1) := by decide +kernel
theorem dX3_latestHour_5 : decode cX3_latestHour 5 = .ok (.isub, 1) := by decide +kernel
theorem dX3_latestHour_6 : decode cX3_latestHour 6 = .ok (.istore_n 2, 1) := by decide +kernel
theorem dX3_latestHour_7 : decode cX3_latestHour 7 = .ok (.iload_n 2, 1) := by decide +kernel
theorem dX3_latestHour_8 : decode cX3_latestHour 8 = .ok (.ifCond .lt 26, 3) := by decide +kernel
theorem dX3_latestHour_11 : decode cX3_latestHour 11 = .ok (.aload_n 0, 1) := by decide +kernel
theorem dX3_latestHour_12 : decode cX3_latestHour 12 = .ok (.getfield 22, 3) := by decide +kernel
theorem dX3_latestHour_15 : decode cX3_latestHour 15 = .ok (.iload_n 2, 1) := by decide +kernel
theorem dX3_latestHour_16 : decode cX3_latestHour 16 = .ok (.iaload, 1) := by decide +kernel
theorem dX3_latestHour_17 : decode cX3_latestHour 17 = .ok (.iload_n 1, 1) := by decide +kernel
theorem dX3_latestHour_18 : decode cX3_latestHour 18 = .ok (.if_icmp .ne 10, 3) := by decide +kernel
theorem dX3_latestHour_21 : decode cX3_latestHour 21 = .ok (.aload_n 0, 1) := by decide +kernel
theorem dX3_latestHour_22 : decode cX3_latestHour 22 = .ok (.getfield 26, 3) := by decide +kernel
theorem dX3_latestHour_25 : decode cX3_latestHour 25 = .ok (.iload_n 2, 1) := by decide +kernel
theorem dX3_latestHour_26 : decode cX3_latestHour 26 = .ok (.iaload, 1) := by decide +kernel
theorem dX3_latestHour_27 : decode cX3_latestHour 27 = .ok (.ireturn, 1) := by decide +kernel
theorem dX3_latestHour_28 : decode cX3_latestHour 28 = .ok (.iinc 2 (-1), 3) := by decide +kernel
theorem dX3_latestHour_31 : decode cX3_latestHour 31 = .ok (.goto (-24), 3) := by decide +kernel
theorem dX3_latestHour_34 : decode cX3_latestHour 34 = .ok (.iconst 0, 1) := by decide +kernel
theorem dX3_latestHour_35 : decode cX3_latestHour 35 = .ok (.ireturn, 1) := by decide +kernel
theorem dX3_isSameTalk_0 : decode cX3_isSameTalk 0 = .ok (.aload_n 0, 1) := by decide +kernel
theorem dX3_isSameTalk_1 : decode cX3_isSameTalk 1 = .ok (.getfield 22, 3) := by decide +kernel
theorem dX3_isSameTalk_4 : decode cX3_isSameTalk 4 = .ok (.iload_n 1, 1) := by decide +kernel
theorem dX3_isSameTalk_5 : decode cX3_isSameTalk 5 = .ok (.iaload, 1) := by decide +kernel
theorem dX3_isSameTalk_6 : decode cX3_isSameTalk 6 = .ok (.aload_n 0, 1) := by decide +kernel
theorem dX3_isSameTalk_7 : decode cX3_isSameTalk 7 = .ok (.getfield 22, 3) := by decide +kernel
theorem dX3_isSameTalk_10 : decode cX3_isSameTalk 10 = .ok (.iload_n 2, 1) := by decide +kernel
theorem dX3_isSameTalk_11 : decode cX3_isSameTalk 11 = .ok (.iaload, 1) := by decide +kernel
theorem dX3_isSameTalk_12 : decode cX3_isSameTalk 12 = .ok (.if_icmp .ne 22, 3) := by decide +kernel
theorem dX3_isSameTalk_15 : decode cX3_isSameTalk 15 = .ok (.aload_n 0, 1) := by decide +kernel
theorem dX3_isSameTalk_16 : decode cX3_isSameTalk 16 = .ok (.getfield 29, 3) := by decide +kernel
theorem dX3_isSameTalk_19 : decode cX3_isSameTalk 19 = .ok (.iload_n 1, 1) := by decide +kernel
theorem dX3_isSameTalk_20 : decode cX3_isSameTalk 20 = .ok (.iaload, 1) := by decide +kernel
theorem dX3_isSameTalk_21 : decode cX3_isSameTalk 21 = .ok (.aload_n 0, 1) := by decide +kernel
theorem dX3_isSameTalk_22 : decode cX3_isSameTalk 22 = .ok (.getfield 29, 3) := by decide +kernel
theorem dX3_isSameTalk_25 : decode cX3_isSameTalk 25 = .ok (.iload_n 2, 1) := by decide +kernel
theorem dX3_isSameTalk_26 : decode cX3_isSameTalk 26 = .ok (.iaload, 1) := by decide +kernel
theorem dX3_isSameTalk_27 : decode cX3_isSameTalk 27 = .ok (.if_icmp .ne 7, 3) := by decide +kernel
theorem dX3_isSameTalk_30 : decode cX3_isSameTalk 30 = .ok (.iconst 1, 1) := by decide +kernel
theorem dX3_isSameTalk_31 : decode cX3_isSameTalk 31 = .ok (.goto 4, 3) := by decide +kernel
theorem dX3_isSameTalk_34 : decode cX3_isSameTalk 34 = .ok (.iconst 0, 1) := by decide +kernel
theorem dX3_isSameTalk_35 : decode cX3_isSameTalk 35 = .ok (.ireturn, 1) := by decide +kernel
theorem dX4_init_0 : decode cX4_init 0 = .ok (.aload_n 0, 1) := by decide +kernel
theorem dX4_init_1 : decode cX4_init 1 = .ok (.invokespecial 3, 3) := by decide +kernel
theorem dX4_init_4 : decode cX4_init 4 = .ok (.aload_n 0, 1) := by decide +kernel
theorem dX4_init_5 : decode cX4_init 5 = .ok (.bipush 10, 2) := by decide +kernel
theorem dX4_init_7 : decode cX4_init 7 = .ok (.newarray .int, 2) := by decide +kernel
theorem dX4_init_9 : decode cX4_init 9 = .ok (.putfield 11, 3) := by decide +kernel
theorem dX4_init_12 : decode cX4_init 12 = .ok (.aload_n 0, 1) := by decide +kernel
theorem dX4_init_13 : decode cX4_init 13 = .ok (.bipush 64, 2) := by decide +kernel
theorem dX4_init_15 : decode cX4_init 15 = .ok (.newarray .long, 2) := by decide +kernel
theorem dX4_init_17 : decode cX4_init 17 = .ok (.putfield 15, 3) := by decide +kernel
theorem dX4_init_20 : decode cX4_init 20 = .ok (.return_, 1) := by decide +kernel
theorem dX4_lawAt_0 : decode cX4_lawAt 0 = .ok (.aload_n 0, 1) := by decide +kernel
theorem dX4_lawAt_1 : decode cX4_lawAt 1 = .ok (.aload_n 1, 1) := by decide +kernel
theorem dX4_lawAt_2 : decode cX4_lawAt 2 = .ok (.iload_n 2, 1) := by decide +kernel
theorem dX4_lawAt_3 : decode cX4_lawAt 3 = .ok (.invokevirtual 19, 3) := by decide +kernel
theorem dX4_lawAt_6 : decode cX4_lawAt 6 = .ok (.aload_n 1, 1) := by decide +kernel
theorem dX4_lawAt_7 : decode cX4_lawAt 7 = .ok (.getfield 23, 3) := by decide +kernel
theorem dX4_lawAt_10 : decode cX4_lawAt 10 = .ok (.aload_n 0, 1) := by decide +kernel
theorem dX4_lawAt_11 : decode cX4_lawAt 11 = .ok (.getfield 11, 3) := by decide +kernel
theorem dX4_lawAt_14 : decode cX4_lawAt 14 = .ok (.aload_n 0, 1) := by decide +kernel
theorem dX4_lawAt_15 : decode cX4_lawAt 15 = .ok (.getfield 15, 3) := by decide +kernel
theorem dX4_lawAt_18 : decode cX4_lawAt 18 = .ok (.invokevirtual 29, 3) := by decide +kernel
theorem dX4_lawAt_21 : decode cX4_lawAt 21 = .ok (.lstore_n 3, 1) := by decide +kernel
theorem dX4_lawAt_22 : decode cX4_lawAt 22 = .ok (.lload_n 3, 1) := by decide +kernel
theorem dX4_lawAt_23 : decode cX4_lawAt 23 = .ok (.ldc2_w 35, 3) := by decide +kernel
theorem dX4_lawAt_26 : decode cX4_lawAt 26 = .ok (.lcmp, 1) := by decide +kernel
theorem dX4_lawAt_27 : decode cX4_lawAt 27 = .ok (.ifCond .ne 6, 3) := by decide +kernel
theorem dX4_lawAt_30 : decode cX4_lawAt 30 = .ok (.bipush 50, 2) := by decide +kernel
theorem dX4_lawAt_32 : decode cX4_lawAt 32 = .ok (.ireturn, 1) := by decide +kernel
theorem dX4_lawAt_33 : decode cX4_lawAt 33 = .ok (.lconst 0, 1) := by decide +kernel
theorem dX4_lawAt_34 : decode cX4_lawAt 34 = .ok (.ldc2_w 37, 3) := by decide +kernel
theorem dX4_lawAt_37 : decode cX4_lawAt 37 = .ok (.lload_n 3, 1) := by decide +kernel
theorem dX4_lawAt_38 : decode cX4_lawAt 38 = .ok (.invokestatic 39, 3) := by decide +kernel
theorem dX4_lawAt_41 : decode cX4_lawAt 41 = .ok (.invokestatic 45, 3) := by decide +kernel
theorem dX4_lawAt_44 : decode cX4_lawAt 44 = .ok (.l2i, 1) := by decide +kernel
theorem dX4_lawAt_45 : decode cX4_lawAt 45 = .ok (.ireturn, 1) := by decide +kernel
theorem dX4_bars_0 : decode cX4_bars 0 = .ok (.aload_n 0, 1) := by decide +kernel
theorem dX4_bars_1 : decode cX4_bars 1 = .ok (.aload_n 1, 1) := by decide +kernel
theorem dX4_bars_2 : decode cX4_bars 2 = .ok (.iload_n 2, 1) := by decide +kernel
theorem dX4_bars_3 : decode cX4_bars 3 = .ok (.invokevirtual 48, 3) := by decide +kernel
theorem dX4_bars_6 : decode cX4_bars 6 = .ok (.aload_n 0, 1) := by decide +kernel
theorem dX4_bars_7 : decode cX4_bars 7 = .ok (.aload_n 1, 1) := by decide +kernel
theorem dX4_bars_8 : decode cX4_bars 8 = .ok (.getfield 51, 3) := by decide +kernel
theorem dX4_bars_11 : decode cX4_bars 11 = .ok (.invokevirtual 54, 3) := by decide +kernel
theorem dX4_bars_14 : decode cX4_bars 14 = .ok (.ireturn, 1) := by decide +kernel
theorem dX4_finds_0 : decode cX4_finds 0 = .ok (.iload_n 3, 1) := by decide +kernel
theorem dX4_finds_1 : decode cX4_finds 1 = .ok (.ifCond .ne 12, 3) := by decide +kernel
theorem dX4_finds_4 : decode cX4_finds 4 = .ok (.aload_n 0, 1) := by decide +kernel
theorem dX4_finds_5 : decode cX4_finds 5 = .ok (.aload_n 1, 1) := by decide +kernel
theorem dX4_finds_6 : decode cX4_finds 6 = .ok (.iload_n 2, 1) := by decide +kernel
theorem dX4_finds_7 : decode cX4_finds 7 = .ok (.invokevirtual 58, 3) := by decide +kernel
theorem dX4_finds_10 : decode cX4_finds 10 = .ok (.goto 23, 3) := by decide +kernel
theorem dX4_finds_13 : decode cX4_finds 13 = .ok (.iload_n 3, 1) := by decide +kernel
theorem dX4_finds_14 : decode cX4_finds 14 = .ok (.iconst 1, 1) := by decide +kernel
theorem dX4_finds_15 : decode cX4_finds 15 = .ok (.if_icmp .ne 12, 3) := by decide +kernel
theorem dX4_finds_18 : decode cX4_finds 18 = .ok (.aload_n 0, 1) := by decide +kernel
theorem dX4_finds_19 : decode cX4_finds 19 = .ok (.aload_n 1, 1) := by decide +kernel
theorem dX4_finds_20 : decode cX4_finds 20 = .ok (.iload_n 2, 1) := by decide +kernel
theorem dX4_finds_21 : decode cX4_finds 21 = .ok (.invokevirtual 61, 3) := by decide +kernel
theorem dX4_finds_24 : decode cX4_finds 24 = .ok (.goto 9, 3) := by decide +kernel
theorem dX4_finds_27 : decode cX4_finds 27 = .ok (.aload_n 0, 1) := by decide +kernel
theorem dX4_finds_28 : decode cX4_finds 28 = .ok (.aload_n 1, 1) := by decide +kernel
theorem dX4_finds_29 : decode cX4_finds 29 = .ok (.iload_n 2, 1) := by decide +kernel
theorem dX4_finds_30 : decode cX4_finds 30 = .ok (.invokevirtual 48, 3) := by decide +kernel
theorem dX4_finds_33 : decode cX4_finds 33 = .ok (.aload_n 0, 1) := by decide +kernel
theorem dX4_finds_34 : decode cX4_finds 34 = .ok (.aload_n 1, 1) := by decide +kernel
theorem dX4_finds_35 : decode cX4_finds 35 = .ok (.getfield 64, 3) := by decide +kernel
theorem dX4_finds_38 : decode cX4_finds 38 = .ok (.invokevirtual 54, 3) := by decide +kernel
theorem dX4_finds_41 : decode cX4_finds 41 = .ok (.ireturn, 1) := by decide +kernel
theorem dX4_isSo_0 : decode cX4_isSo 0 = .ok (.aload_n 1, 1) := by decide +kernel
theorem dX4_isSo_1 : decode cX4_isSo 1 = .ok (.aload_n 0, 1) := by decide +kernel
theorem dX4_isSo_2 : decode cX4_isSo 2 = .ok (.getfield 11, 3) := by decide +kernel
theorem dX4_isSo_5 : decode cX4_isSo 5 = .ok (.aload_n 0, 1) := by decide +kernel
theorem dX4_isSo_6 : decode cX4_isSo 6 = .ok (.getfield 15, 3) := by decide +kernel
theorem dX4_isSo_9 : decode cX4_isSo 9 = .ok (.invokevirtual 29, 3) := by decide +kernel
theorem dX4_isSo_12 : decode cX4_isSo 12 = .ok (.lstore_n 2, 1) := by decide +kernel
theorem dX4_isSo_13 : decode cX4_isSo 13 = .ok (.lload_n 2, 1) := by decide +kernel
theorem dX4_isSo_14 : decode cX4_isSo 14 = .ok (.ldc2_w 35, 3) := by decide +kernel
theorem dX4_isSo_17 : decode cX4_isSo 17 = .ok (.lcmp, 1) := by decide +kernel
theorem dX4_isSo_18 : decode cX4_isSo 18 = .ok (.ifCond .eq 13, 3) := by decide +kernel
theorem dX4_isSo_21 : decode cX4_isSo 21 = .ok (.lload_n 2, 1) := by decide +kernel
theorem dX4_isSo_22 : decode cX4_isSo 22 = .ok (.lconst 0, 1) := by decide +kernel
theorem dX4_isSo_23 : decode cX4_isSo 23 = .ok (.lcmp, 1) := by decide +kernel
theorem dX4_isSo_24 : decode cX4_isSo 24 = .ok (.ifCond .eq 7, 3) := by decide +kernel
theorem dX4_isSo_27 : decode cX4_isSo 27 = .ok (.iconst 1, 1) := by decide +kernel
theorem dX4_isSo_28 : decode cX4_isSo 28 = .ok (.goto 4, 3) := by decide +kernel
theorem dX4_isSo_31 : decode cX4_isSo 31 = .ok (.iconst 0, 1) := by decide +kernel
theorem dX4_isSo_32 : decode cX4_isSo 32 = .ok (.ireturn, 1) := by decide +kernel
theorem dX4_start_0 : decode cX4_start 0 = .ok (.iconst 0, 1) := by decide +kernel
theorem dX4_start_1 : decode cX4_start 1 = .ok (.istore_n 3, 1) := by decide +kernel
theorem dX4_start_2 : decode cX4_start 2 = .ok (.iload_n 3, 1) := by decide +kernel
theorem dX4_start_3 : decode cX4_start 3 = .ok (.bipush 10, 2) := by decide +kernel
theorem dX4_start_5 : decode cX4_start 5 = .ok (.if_icmp .ge 16, 3) := by decide +kernel
theorem dX4_start_8 : decode cX4_start 8 = .ok (.aload_n 0, 1) := by decide +kernel
theorem dX4_start_9 : decode cX4_start 9 = .ok (.getfield 11, 3) := by decide +kernel
theorem dX4_start_12 : decode cX4_start 12 = .ok (.iload_n 3, 1) := by decide +kernel
theorem dX4_start_13 : decode cX4_start 13 = .ok (.iconst 0, 1) := by decide +kernel
theorem dX4_start_14 : decode cX4_start 14 = .ok (.iastore, 1) := by decide +kernel
theorem dX4_start_15 : decode cX4_start 15 = .ok (.iinc 3 1, 3) := by decide +kernel
theorem dX4_start_18 : decode cX4_start 18 = .ok (.goto (-16), 3) := by decide +kernel
theorem dX4_start_21 : decode cX4_start 21 = .ok (.aload_n 0, 1) := by decide +kernel
theorem dX4_start_22 : decode cX4_start 22 = .ok (.getfield 11, 3) := by decide +kernel
theorem dX4_start_25 : decode cX4_start 25 = .ok (.iconst 0, 1) := by decide +kernel
theorem dX4_start_26 : decode cX4_start 26 = .ok (.aload_n 1, 1) := by decide +kernel
theorem dX4_start_27 : decode cX4_start 27 = .ok (.getfield 67, 3) := by decide +kernel
theorem dX4_start_30 : decode cX4_start 30 = .ok (.getfield 71, 3) := by decide +kernel
theorem dX4_start_33 : decode cX4_start 33 = .ok (.iload_n 2, 1) := by decide +kernel
theorem dX4_start_34 : decode cX4_start 34 = .ok (.iaload, 1) := by decide +kernel
theorem dX4_start_35 : decode cX4_start 35 = .ok (.iastore, 1) := by decide +kernel
theorem dX4_start_36 : decode cX4_start 36 = .ok (.return_, 1) := by decide +kernel
theorem dX4_setAtWord_0 : decode cX4_setAtWord 0 = .ok (.aload_n 1, 1) := by decide +kernel
theorem dX4_setAtWord_1 : decode cX4_setAtWord 1 = .ok (.getfield 76, 3) := by decide +kernel
theorem dX4_setAtWord_4 : decode cX4_setAtWord 4 = .ok (.astore_n 3, 1) := by decide +kernel
theorem dX4_setAtWord_5 : decode cX4_setAtWord 5 = .ok (.aload_n 3, 1) := by decide +kernel
theorem dX4_setAtWord_6 : decode cX4_setAtWord 6 = .ok (.getfield 80, 3) := by decide +kernel
theorem dX4_setAtWord_9 : decode cX4_setAtWord 9 = .ok (.iload_n 2, 1) := by decide +kernel
theorem dX4_setAtWord_10 : decode cX4_setAtWord 10 = .ok (.iaload, 1) := by decide +kernel
theorem dX4_setAtWord_11 : decode cX4_setAtWord 11 = .ok (.istore 4, 2) := by decide +kernel
theorem dX4_setAtWord_13 : decode cX4_setAtWord 13 = .ok (.aload_n 0, 1) := by decide +kernel
theorem dX4_setAtWord_14 : decode cX4_setAtWord 14 = .ok (.aload_n 1, 1) := by decide +kernel
theorem dX4_setAtWord_15 : decode cX4_setAtWord 15 = .ok (.iload 4, 2) := by decide +kernel
theorem dX4_setAtWord_17 : decode cX4_setAtWord 17 = .ok (.invokevirtual 85, 3) := by decide +kernel
theorem dX4_setAtWord_20 : decode cX4_setAtWord 20 = .ok (.aload_n 0, 1) := by decide +kernel
theorem dX4_setAtWord_21 : decode cX4_setAtWord 21 = .ok (.getfield 11, 3) := by decide +kernel
theorem dX4_setAtWord_24 : decode cX4_setAtWord 24 = .ok (.iconst 1, 1) := by decide +kernel
theorem dX4_setAtWord_25 : decode cX4_setAtWord 25 = .ok (.aload_n 3, 1) := by decide +kernel
theorem dX4_setAtWord_26 : decode cX4_setAtWord 26 = .ok (.getfield 88, 3) := by decide +kernel
theorem dX4_setAtWord_29 : decode cX4_setAtWord 29 = .ok (.iload_n 2, 1) := by decide +kernel
theorem dX4_setAtWord_30 : decode cX4_setAtWord 30 = .ok (.iaload, 1) := by decide +kernel
theorem dX4_setAtWord_31 : decode cX4_setAtWord 31 = .ok (.aload_n 1, 1) := by decide +kernel
theorem dX4_setAtWord_32 : decode cX4_setAtWord 32 = .ok (.getfield 67, 3) := by decide +kernel
theorem dX4_setAtWord_35 : decode cX4_setAtWord 35 = .ok (.getfield 91, 3) := by decide +kernel
theorem dX4_setAtWord_38 : decode cX4_setAtWord 38 = .ok (.iload 4, 2) := by decide +kernel
theorem dX4_setAtWord_40 : decode cX4_setAtWord 40 = .ok (.iaload, 1) := by decide +kernel
theorem dX4_setAtWord_41 : decode cX4_setAtWord 41 = .ok (.isub, 1) := by decide +kernel
theorem dX4_setAtWord_42 : decode cX4_setAtWord 42 = .ok (.iastore, 1) := by decide +kernel
theorem dX4_setAtWord_43 : decode cX4_setAtWord 43 = .ok (.aload_n 0, 1) := by decide +kernel
theorem dX4_setAtWord_44 : decode cX4_setAtWord 44 = .ok (.getfield 11, 3) := by decide +kernel
theorem dX4_setAtWord_47 : decode cX4_setAtWord 47 = .ok (.iconst 2, 1) := by decide +kernel
theorem dX4_setAtWord_48 : decode cX4_setAtWord 48 = .ok (.aload_n 1, 1) := by decide +kernel
theorem dX4_setAtWord_49 : decode cX4_setAtWord 49 = .ok (.getfield 67, 3) := by decide +kernel
theorem dX4_setAtWord_52 : decode cX4_setAtWord 52 = .ok (.iload 4, 2) := by decide +kernel
theorem dX4_setAtWord_54 : decode cX4_setAtWord 54 = .ok (.aload_n 3, 1) := by decide +kernel
theorem dX4_setAtWord_55 : decode cX4_setAtWord 55 = .ok (.getfield 88, 3) := by decide +kernel
theorem dX4_setAtWord_58 : decode cX4_setAtWord 58 = .ok (.iload_n 2, 1) := by decide +kernel
theorem dX4_setAtWord_59 : decode cX4_setAtWord 59 = .ok (.iaload, 1) := by decide +kernel
theorem dX4_setAtWord_60 : decode cX4_setAtWord 60 = .ok (.invokevirtual 94, 3) := by decide +kernel
theorem dX4_setAtWord_63 : decode cX4_setAtWord 63 = .ok (.iastore, 1) := by decide +kernel
theorem dX4_setAtWord_64 : decode cX4_setAtWord 64 = .ok (.iconst 0, 1) := by decide +kernel
theorem dX4_setAtWord_65 : decode cX4_setAtWord 65 = .ok (.istore 5, 2) := by decide +kernel
theorem dX4_setAtWord_67 : decode cX4_setAtWord 67 = .ok (.iload 5, 2) := by decide +kernel
theorem dX4_setAtWord_69 : decode cX4_setAtWord 69 = .ok (.iload_n 2, 1) := by decide +kernel
theorem dX4_setAtWord_70 : decode cX4_setAtWord 70 = .ok (.if_icmp .ge 42, 3) := by decide +kernel
theorem dX4_setAtWord_73 : decode cX4_setAtWord 73 = .ok (.aload_n 3, 1) := by decide +kernel
theorem dX4_setAtWord_74 : decode cX4_setAtWord 74 = .ok (.getfield 80, 3) := by decide +kernel
theorem dX4_setAtWord_77 : decode cX4_setAtWord 77 = .ok (.iload 5, 2) := by decide +kernel
theorem dX4_setAtWord_79 : decode cX4_setAtWord 79 = .ok (.iaload, 1) := by decide +kernel
theorem dX4_setAtWord_80 : decode cX4_setAtWord 80 = .ok (.iload 4, 2) := by decide +kernel
theorem dX4_setAtWord_82 : decode cX4_setAtWord 82 = .ok (.if_icmp .ne 24, 3) := by decide +kernel
theorem dX4_setAtWord_85 : decode cX4_setAtWord 85 = .ok (.aload_n 3, 1) := by decide +kernel
theorem dX4_setAtWord_86 : decode cX4_setAtWord 86 = .ok (.getfield 98, 3) := by decide +kernel
theorem dX4_setAtWord_89 : decode cX4_setAtWord 89 = .ok (.iload 5, 2) := by decide +kernel
theorem dX4_setAtWord_91 : decode cX4_setAtWord 91 = .ok (.baload, 1) := by decide +kernel
theorem dX4_setAtWord_92 : decode cX4_setAtWord 92 = .ok (.ifCond .ne 14, 3) := by decide +kernel
theorem dX4_setAtWord_95 : decode cX4_setAtWord 95 = .ok (.aload_n 0, 1) := by decide +kernel
theorem dX4_setAtWord_96 : decode cX4_setAtWord 96 = .ok (.aload_n 3, 1) := by decide +kernel
theorem dX4_setAtWord_97 : decode cX4_setAtWord 97 = .ok (.getfield 102, 3) := by decide +kernel
theorem dX4_setAtWord_100 : decode cX4_setAtWord 100 = .ok (.iload 5, 2) := by decide +kernel
theorem dX4_setAtWord_102 : decode cX4_setAtWord 102 = .ok (.iaload, 1) := by decide +kernel
theorem dX4_setAtWord_103 : decode cX4_setAtWord 103 = .ok (.invokevirtual 103, 3) := by decide +kernel
theorem dX4_setAtWord_106 : decode cX4_setAtWord 106 = .ok (.iinc 5 1, 3) := by decide +kernel
theorem dX4_setAtWord_109 : decode cX4_setAtWord 109 = .ok (.goto (-42), 3) := by decide +kernel
theorem dX4_setAtWord_112 : decode cX4_setAtWord 112 = .ok (.return_, 1) := by decide +kernel
theorem dX4_setTalk_0 : decode cX4_setTalk 0 = .ok (.aload_n 1, 1) := by decide +kernel
theorem dX4_setTalk_1 : decode cX4_setTalk 1 = .ok (.getfield 67, 3) := by decide +kernel
theorem dX4_setTalk_4 : decode cX4_setTalk 4 = .ok (.getfield 107, 3) := by decide +kernel
theorem dX4_setTalk_7 : decode cX4_setTalk 7 = .ok (.iload_n 2, 1) := by decide +kernel
theorem dX4_setTalk_8 : decode cX4_setTalk 8 = .ok (.iaload, 1) := by decide +kernel
theorem dX4_setTalk_9 : decode cX4_setTalk 9 = .ok (.istore_n 3, 1) := by decide +kernel
theorem dX4_setTalk_10 : decode cX4_setTalk 10 = .ok (.aload_n 0, 1) := by decide +kernel
theorem dX4_setTalk_11 : decode cX4_setTalk 11 = .ok (.aload_n 1, 1) := by decide +kernel
theorem dX4_setTalk_12 : decode cX4_setTalk 12 = .ok (.iload_n 2, 1) := by decide +kernel
theorem dX4_setTalk_13 : decode cX4_setTalk 13 = .ok (.invokevirtual 85, 3) := by decide +kernel
theorem dX4_setTalk_16 : decode cX4_setTalk 16 = .ok (.aload_n 0, 1) := by decide +kernel
theorem dX4_setTalk_17 : decode cX4_setTalk 17 = .ok (.getfield 11, 3) := by decide +kernel
theorem dX4_setTalk_20 : decode cX4_setTalk 20 = .ok (.iconst 1, 1) := by decide +kernel
theorem dX4_setTalk_21 : decode cX4_setTalk 21 = .ok (.iload_n 3, 1) := by decide +kernel
theorem dX4_setTalk_22 : decode cX4_setTalk 22 = .ok (.aload_n 1, 1) := by decide +kernel
theorem dX4_setTalk_23 : decode cX4_setTalk 23 = .ok (.getfield 67, 3) := by decide +kernel
theorem dX4_setTalk_26 : decode cX4_setTalk 26 = .ok (.getfield 91, 3) := by decide +kernel
theorem dX4_setTalk_29 : decode cX4_setTalk 29 = .ok (.iload_n 2, 1) := by decide +kernel
theorem dX4_setTalk_30 : decode cX4_setTalk 30 = .ok (.iaload, 1) := by decide +kernel
theorem dX4_setTalk_31 : decode cX4_setTalk 31 = .ok (.isub, 1) := by decide +kernel
theorem dX4_setTalk_32 : decode cX4_setTalk 32 = .ok (.iastore, 1) := by decide +kernel
theorem dX4_setTalk_33 : decode cX4_setTalk 33 = .ok (.aload_n 0, 1) := by decide +kernel
theorem dX4_setTalk_34 : decode cX4_setTalk 34 = .ok (.getfield 11, 3) := by decide +kernel
theorem dX4_setTalk_37 : decode cX4_setTalk 37 = .ok (.iconst 2, 1) := by decide +kernel
theorem dX4_setTalk_38 : decode cX4_setTalk 38 = .ok (.aload_n 1, 1) := by decide +kernel
theorem dX4_setTalk_39 : decode cX4_setTalk 39 = .ok (.getfield 67, 3) := by decide +kernel
theorem dX4_setTalk_42 : decode cX4_setTalk 42 = .ok (.iload_n 2, 1) := by decide +kernel
theorem dX4_setTalk_43 : decode cX4_setTalk 43 = .ok (.iload_n 3, 1) := by decide +kernel
theorem dX4_setTalk_44 : decode cX4_setTalk 44 = .ok (.invokevirtual 94, 3) := by decide +kernel
theorem dX4_setTalk_47 : decode cX4_setTalk 47 = .ok (.iastore, 1) := by decide +kernel
theorem dX4_setTalk_48 : decode cX4_setTalk 48 = .ok (.aload_n 0, 1) := by decide +kernel
theorem dX4_setTalk_49 : decode cX4_setTalk 49 = .ok (.aload_n 1, 1) := by decide +kernel
theorem dX4_setTalk_50 : decode cX4_setTalk 50 = .ok (.iload_n 2, 1) := by decide +kernel
theorem dX4_setTalk_51 : decode cX4_setTalk 51 = .ok (.iconst 0, 1) := by decide +kernel
theorem dX4_setTalk_52 : decode cX4_setTalk 52 = .ok (.invokevirtual 110, 3) := by decide +kernel
theorem dX4_setTalk_55 : decode cX4_setTalk 55 = .ok (.aload_n 0, 1) := by decide +kernel
theorem dX4_setTalk_56 : decode cX4_setTalk 56 = .ok (.getfield 11, 3) := by decide +kernel
theorem dX4_setTalk_59 : decode cX4_setTalk 59 = .ok (.bipush 9, 2) := by decide +kernel
theorem dX4_setTalk_61 : decode cX4_setTalk 61 = .ok (.aload_n 1, 1) := by decide +kernel
theorem dX4_setTalk_62 : decode cX4_setTalk 62 = .ok (.getfield 114, 3) := by decide +kernel
theorem dX4_setTalk_65 : decode cX4_setTalk 65 = .ok (.iload_n 2, 1) := by decide +kernel
theorem dX4_setTalk_66 : decode cX4_setTalk 66 = .ok (.invokevirtual 118, 3) := by decide +kernel
theorem dX4_setTalk_69 : decode cX4_setTalk 69 = .ok (.iastore, 1) := by decide +kernel
theorem dX4_setTalk_70 : decode cX4_setTalk 70 = .ok (.iconst 0, 1) := by decide +kernel
theorem dX4_setTalk_71 : decode cX4_setTalk 71 = .ok (.istore 4, 2) := by decide +kernel
theorem dX4_setTalk_73 : decode cX4_setTalk 73 = .ok (.iload 4, 2) := by decide +kernel
theorem dX4_setTalk_75 : decode cX4_setTalk 75 = .ok (.aload_n 1, 1) := by decide +kernel
theorem dX4_setTalk_76 : decode cX4_setTalk 76 = .ok (.getfield 114, 3) := by decide +kernel
theorem dX4_setTalk_79 : decode cX4_setTalk 79 = .ok (.getfield 124, 3) := by decide +kernel
theorem dX4_setTalk_82 : decode cX4_setTalk 82 = .ok (.if_icmp .ge 44, 3) := by decide +kernel
theorem dX4_setTalk_85 : decode cX4_setTalk 85 = .ok (.aload_n 1, 1) := by decide +kernel
theorem dX4_setTalk_86 : decode cX4_setTalk 86 = .ok (.getfield 114, 3) := by decide +kernel
theorem dX4_setTalk_89 : decode cX4_setTalk 89 = .ok (.getfield 128, 3) := by decide +kernel
theorem dX4_setTalk_92 : decode cX4_setTalk 92 = .ok (.iload 4, 2) := by decide +kernel
theorem dX4_setTalk_94 : decode cX4_setTalk 94 = .ok (.iaload, 1) := by decide +kernel
theorem dX4_setTalk_95 : decode cX4_setTalk 95 = .ok (.iload_n 2, 1) := by decide +kernel
theorem dX4_setTalk_96 : decode cX4_setTalk 96 = .ok (.if_icmp .ne 24, 3) := by decide +kernel
theorem dX4_setTalk_99 : decode cX4_setTalk 99 = .ok (.aload_n 1, 1) := by decide +kernel
theorem dX4_setTalk_100 : decode cX4_setTalk 100 = .ok (.iload 4, 2) := by decide +kernel
theorem dX4_setTalk_102 : decode cX4_setTalk 102 = .ok (.invokevirtual 129, 3) := by decide +kernel
theorem dX4_setTalk_105 : decode cX4_setTalk 105 = .ok (.iconst 2, 1) := by decide +kernel
theorem dX4_setTalk_106 : decode cX4_setTalk 106 = .ok (.if_icmp .lt 14, 3) := by decide +kernel
theorem dX4_setTalk_109 : decode cX4_setTalk 109 = .ok (.aload_n 0, 1) := by decide +kernel
theorem dX4_setTalk_110 : decode cX4_setTalk 110 = .ok (.getfield 11, 3) := by decide +kernel
theorem dX4_setTalk_113 : decode cX4_setTalk 113 = .ok (.bipush 8, 2) := by decide +kernel
theorem dX4_setTalk_115 : decode cX4_setTalk 115 = .ok (.dup2, 1) := by decide +kernel
theorem dX4_setTalk_116 : decode cX4_setTalk 116 = .ok (.iaload, 1) := by decide +kernel
theorem dX4_setTalk_117 : decode cX4_setTalk 117 = .ok (.iconst 1, 1) := by decide +kernel
theorem dX4_setTalk_118 : decode cX4_setTalk 118 = .ok (.iadd, 1) := by decide +kernel
theorem dX4_setTalk_119 : decode cX4_setTalk 119 = .ok (.iastore, 1) := by decide +kernel
theorem dX4_setTalk_120 : decode cX4_setTalk 120 = .ok (.iinc 4 1, 3) := by decide +kernel
theorem dX4_setTalk_123 : decode cX4_setTalk 123 = .ok (.goto (-50), 3) := by decide +kernel
theorem dX4_setTalk_126 : decode cX4_setTalk 126 = .ok (.return_, 1) := by decide +kernel
theorem dX4_setTape_0 : decode cX4_setTape 0 = .ok (.aload_n 1, 1) := by decide +kernel
theorem dX4_setTape_1 : decode cX4_setTape 1 = .ok (.getfield 67, 3) := by decide +kernel
theorem dX4_setTape_4 : decode cX4_setTape 4 = .ok (.getfield 132, 3) := by decide +kernel
theorem dX4_setTape_7 : decode cX4_setTape 7 = .ok (.iload_n 2, 1) := by decide +kernel
theorem dX4_setTape_8 : decode cX4_setTape 8 = .ok (.iaload, 1) := by decide +kernel
theorem dX4_setTape_9 : decode cX4_setTape 9 = .ok (.istore_n 3, 1) := by decide +kernel
theorem dX4_setTape_10 : decode cX4_setTape 10 = .ok (.aload_n 0, 1) := by decide +kernel
theorem dX4_setTape_11 : decode cX4_setTape 11 = .ok (.aload_n 1, 1) := by decide +kernel
theorem dX4_setTape_12 : decode cX4_setTape 12 = .ok (.iload_n 2, 1) := by decide +kernel
theorem dX4_setTape_13 : decode cX4_setTape 13 = .ok (.invokevirtual 85, 3) := by decide +kernel
theorem dX4_setTape_16 : decode cX4_setTape 16 = .ok (.iload_n 3, 1) := by decide +kernel
theorem dX4_setTape_17 : decode cX4_setTape 17 = .ok (.iconst (-1), 1) := by decide +kernel
theorem dX4_setTape_18 : decode cX4_setTape 18 = .ok (.if_icmp .eq 27, 3) := by decide +kernel
theorem dX4_setTape_21 : decode cX4_setTape 21 = .ok (.aload_n 0, 1) := by decide +kernel
theorem dX4_setTape_22 : decode cX4_setTape 22 = .ok (.getfield 11, 3) := by decide +kernel
theorem dX4_setTape_25 : decode cX4_setTape 25 = .ok (.iconst 1, 1) := by decide +kernel
theorem dX4_setTape_26 : decode cX4_setTape 26 = .ok (.aload_n 1, 1) := by decide +kernel
theorem dX4_setTape_27 : decode cX4_setTape 27 = .ok (.getfield 67, 3) := by decide +kernel
theorem dX4_setTape_30 : decode cX4_setTape 30 = .ok (.getfield 107, 3) := by decide +kernel
theorem dX4_setTape_33 : decode cX4_setTape 33 = .ok (.iload_n 2, 1) := by decide +kernel
theorem dX4_setTape_34 : decode cX4_setTape 34 = .ok (.iaload, 1) := by decide +kernel
theorem dX4_setTape_35 : decode cX4_setTape 35 = .ok (.iload_n 3, 1) := by decide +kernel
theorem dX4_setTape_36 : decode cX4_setTape 36 = .ok (.isub, 1) := by decide +kernel
theorem dX4_setTape_37 : decode cX4_setTape 37 = .ok (.iastore, 1) := by decide +kernel
theorem dX4_setTape_38 : decode cX4_setTape 38 = .ok (.aload_n 0, 1) := by decide +kernel
theorem dX4_setTape_39 : decode cX4_setTape 39 = .ok (.aload_n 1, 1) := by decide +kernel
theorem dX4_setTape_40 : decode cX4_setTape 40 = .ok (.iload_n 2, 1) := by decide +kernel
theorem dX4_setTape_41 : decode cX4_setTape 41 = .ok (.iload_n 3, 1) := by decide +kernel
theorem dX4_setTape_42 : decode cX4_setTape 42 = .ok (.invokevirtual 110, 3) := by decide +kernel
theorem dX4_setTape_45 : decode cX4_setTape 45 = .ok (.return_, 1) := by decide +kernel
theorem dX4_setPage_0 : decode cX4_setPage 0 = .ok (.aload_n 1, 1) := by decide +kernel
theorem dX4_setPage_1 : decode cX4_setPage 1 = .ok (.getfield 114, 3) := by decide +kernel
theorem dX4_setPage_4 : decode cX4_setPage 4 = .ok (.astore_n 3, 1) := by decide +kernel
theorem dX4_setPage_5 : decode cX4_setPage 5 = .ok (.aload_n 0, 1) := by decide +kernel
theorem dX4_setPage_6 : decode cX4_setPage 6 = .ok (.aload_n 1, 1) := by decide +kernel
theorem dX4_setPage_7 : decode cX4_setPage 7 = .ok (.iload_n 2, 1) := by decide +kernel
theorem dX4_setPage_8 : decode cX4_setPage 8 = .ok (.invokevirtual 85, 3) := by decide +kernel
theorem dX4_setPage_11 : decode cX4_setPage 11 = .ok (.aload_n 0, 1) := by decide +kernel
theorem dX4_setPage_12 : decode cX4_setPage 12 = .ok (.getfield 11, 3) := by decide +kernel
theorem dX4_setPage_15 : decode cX4_setPage 15 = .ok (.bipush 9, 2) := by decide +kernel
theorem dX4_setPage_17 : decode cX4_setPage 17 = .ok (.aload_n 3, 1) := by decide +kernel
theorem dX4_setPage_18 : decode cX4_setPage 18 = .ok (.iload_n 2, 1) := by decide +kernel
theorem dX4_setPage_19 : decode cX4_setPage 19 = .ok (.invokevirtual 118, 3) := by decide +kernel
theorem dX4_setPage_22 : decode cX4_setPage 22 = .ok (.iastore, 1) := by decide +kernel
theorem dX4_setPage_23 : decode cX4_setPage 23 = .ok (.iconst 0, 1) := by decide +kernel
theorem dX4_setPage_24 : decode cX4_setPage 24 = .ok (.istore 4, 2) := by decide +kernel
theorem dX4_setPage_26 : decode cX4_setPage 26 = .ok (.iload 4, 2) := by decide +kernel
theorem dX4_setPage_28 : decode cX4_setPage 28 = .ok (.aload_n 3, 1) := by decide +kernel
theorem dX4_setPage_29 : decode cX4_setPage 29 = .ok (.getfield 124, 3) := by decide +kernel
theorem dX4_setPage_32 : decode cX4_setPage 32 = .ok (.if_icmp .ge 59, 3) := by decide +kernel
theorem dX4_setPage_35 : decode cX4_setPage 35 = .ok (.aload_n 3, 1) := by decide +kernel
theorem dX4_setPage_36 : decode cX4_setPage 36 = .ok (.iload 4, 2) := by decide +kernel
theorem dX4_setPage_38 : decode cX4_setPage 38 = .ok (.iload_n 2, 1) := by decide +kernel
theorem dX4_setPage_39 : decode cX4_setPage 39 = .ok (.invokevirtual 135, 3) := by decide +kernel
theorem dX4_setPage_42 : decode cX4_setPage 42 = .ok (.ifCond .eq 43, 3) := by decide +kernel
theorem dX4_setPage_45 : decode cX4_setPage 45 = .ok (.aload_n 0, 1) := by decide +kernel
theorem dX4_setPage_46 : decode cX4_setPage 46 = .ok (.getfield 11, 3) := by decide +kernel
theorem dX4_setPage_49 : decode cX4_setPage 49 = .ok (.aload_n 3, 1) := by decide +kernel
theorem dX4_setPage_50 : decode cX4_setPage 50 = .ok (.getfield 139, 3) := by decide +kernel
theorem dX4_setPage_53 : decode cX4_setPage 53 = .ok (.iload 4, 2) := by decide +kernel
theorem dX4_setPage_55 : decode cX4_setPage 55 = .ok (.iaload, 1) := by decide +kernel
theorem dX4_setPage_56 : decode cX4_setPage 56 = .ok (.aload_n 1, 1) := by decide +kernel
theorem dX4_setPage_57 : decode cX4_setPage 57 = .ok (.getfield 140, 3) := by decide +kernel
theorem dX4_setPage_60 : decode cX4_setPage 60 = .ok (.getfield 144, 3) := by decide +kernel
theorem dX4_setPage_63 : decode cX4_setPage 63 = .ok (.aload_n 3, 1) := by decide +kernel
theorem dX4_setPage_64 : decode cX4_setPage 64 = .ok (.getfield 149, 3) := by decide +kernel
theorem dX4_setPage_67 : decode cX4_setPage 67 = .ok (.iload 4, 2) := by decide +kernel
theorem dX4_setPage_69 : decode cX4_setPage 69 = .ok (.iaload, 1) := by decide +kernel
theorem dX4_setPage_70 : decode cX4_setPage 70 = .ok (.iaload, 1) := by decide +kernel
theorem dX4_setPage_71 : decode cX4_setPage 71 = .ok (.if_icmp .ne 7, 3) := by decide +kernel
theorem dX4_setPage_74 : decode cX4_setPage 74 = .ok (.iconst 5, 1) := by decide +kernel
theorem dX4_setPage_75 : decode cX4_setPage 75 = .ok (.goto 5, 3) := by decide +kernel
theorem dX4_setPage_78 : decode cX4_setPage 78 = .ok (.bipush 6, 2) := by decide +kernel
theorem dX4_setPage_80 : decode cX4_setPage 80 = .ok (.dup2, 1) := by decide +kernel
theorem dX4_setPage_81 : decode cX4_setPage 81 = .ok (.iaload, 1) := by decide +kernel
theorem dX4_setPage_82 : decode cX4_setPage 82 = .ok (.iconst 1, 1) := by decide +kernel
theorem dX4_setPage_83 : decode cX4_setPage 83 = .ok (.iadd, 1) := by decide +kernel
theorem dX4_setPage_84 : decode cX4_setPage 84 = .ok (.iastore, 1) := by decide +kernel
theorem dX4_setPage_85 : decode cX4_setPage 85 = .ok (.iinc 4 1, 3) := by decide +kernel
theorem dX4_setPage_88 : decode cX4_setPage 88 = .ok (.goto (-62), 3) := by decide +kernel
theorem dX4_setPage_91 : decode cX4_setPage 91 = .ok (.return_, 1) := by decide +kernel
theorem dX4_addLines_0 : decode cX4_addLines 0 = .ok (.aload_n 1, 1) := by decide +kernel
theorem dX4_addLines_1 : decode cX4_addLines 1 = .ok (.getfield 76, 3) := by decide +kernel
theorem dX4_addLines_4 : decode cX4_addLines 4 = .ok (.astore 4, 2) := by decide +kernel
theorem dX4_addLines_6 : decode cX4_addLines 6 = .ok (.iconst 0, 1) := by decide +kernel
theorem dX4_addLines_7 : decode cX4_addLines 7 = .ok (.istore 5, 2) := by decide +kernel
theorem dX4_addLines_9 : decode cX4_addLines 9 = .ok (.iload 5, 2) := by decide +kernel
theorem dX4_addLines_11 : decode cX4_addLines 11 = .ok (.aload 4, 2) := by decide +kernel
theorem dX4_addLines_13 : decode cX4_addLines 13 = .ok (.getfield 152, 3) := by decide +kernel
theorem dX4_addLines_16 : decode cX4_addLines 16 = .ok (.if_icmp .ge 97, 3) := by decide +kernel
theorem dX4_addLines_19 : decode cX4_addLines 19 = .ok (.aload 4, 2) := by decide +kernel
theorem dX4_addLines_21 : decode cX4_addLines 21 = .ok (.getfield 80, 3) := by decide +kernel
theorem dX4_addLines_24 : decode cX4_addLines 24 = .ok (.iload 5, 2) := by decide +kernel
theorem dX4_addLines_26 : decode cX4_addLines 26 = .ok (.iaload, 1) := by decide +kernel
theorem dX4_addLines_27 : decode cX4_addLines 27 = .ok (.iload_n 2, 1) := by decide +kernel
theorem dX4_addLines_28 : decode cX4_addLines 28 = .ok (.if_icmp .ne 79, 3) := by decide +kernel
theorem dX4_addLines_31 : decode cX4_addLines 31 = .ok (.aload 4, 2) := by decide +kernel
theorem dX4_addLines_33 : decode cX4_addLines 33 = .ok (.getfield 88, 3) := by decide +kernel
theorem dX4_addLines_36 : decode cX4_addLines 36 = .ok (.iload 5, 2) := by decide +kernel
theorem dX4_addLines_38 : decode cX4_addLines 38 = .ok (.iaload, 1) := by decide +kernel
theorem dX4_addLines_39 : decode cX4_addLines 39 = .ok (.iload_n 3, 1) := by decide +kernel
theorem dX4_addLines_40 : decode cX4_addLines 40 = .ok (.if_icmp .lt 67, 3) := by decide +kernel
theorem dX4_addLines_43 : decode cX4_addLines 43 = .ok (.aload_n 1, 1) := by decide +kernel
theorem dX4_addLines_44 : decode cX4_addLines 44 = .ok (.iload 5, 2) := by decide +kernel
theorem dX4_addLines_46 : decode cX4_addLines 46 = .ok (.invokevirtual 153, 3) := by decide +kernel
theorem dX4_addLines_49 : decode cX4_addLines 49 = .ok (.ifCond .ne 6, 3) := by decide +kernel
theorem dX4_addLines_52 : decode cX4_addLines 52 = .ok (.goto 55, 3) := by decide +kernel
theorem dX4_addLines_55 : decode cX4_addLines 55 = .ok (.aload 4, 2) := by decide +kernel
theorem dX4_addLines_57 : decode cX4_addLines 57 = .ok (.getfield 98, 3) := by decide +kernel
theorem dX4_addLines_60 : decode cX4_addLines 60 = .ok (.iload 5, 2) := by decide +kernel
theorem dX4_addLines_62 : decode cX4_addLines 62 = .ok (.baload, 1) := by decide +kernel
theorem dX4_addLines_63 : decode cX4_addLines 63 = .ok (.ifCond .ne 18, 3) := by decide +kernel
theorem dX4_addLines_66 : decode cX4_addLines 66 = .ok (.aload_n 0, 1) := by decide +kernel
theorem dX4_addLines_67 : decode cX4_addLines 67 = .ok (.aload 4, 2) := by decide +kernel
theorem dX4_addLines_69 : decode cX4_addLines 69 = .ok (.getfield 102, 3) := by decide +kernel
theorem dX4_addLines_72 : decode cX4_addLines 72 = .ok (.iload 5, 2) := by decide +kernel
theorem dX4_addLines_74 : decode cX4_addLines 74 = .ok (.iaload, 1) := by decide +kernel
theorem dX4_addLines_75 : decode cX4_addLines 75 = .ok (.invokevirtual 103, 3) := by decide +kernel
theorem dX4_addLines_78 : decode cX4_addLines 78 = .ok (.goto 29, 3) := by decide +kernel
theorem dX4_addLines_81 : decode cX4_addLines 81 = .ok (.aload_n 1, 1) := by decide +kernel
theorem dX4_addLines_82 : decode cX4_addLines 82 = .ok (.iload 5, 2) := by decide +kernel
theorem dX4_addLines_84 : decode cX4_addLines 84 = .ok (.iload_n 3, 1) := by decide +kernel
theorem dX4_addLines_85 : decode cX4_addLines 85 = .ok (.invokevirtual 157, 3) := by decide +kernel
theorem dX4_addLines_88 : decode cX4_addLines 88 = .ok (.ifCond .eq 19, 3) := by decide +kernel
theorem dX4_addLines_91 : decode cX4_addLines 91 = .ok (.aload_n 0, 1) := by decide +kernel
theorem dX4_addLines_92 : decode cX4_addLines 92 = .ok (.aload_n 1, 1) := by decide +kernel
theorem dX4_addLines_93 : decode cX4_addLines 93 = .ok (.iload 5, 2) := by decide +kernel
theorem dX4_addLines_95 : decode cX4_addLines 95 = .ok (.invokevirtual 160, 3) := by decide +kernel
theorem dX4_addLines_98 : decode cX4_addLines 98 = .ok (.aload_n 1, 1) := by decide +kernel
theorem dX4_addLines_99 : decode cX4_addLines 99 = .ok (.iload 5, 2) := by decide +kernel
theorem dX4_addLines_101 : decode cX4_addLines 101 = .ok (.invokevirtual 163, 3) := by decide +kernel
theorem dX4_addLines_104 : decode cX4_addLines 104 = .ok (.invokevirtual 166, 3) := by decide +kernel
theorem dX4_addLines_107 : decode cX4_addLines 107 = .ok (.iinc 5 1, 3) := by decide +kernel
theorem dX4_addLines_110 : decode cX4_addLines 110 = .ok (.goto (-101), 3) := by decide +kernel
theorem dX4_addLines_113 : decode cX4_addLines 113 = .ok (.return_, 1) := by decide +kernel
theorem dX4_addAsk_0 : decode cX4_addAsk 0 = .ok (.aload_n 0, 1) := by decide +kernel
theorem dX4_addAsk_1 : decode cX4_addAsk 1 = .ok (.getfield 11, 3) := by decide +kernel
theorem dX4_addAsk_4 : decode cX4_addAsk 4 = .ok (.iconst 3, 1) := by decide +kernel
theorem dX4_addAsk_5 : decode cX4_addAsk 5 = .ok (.dup2, 1) := by decide +kernel
theorem dX4_addAsk_6 : decode cX4_addAsk 6 = .ok (.iaload, 1) := by decide +kernel
theorem dX4_addAsk_7 : decode cX4_addAsk 7 = .ok (.iconst 1, 1) := by decide +kernel
theorem dX4_addAsk_8 : decode cX4_addAsk 8 = .ok (.iadd, 1) := by decide +kernel
theorem dX4_addAsk_9 : decode cX4_addAsk 9 = .ok (.iastore, 1) := by decide +kernel
theorem dX4_addAsk_10 : decode cX4_addAsk 10 = .ok (.iload_n 1, 1) := by decide +kernel
theorem dX4_addAsk_11 : decode cX4_addAsk 11 = .ok (.iconst (-1), 1) := by decide +kernel
theorem dX4_addAsk_12 : decode cX4_addAsk 12 = .ok (.if_icmp .eq 13, 3) := by decide +kernel
theorem dX4_addAsk_15 : decode cX4_addAsk 15 = .ok (.aload_n 0, 1) := by decide +kernel
theorem dX4_addAsk_16 : decode cX4_addAsk 16 = .ok (.getfield 11, 3) := by decide +kernel
theorem dX4_addAsk_19 : decode cX4_addAsk 19 = .ok (.iconst 4, 1) := by decide +kernel
theorem dX4_addAsk_20 : decode cX4_addAsk 20 = .ok (.dup2, 1) := by decide +kernel
theorem dX4_addAsk_21 : decode cX4_addAsk 21 = .ok (.iaload, 1) := by decide +kernel
theorem dX4_addAsk_22 : decode cX4_addAsk 22 = .ok (.iconst 1, 1) := by decide +kernel
theorem dX4_addAsk_23 : decode cX4_addAsk 23 = .ok (.iadd, 1) := by decide +kernel
theorem dX4_addAsk_24 : decode cX4_addAsk 24 = .ok (.iastore, 1) := by decide +kernel
theorem dX4_addAsk_25 : decode cX4_addAsk 25 = .ok (.return_, 1) := by decide +kernel
theorem dX4_addFirst_0 : decode cX4_addFirst 0 = .ok (.aload_n 0, 1) := by decide +kernel
theorem dX4_addFirst_1 : decode cX4_addFirst 1 = .ok (.getfield 11, 3) := by decide +kernel
theorem dX4_addFirst_4 : decode cX4_addFirst 4 = .ok (.iload_n 1, 1) := by decide +kernel
theorem dX4_addFirst_5 : decode cX4_addFirst 5 = .ok (.ifCond .eq 7, 3) := by decide +kernel
theorem dX4_addFirst_8 : decode cX4_addFirst 8 = .ok (.iconst 5, 1) := by decide +kernel
theorem dX4_addFirst_9 : decode cX4_addFirst 9 = .ok (.goto 5, 3) := by decide +kernel
theorem dX4_addFirst_12 : decode cX4_addFirst 12 = .ok (.bipush 6, 2) := by decide +kernel
theorem dX4_addFirst_14 : decode cX4_addFirst 14 = .ok (.dup2, 1) := by decide +kernel
theorem dX4_addFirst_15 : decode cX4_addFirst 15 = .ok (.iaload, 1) := by decide +kernel
theorem dX4_addFirst_16 : decode cX4_addFirst 16 = .ok (.iconst 1, 1) := by decide +kernel
theorem dX4_addFirst_17 : decode cX4_addFirst 17 = .ok (.iadd, 1) := by decide +kernel
theorem dX4_addFirst_18 : decode cX4_addFirst 18 = .ok (.iastore, 1) := by decide +kernel
theorem dX4_addFirst_19 : decode cX4_addFirst 19 = .ok (.iload_n 2, 1) := by decide +kernel
theorem dX4_addFirst_20 : decode cX4_addFirst 20 = .ok (.ifCond .eq 14, 3) := by decide +kernel
theorem dX4_addFirst_23 : decode cX4_addFirst 23 = .ok (.aload_n 0, 1) := by decide +kernel
theorem dX4_addFirst_24 : decode cX4_addFirst 24 = .ok (.getfield 11, 3) := by decide +kernel
theorem dX4_addFirst_27 : decode cX4_addFirst 27 = .ok (.bipush 7, 2) := by decide +kernel
theorem dX4_addFirst_29 : decode cX4_addFirst 29 = .ok (.dup2, 1) := by decide +kernel
theorem dX4_addFirst_30 : decode cX4_addFirst 30 = .ok (.iaload, 1) := by decide +kernel
theorem dX4_addFirst_31 : decode cX4_addFirst 31 = .ok (.iconst 1, 1) := by decide +kernel
theorem dX4_addFirst_32 : decode cX4_addFirst 32 = .ok (.iadd, 1) := by decide +kernel
theorem dX4_addFirst_33 : decode cX4_addFirst 33 = .ok (.iastore, 1) := by decide +kernel
theorem dX4_addFirst_34 : decode cX4_addFirst 34 = .ok (.return_, 1) := by decide +kernel
theorem dX5_init_0 : decode cX5_init 0 = .ok (.aload_n 0, 1) := by decide +kernel
theorem dX5_init_1 : decode cX5_init 1 = .ok (.invokespecial 3, 3) := by decide +kernel
theorem dX5_init_4 : decode cX5_init 4 = .ok (.aload_n 0, 1) := by decide +kernel
theorem dX5_init_5 : decode cX5_init 5 = .ok (.lconst 1, 1) := by decide +kernel
theorem dX5_init_6 : decode cX5_init 6 = .ok (.putfield 9, 3) := by decide +kernel
theorem dX5_init_9 : decode cX5_init 9 = .ok (.aload_n 0, 1) := by decide +kernel
theorem dX5_init_10 : decode cX5_init 10 = .ok (.lconst 1, 1) := by decide +kernel
theorem dX5_init_11 : decode cX5_init 11 = .ok (.putfield 15, 3) := by decide +kernel
theorem dX5_init_14 : decode cX5_init 14 = .ok (.aload_n 0, 1) := by decide +kernel
theorem dX5_init_15 : decode cX5_init 15 = .ok (.bipush 9, 2) := by decide +kernel
theorem dX5_init_17 : decode cX5_init 17 = .ok (.putfield 18, 3) := by decide +kernel
theorem dX5_init_20 : decode cX5_init 20 = .ok (.return_, 1) := by decide +kernel
theorem dX5_start_0 : decode cX5_start 0 = .ok (.aload_n 0, 1) := by decide +kernel
theorem dX5_start_1 : decode cX5_start 1 = .ok (.iload_n 3, 1) := by decide +kernel
theorem dX5_start_2 : decode cX5_start 2 = .ok (.putfield 18, 3) := by decide +kernel
theorem dX5_start_5 : decode cX5_start 5 = .ok (.aload_n 0, 1) := by decide +kernel
theorem dX5_start_6 : decode cX5_start 6 = .ok (.iload_n 1, 1) := by decide +kernel
theorem dX5_start_7 : decode cX5_start 7 = .ok (.i2l, 1) := by decide +kernel
theorem dX5_start_8 : decode cX5_start 8 = .ok (.putfield 9, 3) := by decide +kernel
theorem dX5_start_11 : decode cX5_start 11 = .ok (.aload_n 0, 1) := by decide +kernel
theorem dX5_start_12 : decode cX5_start 12 = .ok (.iload_n 2, 1) := by decide +kernel
theorem dX5_start_13 : decode cX5_start 13 = .ok (.i2l, 1) := by decide +kernel
theorem dX5_start_14 : decode cX5_start 14 = .ok (.putfield 15, 3) := by decide +kernel
theorem dX5_start_17 : decode cX5_start 17 = .ok (.aload_n 0, 1) := by decide +kernel
theorem dX5_start_18 : decode cX5_start 18 = .ok (.invokevirtual 22, 3) := by decide +kernel
theorem dX5_start_21 : decode cX5_start 21 = .ok (.return_, 1) := by decide +kernel
theorem dX5_takeWords_0 : decode cX5_takeWords 0 = .ok (.iload_n 3, 1) := by decide +kernel
theorem dX5_takeWords_1 : decode cX5_takeWords 1 = .ok (.ifCond .eq 8, 3) := by decide +kernel
theorem dX5_takeWords_4 : decode cX5_takeWords 4 = .ok (.bipush 12, 2) := by decide +kernel
theorem dX5_takeWords_6 : decode cX5_takeWords 6 = .ok (.goto 5, 3) := by decide +kernel
theorem dX5_takeWords_9 : decode cX5_takeWords 9 = .ok (.bipush 28, 2) := by decide +kernel
theorem dX5_takeWords_11 : decode cX5_takeWords 11 = .ok (.istore 4, 2) := by decide +kernel
theorem dX5_takeWords_13 : decode cX5_takeWords 13 = .ok (.iconst 0, 1) := by decide +kernel
theorem dX5_takeWords_14 : decode cX5_takeWords 14 = .ok (.istore 5, 2) := by decide +kernel
theorem dX5_takeWords_16 : decode cX5_takeWords 16 = .ok (.iload 5, 2) := by decide +kernel
theorem dX5_takeWords_18 : decode cX5_takeWords 18 = .ok (.aload_n 1, 1) := by decide +kernel
theorem dX5_takeWords_19 : decode cX5_takeWords 19 = .ok (.getfield 25, 3) := by decide +kernel
theorem dX5_takeWords_22 : decode cX5_takeWords 22 = .ok (.getfield 31, 3) := by decide +kernel
theorem dX5_takeWords_25 : decode cX5_takeWords 25 = .ok (.if_icmp .ge 62, 3) := by decide +kernel
theorem dX5_takeWords_28 : decode cX5_takeWords 28 = .ok (.aload_n 1, 1) := by decide +kernel
theorem dX5_takeWords_29 : decode cX5_takeWords 29 = .ok (.iload 5, 2) := by decide +kernel
theorem dX5_takeWords_31 : decode cX5_takeWords 31 = .ok (.iload_n 2, 1) := by decide +kernel
theorem dX5_takeWords_32 : decode cX5_takeWords 32 = .ok (.invokevirtual 36, 3) := by decide +kernel
theorem dX5_takeWords_35 : decode cX5_takeWords 35 = .ok (.ifCond .eq 46, 3) := by decide +kernel
theorem dX5_takeWords_38 : decode cX5_takeWords 38 = .ok (.aload_n 1, 1) := by decide +kernel
theorem dX5_takeWords_39 : decode cX5_takeWords 39 = .ok (.iload 5, 2) := by decide +kernel
theorem dX5_takeWords_41 : decode cX5_takeWords 41 = .ok (.invokevirtual 40, 3) := by decide +kernel
theorem dX5_takeWords_44 : decode cX5_takeWords 44 = .ok (.iconst 2, 1) := by decide +kernel
theorem dX5_takeWords_45 : decode cX5_takeWords 45 = .ok (.iload 4, 2) := by decide +kernel
theorem dX5_takeWords_47 : decode cX5_takeWords 47 = .ok (.ior, 1) := by decide +kernel
theorem dX5_takeWords_48 : decode cX5_takeWords 48 = .ok (.iand, 1) := by decide +kernel
theorem dX5_takeWords_49 : decode cX5_takeWords 49 = .ok (.iconst 2, 1) := by decide +kernel
theorem dX5_takeWords_50 : decode cX5_takeWords 50 = .ok (.if_icmp .ne 31, 3) := by decide +kernel
theorem dX5_takeWords_53 : decode cX5_takeWords 53 = .ok (.aload_n 0, 1) := by decide +kernel
theorem dX5_takeWords_54 : decode cX5_takeWords 54 = .ok (.aload_n 1, 1) := by decide +kernel
theorem dX5_takeWords_55 : decode cX5_takeWords 55 = .ok (.iload 5, 2) := by decide +kernel
theorem dX5_takeWords_57 : decode cX5_takeWords 57 = .ok (.invokevirtual 44, 3) := by decide +kernel
theorem dX5_takeWords_60 : decode cX5_takeWords 60 = .ok (.aload_n 1, 1) := by decide +kernel
theorem dX5_takeWords_61 : decode cX5_takeWords 61 = .ok (.getfield 48, 3) := by decide +kernel
theorem dX5_takeWords_64 : decode cX5_takeWords 64 = .ok (.getfield 52, 3) := by decide +kernel
theorem dX5_takeWords_67 : decode cX5_takeWords 67 = .ok (.aload_n 1, 1) := by decide +kernel
theorem dX5_takeWords_68 : decode cX5_takeWords 68 = .ok (.getfield 25, 3) := by decide +kernel
theorem dX5_takeWords_71 : decode cX5_takeWords 71 = .ok (.getfield 58, 3) := by decide +kernel
theorem dX5_takeWords_74 : decode cX5_takeWords 74 = .ok (.iload 5, 2) := by decide +kernel
theorem dX5_takeWords_76 : decode cX5_takeWords 76 = .ok (.iaload, 1) := by decide +kernel
theorem dX5_takeWords_77 : decode cX5_takeWords 77 = .ok (.iaload, 1) := by decide +kernel
theorem dX5_takeWords_78 : decode cX5_takeWords 78 = .ok (.invokevirtual 61, 3) := by decide +kernel
theorem dX5_takeWords_81 : decode cX5_takeWords 81 = .ok (.iinc 5 1, 3) := by decide +kernel
theorem dX5_takeWords_84 : decode cX5_takeWords 84 = .ok (.goto (-68), 3) := by decide +kernel
theorem dX5_takeWords_87 : decode cX5_takeWords 87 = .ok (.return_, 1) := by decide +kernel
theorem dX5_takePage_0 : decode cX5_takePage 0 = .ok (.aload_n 1, 1) := by decide +kernel
theorem dX5_takePage_1 : decode cX5_takePage 1 = .ok (.getfield 65, 3) := by decide +kernel
theorem dX5_takePage_4 : decode cX5_takePage 4 = .ok (.astore_n 3, 1) := by decide +kernel
theorem dX5_takePage_5 : decode cX5_takePage 5 = .ok (.iconst 0, 1) := by decide +kernel
theorem dX5_takePage_6 : decode cX5_takePage 6 = .ok (.istore 4, 2) := by decide +kernel
theorem dX5_takePage_8 : decode cX5_takePage 8 = .ok (.iload 4, 2) := by decide +kernel
theorem dX5_takePage_10 : decode cX5_takePage 10 = .ok (.aload_n 3, 1) := by decide +kernel
theorem dX5_takePage_11 : decode cX5_takePage 11 = .ok (.getfield 69, 3) := by decide +kernel
theorem dX5_takePage_14 : decode cX5_takePage 14 = .ok (.if_icmp .ge 67, 3) := by decide +kernel
theorem dX5_takePage_17 : decode cX5_takePage 17 = .ok (.aload_n 3, 1) := by decide +kernel
theorem dX5_takePage_18 : decode cX5_takePage 18 = .ok (.iload 4, 2) := by decide +kernel
theorem dX5_takePage_20 : decode cX5_takePage 20 = .ok (.iload_n 2, 1) := by decide +kernel
theorem dX5_takePage_21 : decode cX5_takePage 21 = .ok (.invokevirtual 72, 3) := by decide +kernel
theorem dX5_takePage_24 : decode cX5_takePage 24 = .ok (.ifCond .eq 51, 3) := by decide +kernel
theorem dX5_takePage_27 : decode cX5_takePage 27 = .ok (.aload_n 3, 1) := by decide +kernel
theorem dX5_takePage_28 : decode cX5_takePage 28 = .ok (.getfield 75, 3) := by decide +kernel
theorem dX5_takePage_31 : decode cX5_takePage 31 = .ok (.iload 4, 2) := by decide +kernel
theorem dX5_takePage_33 : decode cX5_takePage 33 = .ok (.iaload, 1) := by decide +kernel
theorem dX5_takePage_34 : decode cX5_takePage 34 = .ok (.istore 5, 2) := by decide +kernel
theorem dX5_takePage_36 : decode cX5_takePage 36 = .ok (.aload_n 0, 1) := by decide +kernel
theorem dX5_takePage_37 : decode cX5_takePage 37 = .ok (.aload_n 3, 1) := by decide +kernel
theorem dX5_takePage_38 : decode cX5_takePage 38 = .ok (.getfield 76, 3) := by decide +kernel
theorem dX5_takePage_41 : decode cX5_takePage 41 = .ok (.iload 4, 2) := by decide +kernel
theorem dX5_takePage_43 : decode cX5_takePage 43 = .ok (.iaload, 1) := by decide +kernel
theorem dX5_takePage_44 : decode cX5_takePage 44 = .ok (.aload_n 1, 1) := by decide +kernel
theorem dX5_takePage_45 : decode cX5_takePage 45 = .ok (.getfield 48, 3) := by decide +kernel
theorem dX5_takePage_48 : decode cX5_takePage 48 = .ok (.getfield 79, 3) := by decide +kernel
theorem dX5_takePage_51 : decode cX5_takePage 51 = .ok (.iload 5, 2) := by decide +kernel
theorem dX5_takePage_53 : decode cX5_takePage 53 = .ok (.iaload, 1) := by decide +kernel
theorem dX5_takePage_54 : decode cX5_takePage 54 = .ok (.if_icmp .ne 7, 3) := by decide +kernel
theorem dX5_takePage_57 : decode cX5_takePage 57 = .ok (.iconst 1, 1) := by decide +kernel
theorem dX5_takePage_58 : decode cX5_takePage 58 = .ok (.goto 4, 3) := by decide +kernel
theorem dX5_takePage_61 : decode cX5_takePage 61 = .ok (.iconst 0, 1) := by decide +kernel
theorem dX5_takePage_62 : decode cX5_takePage 62 = .ok (.aload_n 1, 1) := by decide +kernel
theorem dX5_takePage_63 : decode cX5_takePage 63 = .ok (.getfield 48, 3) := by decide +kernel
theorem dX5_takePage_66 : decode cX5_takePage 66 = .ok (.getfield 52, 3) := by decide +kernel
theorem dX5_takePage_69 : decode cX5_takePage 69 = .ok (.iload 5, 2) := by decide +kernel
theorem dX5_takePage_71 : decode cX5_takePage 71 = .ok (.iaload, 1) := by decide +kernel
theorem dX5_takePage_72 : decode cX5_takePage 72 = .ok (.invokevirtual 61, 3) := by decide +kernel
theorem dX5_takePage_75 : decode cX5_takePage 75 = .ok (.iinc 4 1, 3) := by decide +kernel
theorem dX5_takePage_78 : decode cX5_takePage 78 = .ok (.goto (-70), 3) := by decide +kernel
theorem dX5_takePage_81 : decode cX5_takePage 81 = .ok (.return_, 1) := by decide +kernel
theorem dX5_takeOne_0 : decode cX5_takeOne 0 = .ok (.aload_n 0, 1) := by decide +kernel
theorem dX5_takeOne_1 : decode cX5_takeOne 1 = .ok (.dup, 1) := by decide +kernel
theorem dX5_takeOne_2 : decode cX5_takeOne 2 = .ok (.getfield 9, 3) := by decide +kernel
theorem dX5_takeOne_5 : decode cX5_takeOne 5 = .ok (.iload_n 1, 1) := by decide +kernel
theorem dX5_takeOne_6 : decode cX5_takeOne 6 = .ok (.ifCond .eq 10, 3) := by decide +kernel
theorem dX5_takeOne_9 : decode cX5_takeOne 9 = .ok (.aload_n 0, 1) := by decide +kernel
theorem dX5_takeOne_10 : decode cX5_takeOne 10 = .ok (.getfield 18, 3) := by decide +kernel
theorem dX5_takeOne_13 : decode cX5_takeOne 13 = .ok (.goto 10, 3) := by decide +kernel
theorem dX5_takeOne_16 : decode cX5_takeOne 16 = .ok (.bipush 10, 2) := by decide +kernel
theorem dX5_takeOne_18 : decode cX5_takeOne 18 = .ok (.aload_n 0, 1) := by decide +kernel
theorem dX5_takeOne_19 : decode cX5_takeOne 19 = .ok (.getfield 18, 3) := by decide +kernel
theorem dX5_takeOne_22 : decode cX5_takeOne 22 = .ok (.isub, 1) := by decide +kernel
theorem dX5_takeOne_23 : decode cX5_takeOne 23 = .ok (.iload_n 2, 1) := by decide +kernel
theorem dX5_takeOne_24 : decode cX5_takeOne 24 = .ok (.imul, 1) := by decide +kernel
theorem dX5_takeOne_25 : decode cX5_takeOne 25 = .ok (.i2l, 1) := by decide +kernel
theorem dX5_takeOne_26 : decode cX5_takeOne 26 = .ok (.lmul, 1) := by decide +kernel
theorem dX5_takeOne_27 : decode cX5_takeOne 27 = .ok (.putfield 9, 3) := by decide +kernel
theorem dX5_takeOne_30 : decode cX5_takeOne 30 = .ok (.aload_n 0, 1) := by decide +kernel
theorem dX5_takeOne_31 : decode cX5_takeOne 31 = .ok (.dup, 1) := by decide +kernel
theorem dX5_takeOne_32 : decode cX5_takeOne 32 = .ok (.getfield 15, 3) := by decide +kernel
theorem dX5_takeOne_35 : decode cX5_takeOne 35 = .ok (.iload_n 1, 1) := by decide +kernel
theorem dX5_takeOne_36 : decode cX5_takeOne 36 = .ok (.ifCond .eq 9, 3) := by decide +kernel
theorem dX5_takeOne_39 : decode cX5_takeOne 39 = .ok (.ldc2_w 82, 3) := by decide +kernel
theorem dX5_takeOne_42 : decode cX5_takeOne 42 = .ok (.goto 10, 3) := by decide +kernel
theorem dX5_takeOne_45 : decode cX5_takeOne 45 = .ok (.bipush 10, 2) := by decide +kernel
theorem dX5_takeOne_47 : decode cX5_takeOne 47 = .ok (.iload_n 2, 1) := by decide +kernel
theorem dX5_takeOne_48 : decode cX5_takeOne 48 = .ok (.iconst 1, 1) := by decide +kernel
theorem dX5_takeOne_49 : decode cX5_takeOne 49 = .ok (.isub, 1) := by decide +kernel
theorem dX5_takeOne_50 : decode cX5_takeOne 50 = .ok (.imul, 1) := by decide +kernel
theorem dX5_takeOne_51 : decode cX5_takeOne 51 = .ok (.i2l, 1) := by decide +kernel
theorem dX5_takeOne_52 : decode cX5_takeOne 52 = .ok (.lmul, 1) := by decide +kernel
theorem dX5_takeOne_53 : decode cX5_takeOne 53 = .ok (.putfield 15, 3) := by decide +kernel
theorem dX5_takeOne_56 : decode cX5_takeOne 56 = .ok (.aload_n 0, 1) := by decide +kernel
theorem dX5_takeOne_57 : decode cX5_takeOne 57 = .ok (.invokevirtual 22, 3) := by decide +kernel
theorem dX5_takeOne_60 : decode cX5_takeOne 60 = .ok (.return_, 1) := by decide +kernel
theorem dX5_shorten_0 : decode cX5_shorten 0 = .ok (.aload_n 0, 1) := by decide +kernel
theorem dX5_shorten_1 : decode cX5_shorten 1 = .ok (.getfield 9, 3) := by decide +kernel
theorem dX5_shorten_4 : decode cX5_shorten 4 = .ok (.lstore_n 1, 1) := by decide +kernel
theorem dX5_shorten_5 : decode cX5_shorten 5 = .ok (.aload_n 0, 1) := by decide +kernel
theorem dX5_shorten_6 : decode cX5_shorten 6 = .ok (.getfield 15, 3) := by decide +kernel
theorem dX5_shorten_9 : decode cX5_shorten 9 = .ok (.lstore_n 3, 1) := by decide +kernel
theorem dX5_shorten_10 : decode cX5_shorten 10 = .ok (.iconst 0, 1) := by decide +kernel
theorem dX5_shorten_11 : decode cX5_shorten 11 = .ok (.istore 5, 2) := by decide +kernel
theorem dX5_shorten_13 : decode cX5_shorten 13 = .ok (.iload 5, 2) := by decide +kernel
theorem dX5_shorten_15 : decode cX5_shorten 15 = .ok (.sipush 200, 3) := by decide +kernel
theorem dX5_shorten_18 : decode cX5_shorten 18 = .ok (.if_icmp .ge 25, 3) := by decide +kernel
theorem dX5_shorten_21 : decode cX5_shorten 21 = .ok (.lload_n 3, 1) := by decide +kernel
theorem dX5_shorten_22 : decode cX5_shorten 22 = .ok (.lconst 0, 1) := by decide +kernel
theorem dX5_shorten_23 : decode cX5_shorten 23 = .ok (.lcmp, 1) := by decide +kernel
theorem dX5_shorten_24 : decode cX5_shorten 24 = .ok (.ifCond .le 19, 3) := by decide +kernel
theorem dX5_shorten_27 : decode cX5_shorten 27 = .ok (.lload_n 1, 1) := by decide +kernel
theorem dX5_shorten_28 : decode cX5_shorten 28 = .ok (.lload_n 3, 1) := by decide +kernel
theorem dX5_shorten_29 : decode cX5_shorten 29 = .ok (.lrem, 1) := by decide +kernel
theorem dX5_shorten_30 : decode cX5_shorten 30 = .ok (.lstore 6, 2) := by decide +kernel
theorem dX5_shorten_32 : decode cX5_shorten 32 = .ok (.lload_n 3, 1) := by decide +kernel
theorem dX5_shorten_33 : decode cX5_shorten 33 = .ok (.lstore_n 1, 1) := by decide +kernel
theorem dX5_shorten_34 : decode cX5_shorten 34 = .ok (.lload 6, 2) := by decide +kernel
theorem dX5_shorten_36 : decode cX5_shorten 36 = .ok (.lstore_n 3, 1) := by decide +kernel
theorem dX5_shorten_37 : decode cX5_shorten 37 = .ok (.iinc 5 1, 3) := by decide +kernel
theorem dX5_shorten_40 : decode cX5_shorten 40 = .ok (.goto (-27), 3) := by decide +kernel
theorem dX5_shorten_43 : decode cX5_shorten 43 = .ok (.lload_n 1, 1) := by decide +kernel
theorem dX5_shorten_44 : decode cX5_shorten 44 = .ok (.lconst 1, 1) := by decide +kernel
theorem dX5_shorten_45 : decode cX5_shorten 45 = .ok (.lcmp, 1) := by decide +kernel
theorem dX5_shorten_46 : decode cX5_shorten 46 = .ok (.ifCond .le 23, 3) := by decide +kernel
theorem dX5_shorten_49 : decode cX5_shorten 49 = .ok (.aload_n 0, 1) := by decide +kernel
theorem dX5_shorten_50 : decode cX5_shorten 50 = .ok (.dup, 1) := by decide +kernel
theorem dX5_shorten_51 : decode cX5_shorten 51 = .ok (.getfield 9, 3) := by decide +kernel
theorem dX5_shorten_54 : decode cX5_shorten 54 = .ok (.lload_n 1, 1) := by decide +kernel
theorem dX5_shorten_55 : decode cX5_shorten 55 = .ok (.ldiv, 1) := by decide +kernel
theorem dX5_shorten_56 : decode cX5_shorten 56 = .ok (.putfield 9, 3) := by decide +kernel
theorem dX5_shorten_59 : decode cX5_shorten 59 = .ok (.aload_n 0, 1) := by decide +kernel
theorem dX5_shorten_60 : decode cX5_shorten 60 = .ok (.dup, 1) := by decide +kernel
theorem dX5_shorten_61 : decode cX5_shorten 61 = .ok (.getfield 15, 3) := by decide +kernel
theorem dX5_shorten_64 : decode cX5_shorten 64 = .ok (.lload_n 1, 1) := by decide +kernel
theorem dX5_shorten_65 : decode cX5_shorten 65 = .ok (.ldiv, 1) := by decide +kernel
theorem dX5_shorten_66 : decode cX5_shorten 66 = .ok (.putfield 15, 3) := by decide +kernel
theorem dX5_shorten_69 : decode cX5_shorten 69 = .ok (.return_, 1) := by decide +kernel
theorem dX6_init_0 : decode cX6_init 0 = .ok (.aload_n 0, 1) := by decide +kernel
theorem dX6_init_1 : decode cX6_init 1 = .ok (.invokespecial 3, 3) := by decide +kernel
theorem dX6_init_4 : decode cX6_init 4 = .ok (.aload_n 0, 1) := by decide +kernel
theorem dX6_init_5 : decode cX6_init 5 = .ok (.iconst 0, 1) := by decide +kernel
theorem dX6_init_6 : decode cX6_init 6 = .ok (.putfield 9, 3) := by decide +kernel
theorem dX6_init_9 : decode cX6_init 9 = .ok (.aload_n 0, 1) := by decide +kernel
theorem dX6_init_10 : decode cX6_init 10 = .ok (.bipush 20, 2) := by decide +kernel
theorem dX6_init_12 : decode cX6_init 12 = .ok (.newarray .int, 2) := by decide +kernel
theorem dX6_init_14 : decode cX6_init 14 = .ok (.putfield 15, 3) := by decide +kernel
theorem dX6_init_17 : decode cX6_init 17 = .ok (.aload_n 0, 1) := by decide +kernel
theorem dX6_init_18 : decode cX6_init 18 = .ok (.bipush 20, 2) := by decide +kernel
theorem dX6_init_20 : decode cX6_init 20 = .ok (.newarray .int, 2) := by decide +kernel
theorem dX6_init_22 : decode cX6_init 22 = .ok (.putfield 19, 3) := by decide +kernel
theorem dX6_init_25 : decode cX6_init 25 = .ok (.aload_n 0, 1) := by decide +kernel
theorem dX6_init_26 : decode cX6_init 26 = .ok (.bipush 20, 2) := by decide +kernel
theorem dX6_init_28 : decode cX6_init 28 = .ok (.newarray .int, 2) := by decide +kernel
theorem dX6_init_30 : decode cX6_init 30 = .ok (.putfield 22, 3) := by decide +kernel
theorem dX6_init_33 : decode cX6_init 33 = .ok (.aload_n 0, 1) := by decide +kernel
theorem dX6_init_34 : decode cX6_init 34 = .ok (.bipush 20, 2) := by decide +kernel
theorem dX6_init_36 : decode cX6_init 36 = .ok (.newarray .int, 2) := by decide +kernel
theorem dX6_init_38 : decode cX6_init 38 = .ok (.putfield 25, 3) := by decide +kernel
theorem dX6_init_41 : decode cX6_init 41 = .ok (.aload_n 0, 1) := by decide +kernel
theorem dX6_init_42 : decode cX6_init 42 = .ok (.bipush 20, 2) := by decide +kernel
theorem dX6_init_44 : decode cX6_init 44 = .ok (.newarray .int, 2) := by decide +kernel
theorem dX6_init_46 : decode cX6_init 46 = .ok (.putfield 28, 3) := by decide +kernel
theorem dX6_init_49 : decode cX6_init 49 = .ok (.return_, 1) := by decide +kernel
theorem dX6_has_0 : decode cX6_has 0 = .ok (.iload_n 1, 1) := by decide +kernel
theorem dX6_has_1 : decode cX6_has 1 = .ok (.ifCond .lt 15, 3) := by decide +kernel
theorem dX6_has_4 : decode cX6_has 4 = .ok (.iload_n 1, 1) := by decide +kernel
theorem dX6_has_5 : decode cX6_has 5 = .ok (.aload_n 0, 1) := by decide +kernel
theorem dX6_has_6 : decode cX6_has 6 = .ok (.getfield 9, 3) := by decide +kernel
theorem dX6_has_9 : decode cX6_has 9 = .ok (.if_icmp .ge 7, 3) := by decide +kernel
theorem dX6_has_12 : decode cX6_has 12 = .ok (.iconst 1, 1) := by decide +kernel
theorem dX6_has_13 : decode cX6_has 13 = .ok (.goto 4, 3) := by decide +kernel
theorem dX6_has_16 : decode cX6_has 16 = .ok (.iconst 0, 1) := by decide +kernel
theorem dX6_has_17 : decode cX6_has 17 = .ok (.ireturn, 1) := by decide +kernel
theorem dX6_add_0 : decode cX6_add 0 = .ok (.aload_n 0, 1) := by decide +kernel
theorem dX6_add_1 : decode cX6_add 1 = .ok (.getfield 9, 3) := by decide +kernel
theorem dX6_add_4 : decode cX6_add 4 = .ok (.bipush 20, 2) := by decide +kernel
theorem dX6_add_6 : decode cX6_add 6 = .ok (.if_icmp .lt 4, 3) := by decide +kernel
theorem dX6_add_9 : decode cX6_add 9 = .ok (.return_, 1) := by decide +kernel
theorem dX6_add_10 : decode cX6_add 10 = .ok (.aload_n 0, 1) := by decide +kernel
theorem dX6_add_11 : decode cX6_add 11 = .ok (.getfield 15, 3) := by decide +kernel
theorem dX6_add_14 : decode cX6_add 14 = .ok (.aload_n 0, 1) := by decide +kernel
theorem dX6_add_15 : decode cX6_add 15 = .ok (.getfield 9, 3) := by decide +kernel
theorem dX6_add_18 : decode cX6_add 18 = .ok (.iload_n 1, 1) := by decide +kernel
theorem dX6_add_19 : decode cX6_add 19 = .ok (.iastore, 1) := by decide +kernel
theorem dX6_add_20 : decode cX6_add 20 = .ok (.aload_n 0, 1) := by decide +kernel
theorem dX6_add_21 : decode cX6_add 21 = .ok (.getfield 19, 3) := by decide +kernel
theorem dX6_add_24 : decode cX6_add 24 = .ok (.aload_n 0, 1) := by decide +kernel
theorem dX6_add_25 : decode cX6_add 25 = .ok (.getfield 9, 3) := by decide +kernel
theorem dX6_add_28 : decode cX6_add 28 = .ok (.iload_n 2, 1) := by decide +kernel
theorem dX6_add_29 : decode cX6_add 29 = .ok (.iastore, 1) := by decide +kernel
theorem dX6_add_30 : decode cX6_add 30 = .ok (.aload_n 0, 1) := by decide +kernel
theorem dX6_add_31 : decode cX6_add 31 = .ok (.getfield 22, 3) := by decide +kernel
theorem dX6_add_34 : decode cX6_add 34 = .ok (.aload_n 0, 1) := by decide +kernel
theorem dX6_add_35 : decode cX6_add 35 = .ok (.getfield 9, 3) := by decide +kernel
theorem dX6_add_38 : decode cX6_add 38 = .ok (.iload_n 3, 1) := by decide +kernel
theorem dX6_add_39 : decode cX6_add 39 = .ok (.iastore, 1) := by decide +kernel
theorem dX6_add_40 : decode cX6_add 40 = .ok (.aload_n 0, 1) := by decide +kernel
theorem dX6_add_41 : decode cX6_add 41 = .ok (.dup, 1) := by decide +kernel
theorem dX6_add_42 : decode cX6_add 42 = .ok (.getfield 9, 3) := by decide +kernel
theorem dX6_add_45 : decode cX6_add 45 = .ok (.iconst 1, 1) := by decide +kernel
theorem dX6_add_46 : decode cX6_add 46 = .ok (.iadd, 1) := by decide +kernel
theorem dX6_add_47 : decode cX6_add 47 = .ok (.putfield 9, 3) := by decide +kernel
theorem dX6_add_50 : decode cX6_add 50 = .ok (.return_, 1) := by decide +kernel
theorem dX6_linesOf_0 : decode cX6_linesOf 0 = .ok (.iconst 0, 1) := by decide +kernel
theorem dX6_linesOf_1 : decode cX6_linesOf 1 = .ok (.istore_n 2, 1) := by decide +kernel
theorem dX6_linesOf_2 : decode cX6_linesOf 2 = .ok (.iconst 0, 1) := by decide +kernel
theorem dX6_linesOf_3 : decode cX6_linesOf 3 = .ok (.istore_n 3, 1) := by decide +kernel
theorem dX6_linesOf_4 : decode cX6_linesOf 4 = .ok (.iload_n 3, 1) := by decide +kernel
theorem dX6_linesOf_5 : decode cX6_linesOf 5 = .ok (.aload_n 0, 1) := by decide +kernel
theorem dX6_linesOf_6 : decode cX6_linesOf 6 = .ok (.getfield 9, 3) := by decide +kernel
theorem dX6_linesOf_9 : decode cX6_linesOf 9 = .ok (.if_icmp .ge 22, 3) := by decide +kernel
theorem dX6_linesOf_12 : decode cX6_linesOf 12 = .ok (.aload_n 0, 1) := by decide +kernel
theorem dX6_linesOf_13 : decode cX6_linesOf 13 = .ok (.getfield 15, 3) := by decide +kernel
theorem dX6_linesOf_16 : decode cX6_linesOf 16 = .ok (.iload_n 3, 1) := by decide +kernel
theorem dX6_linesOf_17 : decode cX6_linesOf 17 = .ok (.iaload, 1) := by decide +kernel
theorem dX6_linesOf_18 : decode cX6_linesOf 18 = .ok (.iload_n 1, 1) := by decide +kernel
theorem dX6_linesOf_19 : decode cX6_linesOf 19 = .ok (.if_icmp .ne 6, 3) := by decide +kernel
theorem dX6_linesOf_22 : decode cX6_linesOf 22 = .ok (.iinc 2 1, 3) := by decide +kernel
theorem dX6_linesOf_25 : decode cX6_linesOf 25 = .ok (.iinc 3 1, 3) := by decide +kernel
theorem dX6_linesOf_28 : decode cX6_linesOf 28 = .ok (.goto (-24), 3) := by decide +kernel
theorem dX6_linesOf_31 : decode cX6_linesOf 31 = .ok (.iload_n 2, 1) := by decide +kernel
theorem dX6_linesOf_32 : decode cX6_linesOf 32 = .ok (.ireturn, 1) := by decide +kernel
theorem dX6_isFirstOf_0 : decode cX6_isFirstOf 0 = .ok (.aload_n 0, 1) := by decide +kernel
theorem dX6_isFirstOf_1 : decode cX6_isFirstOf 1 = .ok (.getfield 15, 3) := by decide +kernel
theorem dX6_isFirstOf_4 : decode cX6_isFirstOf 4 = .ok (.iload_n 1, 1) := by decide +kernel
theorem dX6_isFirstOf_5 : decode cX6_isFirstOf 5 = .ok (.iaload, 1) := by decide +kernel
theorem dX6_isFirstOf_6 : decode cX6_isFirstOf 6 = .ok (.iload_n 2, 1) := by decide +kernel
theorem dX6_isFirstOf_7 : decode cX6_isFirstOf 7 = .ok (.if_icmp .eq 5, 3) := by decide +kernel
theorem dX6_isFirstOf_10 : decode cX6_isFirstOf 10 = .ok (.iconst 0, 1) := by decide +kernel
theorem dX6_isFirstOf_11 : decode cX6_isFirstOf 11 = .ok (.ireturn, 1) := by decide +kernel
theorem dX6_isFirstOf_12 : decode cX6_isFirstOf 12 = .ok (.iconst 0, 1) := by decide +kernel
theorem dX6_isFirstOf_13 : decode cX6_isFirstOf 13 = .ok (.istore_n 3, 1) := by decide +kernel
theorem dX6_isFirstOf_14 : decode cX6_isFirstOf 14 = .ok (.iload_n 3, 1) := by decide +kernel
theorem dX6_isFirstOf_15 : decode cX6_isFirstOf 15 = .ok (.iload_n 1, 1) := by decide +kernel
theorem dX6_isFirstOf_16 : decode cX6_isFirstOf 16 = .ok (.if_icmp .ge 36, 3) := by decide +kernel
theorem dX6_isFirstOf_19 : decode cX6_isFirstOf 19 = .ok (.aload_n 0, 1) := by decide +kernel
theorem dX6_isFirstOf_20 : decode cX6_isFirstOf 20 = .ok (.getfield 15, 3) := by decide +kernel
theorem dX6_isFirstOf_23 : decode cX6_isFirstOf 23 = .ok (.iload_n 3, 1) := by decide +kernel
theorem dX6_isFirstOf_24 : decode cX6_isFirstOf 24 = .ok (.iaload, 1) := by decide +kernel
theorem dX6_isFirstOf_25 : decode cX6_isFirstOf 25 = .ok (.iload_n 2, 1) := by decide +kernel
theorem dX6_isFirstOf_26 : decode cX6_isFirstOf 26 = .ok (.if_icmp .ne 20, 3) := by decide +kernel
theorem dX6_isFirstOf_29 : decode cX6_isFirstOf 29 = .ok (.aload_n 0, 1) := by decide +kernel
theorem dX6_isFirstOf_30 : decode cX6_isFirstOf 30 = .ok (.getfield 19, 3) := by decide +kernel
theorem dX6_isFirstOf_33 : decode cX6_isFirstOf 33 = .ok (.iload_n 3, 1) := by decide +kernel
theorem dX6_isFirstOf_34 : decode cX6_isFirstOf 34 = .ok (.iaload, 1) := by decide +kernel
theorem dX6_isFirstOf_35 : decode cX6_isFirstOf 35 = .ok (.aload_n 0, 1) := by decide +kernel
theorem dX6_isFirstOf_36 : decode cX6_isFirstOf 36 = .ok (.getfield 19, 3) := by decide +kernel
theorem dX6_isFirstOf_39 : decode cX6_isFirstOf 39 = .ok (.iload_n 1, 1) := by decide +kernel
theorem dX6_isFirstOf_40 : decode cX6_isFirstOf 40 = .ok (.iaload, 1) := by decide +kernel
theorem dX6_isFirstOf_41 : decode cX6_isFirstOf 41 = .ok (.if_icmp .ne 5, 3) := by decide +kernel
theorem dX6_isFirstOf_44 : decode cX6_isFirstOf 44 = .ok (.iconst 0, 1) := by decide +kernel
theorem dX6_isFirstOf_45 : decode cX6_isFirstOf 45 = .ok (.ireturn, 1) := by decide +kernel
theorem dX6_isFirstOf_46 : decode cX6_isFirstOf 46 = .ok (.iinc 3 1, 3) := by decide +kernel
theorem dX6_isFirstOf_49 : decode cX6_isFirstOf 49 = .ok (.goto (-35), 3) := by decide +kernel
theorem dX6_isFirstOf_52 : decode cX6_isFirstOf 52 = .ok (.iconst 1, 1) := by decide +kernel
theorem dX6_isFirstOf_53 : decode cX6_isFirstOf 53 = .ok (.ireturn, 1) := by decide +kernel
theorem dX6_tells_0 : decode cX6_tells 0 = .ok (.iconst 0, 1) := by decide +kernel
theorem dX6_tells_1 : decode cX6_tells 1 = .ok (.istore 4, 2) := by decide +kernel
theorem dX6_tells_3 : decode cX6_tells 3 = .ok (.iload 4, 2) := by decide +kernel
theorem dX6_tells_5 : decode cX6_tells 5 = .ok (.aload_n 0, 1) := by decide +kernel
theorem dX6_tells_6 : decode cX6_tells 6 = .ok (.getfield 9, 3) := by decide +kernel
theorem dX6_tells_9 : decode cX6_tells 9 = .ok (.if_icmp .ge 44, 3) := by decide +kernel
theorem dX6_tells_12 : decode cX6_tells 12 = .ok (.aload_n 0, 1) := by decide +kernel
theorem dX6_tells_13 : decode cX6_tells 13 = .ok (.getfield 15, 3) := by decide +kernel
theorem dX6_tells_16 : decode cX6_tells 16 = .ok (.iload 4, 2) := by decide +kernel
theorem dX6_tells_18 : decode cX6_tells 18 = .ok (.iaload, 1) := by decide +kernel
theorem dX6_tells_19 : decode cX6_tells 19 = .ok (.iload_n 1, 1) := by decide +kernel
theorem dX6_tells_20 : decode cX6_tells 20 = .ok (.if_icmp .ne 27, 3) := by decide +kernel
theorem dX6_tells_23 : decode cX6_tells 23 = .ok (.aload_n 0, 1) := by decide +kernel
theorem dX6_tells_24 : decode cX6_tells 24 = .ok (.getfield 19, 3) := by decide +kernel
theorem dX6_tells_27 : decode cX6_tells 27 = .ok (.iload 4, 2) := by decide +kernel
theorem dX6_tells_29 : decode cX6_tells 29 = .ok (.iaload, 1) := by decide +kernel
theorem dX6_tells_30 : decode cX6_tells 30 = .ok (.iload_n 2, 1) := by decide +kernel
theorem dX6_tells_31 : decode cX6_tells 31 = .ok (.if_icmp .ne 16, 3) := by decide +kernel
theorem dX6_tells_34 : decode cX6_tells 34 = .ok (.aload_n 0, 1) := by decide +kernel
theorem dX6_tells_35 : decode cX6_tells 35 = .ok (.getfield 22, 3) := by decide +kernel
theorem dX6_tells_38 : decode cX6_tells 38 = .ok (.iload 4, 2) := by decide +kernel
theorem dX6_tells_40 : decode cX6_tells 40 = .ok (.iaload, 1) := by decide +kernel
theorem dX6_tells_41 : decode cX6_tells 41 = .ok (.iload_n 3, 1) := by decide +kernel
theorem dX6_tells_42 : decode cX6_tells 42 = .ok (.if_icmp .ne 5, 3) := by decide +kernel
theorem dX6_tells_45 : decode cX6_tells 45 = .ok (.iconst 1, 1) := by decide +kernel
theorem dX6_tells_46 : decode cX6_tells 46 = .ok (.ireturn, 1) := by decide +kernel
theorem dX6_tells_47 : decode cX6_tells 47 = .ok (.iinc 4 1, 3) := by decide +kernel
theorem dX6_tells_50 : decode cX6_tells 50 = .ok (.goto (-47), 3) := by decide +kernel
theorem dX6_tells_53 : decode cX6_tells 53 = .ok (.iconst 0, 1) := by decide +kernel
theorem dX6_tells_54 : decode cX6_tells 54 = .ok (.ireturn, 1) := by decide +kernel
theorem dX6_outOfOrder_0 : decode cX6_outOfOrder 0 = .ok (.iconst 0, 1) := by decide +kernel
theorem dX6_outOfOrder_1 : decode cX6_outOfOrder 1 = .ok (.istore_n 3, 1) := by decide +kernel
theorem dX6_outOfOrder_2 : decode cX6_outOfOrder 2 = .ok (.iconst 0, 1) := by decide +kernel
theorem dX6_outOfOrder_3 : decode cX6_outOfOrder 3 = .ok (.istore 4, 2) := by decide +kernel
theorem dX6_outOfOrder_5 : decode cX6_outOfOrder 5 = .ok (.iload 4, 2) := by decide +kernel
theorem dX6_outOfOrder_7 : decode cX6_outOfOrder 7 = .ok (.aload_n 0, 1) := by decide +kernel
theorem dX6_outOfOrder_8 : decode cX6_outOfOrder 8 = .ok (.getfield 9, 3) := by decide +kernel
theorem dX6_outOfOrder_11 : decode cX6_outOfOrder 11 = .ok (.if_icmp .ge 49, 3) := by decide +kernel
theorem dX6_outOfOrder_14 : decode cX6_outOfOrder 14 = .ok (.aload_n 0, 1) := by decide +kernel
theorem dX6_outOfOrder_15 : decode cX6_outOfOrder 15 = .ok (.getfield 15, 3) := by decide +kernel
theorem dX6_outOfOrder_18 : decode cX6_outOfOrder 18 = .ok (.iload 4, 2) := by decide +kernel
theorem dX6_outOfOrder_20 : decode cX6_outOfOrder 20 = .ok (.iaload, 1) := by decide +kernel
theorem dX6_outOfOrder_21 : decode cX6_outOfOrder 21 = .ok (.iload_n 2, 1) := by decide +kernel
theorem dX6_outOfOrder_22 : decode cX6_outOfOrder 22 = .ok (.if_icmp .ne 12, 3) := by decide +kernel
theorem dX6_outOfOrder_25 : decode cX6_outOfOrder 25 = .ok (.aload_n 1, 1) := by decide +kernel
theorem dX6_outOfOrder_26 : decode cX6_outOfOrder 26 = .ok (.iload 4, 2) := by decide +kernel
theorem dX6_outOfOrder_28 : decode cX6_outOfOrder 28 = .ok (.invokevirtual 31, 3) := by decide +kernel
theorem dX6_outOfOrder_31 : decode cX6_outOfOrder 31 = .ok (.goto 4, 3) := by decide +kernel
theorem dX6_outOfOrder_34 : decode cX6_outOfOrder 34 = .ok (.iconst (-1), 1) := by decide +kernel
theorem dX6_outOfOrder_35 : decode cX6_outOfOrder 35 = .ok (.istore 5, 2) := by decide +kernel
theorem dX6_outOfOrder_37 : decode cX6_outOfOrder 37 = .ok (.iload 5, 2) := by decide +kernel
theorem dX6_outOfOrder_39 : decode cX6_outOfOrder 39 = .ok (.iconst (-1), 1) := by decide +kernel
theorem dX6_outOfOrder_40 : decode cX6_outOfOrder 40 = .ok (.if_icmp .eq 14, 3) := by decide +kernel
theorem dX6_outOfOrder_43 : decode cX6_outOfOrder 43 = .ok (.aload_n 0, 1) := by decide +kernel
theorem dX6_outOfOrder_44 : decode cX6_outOfOrder 44 = .ok (.getfield 25, 3) := by decide +kernel
theorem dX6_outOfOrder_47 : decode cX6_outOfOrder 47 = .ok (.iload_n 3, 1) := by decide +kernel
theorem dX6_outOfOrder_48 : decode cX6_outOfOrder 48 = .ok (.iload 5, 2) := by decide +kernel
theorem dX6_outOfOrder_50 : decode cX6_outOfOrder 50 = .ok (.iastore, 1) := by decide +kernel
theorem dX6_outOfOrder_51 : decode cX6_outOfOrder 51 = .ok (.iinc 3 1, 3) := by decide +kernel
theorem dX6_outOfOrder_54 : decode cX6_outOfOrder 54 = .ok (.iinc 4 1, 3) := by decide +kernel
theorem dX6_outOfOrder_57 : decode cX6_outOfOrder 57 = .ok (.goto (-52), 3) := by decide +kernel
theorem dX6_outOfOrder_60 : decode cX6_outOfOrder 60 = .ok (.iconst 0, 1) := by decide +kernel
theorem dX6_outOfOrder_61 : decode cX6_outOfOrder 61 = .ok (.istore 4, 2) := by decide +kernel
theorem dX6_outOfOrder_63 : decode cX6_outOfOrder 63 = .ok (.iconst 0, 1) := by decide +kernel
theorem dX6_outOfOrder_64 : decode cX6_outOfOrder 64 = .ok (.istore 5, 2) := by decide +kernel
theorem dX6_outOfOrder_66 : decode cX6_outOfOrder 66 = .ok (.iload 5, 2) := by decide +kernel
theorem dX6_outOfOrder_68 : decode cX6_outOfOrder 68 = .ok (.iload_n 3, 1) := by decide +kernel
theorem dX6_outOfOrder_69 : decode cX6_outOfOrder 69 = .ok (.if_icmp .ge 38, 3) := by decide +kernel
theorem dX6_outOfOrder_72 : decode cX6_outOfOrder 72 = .ok (.aload_n 0, 1) := by decide +kernel
theorem dX6_outOfOrder_73 : decode cX6_outOfOrder 73 = .ok (.getfield 28, 3) := by decide +kernel
theorem dX6_outOfOrder_76 : decode cX6_outOfOrder 76 = .ok (.iload 5, 2) := by decide +kernel
theorem dX6_outOfOrder_78 : decode cX6_outOfOrder 78 = .ok (.iconst 1, 1) := by decide +kernel
theorem dX6_outOfOrder_79 : decode cX6_outOfOrder 79 = .ok (.aload_n 0, 1) := by decide +kernel
theorem dX6_outOfOrder_80 : decode cX6_outOfOrder 80 = .ok (.iload 5, 2) := by decide +kernel
theorem dX6_outOfOrder_82 : decode cX6_outOfOrder 82 = .ok (.invokevirtual 37, 3) := by decide +kernel
theorem dX6_outOfOrder_85 : decode cX6_outOfOrder 85 = .ok (.iadd, 1) := by decide +kernel
theorem dX6_outOfOrder_86 : decode cX6_outOfOrder 86 = .ok (.iastore, 1) := by decide +kernel
theorem dX6_outOfOrder_87 : decode cX6_outOfOrder 87 = .ok (.iload 4, 2) := by decide +kernel
theorem dX6_outOfOrder_89 : decode cX6_outOfOrder 89 = .ok (.aload_n 0, 1) := by decide +kernel
theorem dX6_outOfOrder_90 : decode cX6_outOfOrder 90 = .ok (.getfield 28, 3) := by decide +kernel
theorem dX6_outOfOrder_93 : decode cX6_outOfOrder 93 = .ok (.iload 5, 2) := by decide +kernel
theorem dX6_outOfOrder_95 : decode cX6_outOfOrder 95 = .ok (.iaload, 1) := by decide +kernel
theorem dX6_outOfOrder_96 : decode cX6_outOfOrder 96 = .ok (.invokestatic 40, 3) := by decide +kernel
theorem dX6_outOfOrder_99 : decode cX6_outOfOrder 99 = .ok (.istore 4, 2) := by decide +kernel
theorem dX6_outOfOrder_101 : decode cX6_outOfOrder 101 = .ok (.iinc 5 1, 3) := by decide +kernel
theorem dX6_outOfOrder_104 : decode cX6_outOfOrder 104 = .ok (.goto (-38), 3) := by decide +kernel
theorem dX6_outOfOrder_107 : decode cX6_outOfOrder 107 = .ok (.iload_n 3, 1) := by decide +kernel
theorem dX6_outOfOrder_108 : decode cX6_outOfOrder 108 = .ok (.iload 4, 2) := by decide +kernel
theorem dX6_outOfOrder_110 : decode cX6_outOfOrder 110 = .ok (.isub, 1) := by decide +kernel
theorem dX6_outOfOrder_111 : decode cX6_outOfOrder 111 = .ok (.ireturn, 1) := by decide +kernel
theorem dX6_longestAhead_0 : decode cX6_longestAhead 0 = .ok (.iconst 0, 1) := by decide +kernel
theorem dX6_longestAhead_1 : decode cX6_longestAhead 1 = .ok (.istore_n 2, 1) := by decide +kernel
theorem dX6_longestAhead_2 : decode cX6_longestAhead 2 = .ok (.iconst 0, 1) := by decide +kernel
theorem dX6_longestAhead_3 : decode cX6_longestAhead 3 = .ok (.istore_n 3, 1) := by decide +kernel
theorem dX6_longestAhead_4 : decode cX6_longestAhead 4 = .ok (.iload_n 3, 1) := by decide +kernel
theorem dX6_longestAhead_5 : decode cX6_longestAhead 5 = .ok (.iload_n 1, 1) := by decide +kernel
theorem dX6_longestAhead_6 : decode cX6_longestAhead 6 = .ok (.if_icmp .ge 35, 3) := by decide +kernel
theorem dX6_longestAhead_9 : decode cX6_longestAhead 9 = .ok (.aload_n 0, 1) := by decide +kernel
theorem dX6_longestAhead_10 : decode cX6_longestAhead 10 = .ok (.getfield 25, 3) := by decide +kernel
theorem dX6_longestAhead_13 : decode cX6_longestAhead 13 = .ok (.iload_n 3, 1) := by decide +kernel
theorem dX6_longestAhead_14 : decode cX6_longestAhead 14 = .ok (.iaload, 1) := by decide +kernel
theorem dX6_longestAhead_15 : decode cX6_longestAhead 15 = .ok (.aload_n 0, 1) := by decide +kernel
theorem dX6_longestAhead_16 : decode cX6_longestAhead 16 = .ok (.getfield 25, 3) := by decide +kernel
theorem dX6_longestAhead_19 : decode cX6_longestAhead 19 = .ok (.iload_n 1, 1) := by decide +kernel
theorem dX6_longestAhead_20 : decode cX6_longestAhead 20 = .ok (.iaload, 1) := by decide +kernel
theorem dX6_longestAhead_21 : decode cX6_longestAhead 21 = .ok (.if_icmp .gt 14, 3) := by decide +kernel
theorem dX6_longestAhead_24 : decode cX6_longestAhead 24 = .ok (.iload_n 2, 1) := by decide +kernel
theorem dX6_longestAhead_25 : decode cX6_longestAhead 25 = .ok (.aload_n 0, 1) := by decide +kernel
theorem dX6_longestAhead_26 : decode cX6_longestAhead 26 = .ok (.getfield 28, 3) := by decide +kernel
theorem dX6_longestAhead_29 : decode cX6_longestAhead 29 = .ok (.iload_n 3, 1) := by decide +kernel
theorem dX6_longestAhead_30 : decode cX6_longestAhead 30 = .ok (.iaload, 1) := by decide +kernel
theorem dX6_longestAhead_31 : decode cX6_longestAhead 31 = .ok (.invokestatic 40, 3) := by decide +kernel
theorem dX6_longestAhead_34 : decode cX6_longestAhead 34 = .ok (.istore_n 2, 1) := by decide +kernel
theorem dX6_longestAhead_35 : decode cX6_longestAhead 35 = .ok (.iinc 3 1, 3) := by decide +kernel
theorem dX6_longestAhead_38 : decode cX6_longestAhead 38 = .ok (.goto (-34), 3) := by decide +kernel
theorem dX6_longestAhead_41 : decode cX6_longestAhead 41 = .ok (.iload_n 2, 1) := by decide +kernel
theorem dX6_longestAhead_42 : decode cX6_longestAhead 42 = .ok (.ireturn, 1) := by decide +kernel
theorem dX7_init_0 : decode cX7_init 0 = .ok (.aload_n 0, 1) := by decide +kernel
theorem dX7_init_1 : decode cX7_init 1 = .ok (.invokespecial 3, 3) := by decide +kernel
theorem dX7_init_4 : decode cX7_init 4 = .ok (.aload_n 0, 1) := by decide +kernel
theorem dX7_init_5 : decode cX7_init 5 = .ok (.new 9, 3) := by decide +kernel
theorem dX7_init_8 : decode cX7_init 8 = .ok (.dup, 1) := by decide +kernel
theorem dX7_init_9 : decode cX7_init 9 = .ok (.invokespecial 11, 3) := by decide +kernel
theorem dX7_init_12 : decode cX7_init 12 = .ok (.putfield 12, 3) := by decide +kernel
theorem dX7_init_15 : decode cX7_init 15 = .ok (.aload_n 0, 1) := by decide +kernel
theorem dX7_init_16 : decode cX7_init 16 = .ok (.new 18, 3) := by decide +kernel
theorem dX7_init_19 : decode cX7_init 19 = .ok (.dup, 1) := by decide +kernel
theorem dX7_init_20 : decode cX7_init 20 = .ok (.invokespecial 20, 3) := by decide +kernel
theorem dX7_init_23 : decode cX7_init 23 = .ok (.putfield 21, 3) := by decide +kernel
theorem dX7_init_26 : decode cX7_init 26 = .ok (.aload_n 0, 1) := by decide +kernel
theorem dX7_init_27 : decode cX7_init 27 = .ok (.iconst 0, 1) := by decide +kernel
theorem dX7_init_28 : decode cX7_init 28 = .ok (.putfield 25, 3) := by decide +kernel
theorem dX7_init_31 : decode cX7_init 31 = .ok (.aload_n 0, 1) := by decide +kernel
theorem dX7_init_32 : decode cX7_init 32 = .ok (.iconst (-1), 1) := by decide +kernel
theorem dX7_init_33 : decode cX7_init 33 = .ok (.putfield 29, 3) := by decide +kernel
theorem dX7_init_36 : decode cX7_init 36 = .ok (.aload_n 0, 1) := by decide +kernel
