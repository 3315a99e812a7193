theorem dX11_draws_31 : decode cX11_draws 31 = .ok (.aload_n 0, 1) := by decide +kernel
theorem dX11_draws_32 : decode cX11_draws 32 = .ok (.getfield 50, 3) := by decide +kernel
theorem dX11_draws_35 : decode cX11_draws 35 = .ok (.aload_n 0, 1) := by decide +kernel
theorem dX11_draws_36 : decode cX11_draws 36 = .ok (.getfield 19, 3) := by decide +kernel
theorem dX11_draws_39 : decode cX11_draws 39 = .ok (.iload_n 1, 1) := by decide +kernel
theorem dX11_draws_40 : decode cX11_draws 40 = .ok (.aload_n 0, 1) := by decide +kernel
theorem dX11_draws_41 : decode cX11_draws 41 = .ok (.getfield 43, 3) := by decide +kernel
theorem dX11_draws_44 : decode cX11_draws 44 = .ok (.invokevirtual 274, 3) := by decide +kernel
theorem dX11_draws_47 : decode cX11_draws 47 = .ok (.aload_n 0, 1) := by decide +kernel
theorem dX11_draws_48 : decode cX11_draws 48 = .ok (.getfield 50, 3) := by decide +kernel
theorem dX11_draws_51 : decode cX11_draws 51 = .ok (.iload_n 2, 1) := by decide +kernel
theorem dX11_draws_52 : decode cX11_draws 52 = .ok (.iload_n 3, 1) := by decide +kernel
theorem dX11_draws_53 : decode cX11_draws 53 = .ok (.invokevirtual 278, 3) := by decide +kernel
theorem dX11_draws_56 : decode cX11_draws 56 = .ok (.ireturn, 1) := by decide +kernel
theorem dX11_barred_0 : decode cX11_barred 0 = .ok (.aload_n 0, 1) := by decide +kernel
theorem dX11_barred_1 : decode cX11_barred 1 = .ok (.getfield 19, 3) := by decide +kernel
theorem dX11_barred_4 : decode cX11_barred 4 = .ok (.getfield 96, 3) := by decide +kernel
theorem dX11_barred_7 : decode cX11_barred 7 = .ok (.iload_n 1, 1) := by decide +kernel
theorem dX11_barred_8 : decode cX11_barred 8 = .ok (.invokevirtual 132, 3) := by decide +kernel
theorem dX11_barred_11 : decode cX11_barred 11 = .ok (.ifCond .ne 5, 3) := by decide +kernel
theorem dX11_barred_14 : decode cX11_barred 14 = .ok (.iconst (-1), 1) := by decide +kernel
theorem dX11_barred_15 : decode cX11_barred 15 = .ok (.ireturn, 1) := by decide +kernel
theorem dX11_barred_16 : decode cX11_barred 16 = .ok (.aload_n 0, 1) := by decide +kernel
theorem dX11_barred_17 : decode cX11_barred 17 = .ok (.getfield 43, 3) := by decide +kernel
theorem dX11_barred_20 : decode cX11_barred 20 = .ok (.aload_n 0, 1) := by decide +kernel
theorem dX11_barred_21 : decode cX11_barred 21 = .ok (.getfield 19, 3) := by decide +kernel
theorem dX11_barred_24 : decode cX11_barred 24 = .ok (.iload_n 1, 1) := by decide +kernel
theorem dX11_barred_25 : decode cX11_barred 25 = .ok (.invokevirtual 281, 3) := by decide +kernel
theorem dX11_barred_28 : decode cX11_barred 28 = .ok (.ifCond .eq 7, 3) := by decide +kernel
theorem dX11_barred_31 : decode cX11_barred 31 = .ok (.iconst 1, 1) := by decide +kernel
theorem dX11_barred_32 : decode cX11_barred 32 = .ok (.goto 4, 3) := by decide +kernel
theorem dX11_barred_35 : decode cX11_barred 35 = .ok (.iconst 0, 1) := by decide +kernel
theorem dX11_barred_36 : decode cX11_barred 36 = .ok (.ireturn, 1) := by decide +kernel
theorem dX11_jury_0 : decode cX11_jury 0 = .ok (.aload_n 0, 1) := by decide +kernel
theorem dX11_jury_1 : decode cX11_jury 1 = .ok (.getfield 19, 3) := by decide +kernel
theorem dX11_jury_4 : decode cX11_jury 4 = .ok (.getfield 96, 3) := by decide +kernel
theorem dX11_jury_7 : decode cX11_jury 7 = .ok (.iload_n 1, 1) := by decide +kernel
theorem dX11_jury_8 : decode cX11_jury 8 = .ok (.invokevirtual 132, 3) := by decide +kernel
theorem dX11_jury_11 : decode cX11_jury 11 = .ok (.ifCond .eq 12, 3) := by decide +kernel
theorem dX11_jury_14 : decode cX11_jury 14 = .ok (.iload_n 2, 1) := by decide +kernel
theorem dX11_jury_15 : decode cX11_jury 15 = .ok (.ifCond .lt 8, 3) := by decide +kernel
theorem dX11_jury_18 : decode cX11_jury 18 = .ok (.iload_n 2, 1) := by decide +kernel
theorem dX11_jury_19 : decode cX11_jury 19 = .ok (.iconst 2, 1) := by decide +kernel
theorem dX11_jury_20 : decode cX11_jury 20 = .ok (.if_icmp .le 5, 3) := by decide +kernel
theorem dX11_jury_23 : decode cX11_jury 23 = .ok (.iconst (-1), 1) := by decide +kernel
theorem dX11_jury_24 : decode cX11_jury 24 = .ok (.ireturn, 1) := by decide +kernel
theorem dX11_jury_25 : decode cX11_jury 25 = .ok (.aload_n 0, 1) := by decide +kernel
theorem dX11_jury_26 : decode cX11_jury 26 = .ok (.getfield 43, 3) := by decide +kernel
theorem dX11_jury_29 : decode cX11_jury 29 = .ok (.aload_n 0, 1) := by decide +kernel
theorem dX11_jury_30 : decode cX11_jury 30 = .ok (.getfield 19, 3) := by decide +kernel
theorem dX11_jury_33 : decode cX11_jury 33 = .ok (.iload_n 1, 1) := by decide +kernel
theorem dX11_jury_34 : decode cX11_jury 34 = .ok (.iload_n 2, 1) := by decide +kernel
theorem dX11_jury_35 : decode cX11_jury 35 = .ok (.invokevirtual 285, 3) := by decide +kernel
theorem dX11_jury_38 : decode cX11_jury 38 = .ok (.ifCond .eq 7, 3) := by decide +kernel
theorem dX11_jury_41 : decode cX11_jury 41 = .ok (.iconst 1, 1) := by decide +kernel
theorem dX11_jury_42 : decode cX11_jury 42 = .ok (.goto 4, 3) := by decide +kernel
theorem dX11_jury_45 : decode cX11_jury 45 = .ok (.iconst 0, 1) := by decide +kernel
theorem dX11_jury_46 : decode cX11_jury 46 = .ok (.ireturn, 1) := by decide +kernel
theorem dX11_there_0 : decode cX11_there 0 = .ok (.aload_n 0, 1) := by decide +kernel
theorem dX11_there_1 : decode cX11_there 1 = .ok (.getfield 19, 3) := by decide +kernel
theorem dX11_there_4 : decode cX11_there 4 = .ok (.getfield 96, 3) := by decide +kernel
theorem dX11_there_7 : decode cX11_there 7 = .ok (.iload_n 1, 1) := by decide +kernel
theorem dX11_there_8 : decode cX11_there 8 = .ok (.invokevirtual 261, 3) := by decide +kernel
theorem dX11_there_11 : decode cX11_there 11 = .ok (.ifCond .ne 5, 3) := by decide +kernel
theorem dX11_there_14 : decode cX11_there 14 = .ok (.iconst (-1), 1) := by decide +kernel
theorem dX11_there_15 : decode cX11_there 15 = .ok (.ireturn, 1) := by decide +kernel
theorem dX11_there_16 : decode cX11_there 16 = .ok (.aload_n 0, 1) := by decide +kernel
theorem dX11_there_17 : decode cX11_there 17 = .ok (.getfield 19, 3) := by decide +kernel
theorem dX11_there_20 : decode cX11_there 20 = .ok (.iload_n 1, 1) := by decide +kernel
theorem dX11_there_21 : decode cX11_there 21 = .ok (.putfield 289, 3) := by decide +kernel
theorem dX11_there_24 : decode cX11_there 24 = .ok (.iload_n 1, 1) := by decide +kernel
theorem dX11_there_25 : decode cX11_there 25 = .ok (.invokestatic 253, 3) := by decide +kernel
theorem dX11_there_28 : decode cX11_there 28 = .ok (.ireturn, 1) := by decide +kernel
theorem dX11_found_0 : decode cX11_found 0 = .ok (.iload_n 1, 1) := by decide +kernel
theorem dX11_found_1 : decode cX11_found 1 = .ok (.ifCond .lt 17, 3) := by decide +kernel
theorem dX11_found_4 : decode cX11_found 4 = .ok (.iload_n 1, 1) := by decide +kernel
theorem dX11_found_5 : decode cX11_found 5 = .ok (.iconst 2, 1) := by decide +kernel
theorem dX11_found_6 : decode cX11_found 6 = .ok (.if_icmp .gt 12, 3) := by decide +kernel
theorem dX11_found_9 : decode cX11_found 9 = .ok (.iload_n 2, 1) := by decide +kernel
theorem dX11_found_10 : decode cX11_found 10 = .ok (.ifCond .lt 8, 3) := by decide +kernel
theorem dX11_found_13 : decode cX11_found 13 = .ok (.iload_n 2, 1) := by decide +kernel
theorem dX11_found_14 : decode cX11_found 14 = .ok (.iconst 1, 1) := by decide +kernel
theorem dX11_found_15 : decode cX11_found 15 = .ok (.if_icmp .le 5, 3) := by decide +kernel
theorem dX11_found_18 : decode cX11_found 18 = .ok (.iconst (-1), 1) := by decide +kernel
theorem dX11_found_19 : decode cX11_found 19 = .ok (.ireturn, 1) := by decide +kernel
theorem dX11_found_20 : decode cX11_found 20 = .ok (.iconst 0, 1) := by decide +kernel
theorem dX11_found_21 : decode cX11_found 21 = .ok (.istore_n 3, 1) := by decide +kernel
theorem dX11_found_22 : decode cX11_found 22 = .ok (.iconst 0, 1) := by decide +kernel
theorem dX11_found_23 : decode cX11_found 23 = .ok (.istore 4, 2) := by decide +kernel
theorem dX11_found_25 : decode cX11_found 25 = .ok (.iload 4, 2) := by decide +kernel
theorem dX11_found_27 : decode cX11_found 27 = .ok (.aload_n 0, 1) := by decide +kernel
theorem dX11_found_28 : decode cX11_found 28 = .ok (.getfield 19, 3) := by decide +kernel
theorem dX11_found_31 : decode cX11_found 31 = .ok (.getfield 96, 3) := by decide +kernel
theorem dX11_found_34 : decode cX11_found 34 = .ok (.getfield 252, 3) := by decide +kernel
theorem dX11_found_37 : decode cX11_found 37 = .ok (.if_icmp .ge 49, 3) := by decide +kernel
theorem dX11_found_40 : decode cX11_found 40 = .ok (.aload_n 0, 1) := by decide +kernel
theorem dX11_found_41 : decode cX11_found 41 = .ok (.getfield 43, 3) := by decide +kernel
theorem dX11_found_44 : decode cX11_found 44 = .ok (.aload_n 0, 1) := by decide +kernel
theorem dX11_found_45 : decode cX11_found 45 = .ok (.getfield 19, 3) := by decide +kernel
theorem dX11_found_48 : decode cX11_found 48 = .ok (.iload 4, 2) := by decide +kernel
theorem dX11_found_50 : decode cX11_found 50 = .ok (.iload_n 1, 1) := by decide +kernel
theorem dX11_found_51 : decode cX11_found 51 = .ok (.invokevirtual 285, 3) := by decide +kernel
theorem dX11_found_54 : decode cX11_found 54 = .ok (.ifCond .eq 26, 3) := by decide +kernel
theorem dX11_found_57 : decode cX11_found 57 = .ok (.aload_n 0, 1) := by decide +kernel
theorem dX11_found_58 : decode cX11_found 58 = .ok (.getfield 43, 3) := by decide +kernel
theorem dX11_found_61 : decode cX11_found 61 = .ok (.aload_n 0, 1) := by decide +kernel
theorem dX11_found_62 : decode cX11_found 62 = .ok (.getfield 19, 3) := by decide +kernel
theorem dX11_found_65 : decode cX11_found 65 = .ok (.iload 4, 2) := by decide +kernel
theorem dX11_found_67 : decode cX11_found 67 = .ok (.invokevirtual 281, 3) := by decide +kernel
theorem dX11_found_70 : decode cX11_found 70 = .ok (.ifCond .ne 10, 3) := by decide +kernel
theorem dX11_found_73 : decode cX11_found 73 = .ok (.iload_n 3, 1) := by decide +kernel
theorem dX11_found_74 : decode cX11_found 74 = .ok (.iconst 1, 1) := by decide +kernel
theorem dX11_found_75 : decode cX11_found 75 = .ok (.iload 4, 2) := by decide +kernel
theorem dX11_found_77 : decode cX11_found 77 = .ok (.ishl, 1) := by decide +kernel
theorem dX11_found_78 : decode cX11_found 78 = .ok (.ior, 1) := by decide +kernel
theorem dX11_found_79 : decode cX11_found 79 = .ok (.istore_n 3, 1) := by decide +kernel
theorem dX11_found_80 : decode cX11_found 80 = .ok (.iinc 4 1, 3) := by decide +kernel
theorem dX11_found_83 : decode cX11_found 83 = .ok (.goto (-58), 3) := by decide +kernel
theorem dX11_found_86 : decode cX11_found 86 = .ok (.iload_n 2, 1) := by decide +kernel
theorem dX11_found_87 : decode cX11_found 87 = .ok (.ifCond .ne 17, 3) := by decide +kernel
theorem dX11_found_90 : decode cX11_found 90 = .ok (.iload_n 3, 1) := by decide +kernel
theorem dX11_found_91 : decode cX11_found 91 = .ok (.aload_n 0, 1) := by decide +kernel
theorem dX11_found_92 : decode cX11_found 92 = .ok (.getfield 19, 3) := by decide +kernel
theorem dX11_found_95 : decode cX11_found 95 = .ok (.getfield 289, 3) := by decide +kernel
theorem dX11_found_98 : decode cX11_found 98 = .ok (.iconst (-1), 1) := by decide +kernel
theorem dX11_found_99 : decode cX11_found 99 = .ok (.ixor, 1) := by decide +kernel
theorem dX11_found_100 : decode cX11_found 100 = .ok (.iand, 1) := by decide +kernel
theorem dX11_found_101 : decode cX11_found 101 = .ok (.goto 14, 3) := by decide +kernel
theorem dX11_found_104 : decode cX11_found 104 = .ok (.aload_n 0, 1) := by decide +kernel
theorem dX11_found_105 : decode cX11_found 105 = .ok (.getfield 19, 3) := by decide +kernel
theorem dX11_found_108 : decode cX11_found 108 = .ok (.getfield 289, 3) := by decide +kernel
theorem dX11_found_111 : decode cX11_found 111 = .ok (.iload_n 3, 1) := by decide +kernel
theorem dX11_found_112 : decode cX11_found 112 = .ok (.iconst (-1), 1) := by decide +kernel
theorem dX11_found_113 : decode cX11_found 113 = .ok (.ixor, 1) := by decide +kernel
theorem dX11_found_114 : decode cX11_found 114 = .ok (.iand, 1) := by decide +kernel
theorem dX11_found_115 : decode cX11_found 115 = .ok (.ireturn, 1) := by decide +kernel
theorem dX11_count_0 : decode cX11_count 0 = .ok (.iload_n 1, 1) := by decide +kernel
theorem dX11_count_1 : decode cX11_count 1 = .ok (.tableswitch 137 0 7 #[47, 58, 69, 80, 88, 99, 107, 115], 47) := by decide +kernel
theorem dX11_count_48 : decode cX11_count 48 = .ok (.aload_n 0, 1) := by decide +kernel
theorem dX11_count_49 : decode cX11_count 49 = .ok (.getfield 19, 3) := by decide +kernel
theorem dX11_count_52 : decode cX11_count 52 = .ok (.getfield 86, 3) := by decide +kernel
theorem dX11_count_55 : decode cX11_count 55 = .ok (.getfield 264, 3) := by decide +kernel
theorem dX11_count_58 : decode cX11_count 58 = .ok (.ireturn, 1) := by decide +kernel
theorem dX11_count_59 : decode cX11_count 59 = .ok (.aload_n 0, 1) := by decide +kernel
theorem dX11_count_60 : decode cX11_count 60 = .ok (.getfield 19, 3) := by decide +kernel
theorem dX11_count_63 : decode cX11_count 63 = .ok (.getfield 96, 3) := by decide +kernel
theorem dX11_count_66 : decode cX11_count 66 = .ok (.getfield 252, 3) := by decide +kernel
theorem dX11_count_69 : decode cX11_count 69 = .ok (.ireturn, 1) := by decide +kernel
theorem dX11_count_70 : decode cX11_count 70 = .ok (.aload_n 0, 1) := by decide +kernel
theorem dX11_count_71 : decode cX11_count 71 = .ok (.getfield 19, 3) := by decide +kernel
theorem dX11_count_74 : decode cX11_count 74 = .ok (.getfield 148, 3) := by decide +kernel
theorem dX11_count_77 : decode cX11_count 77 = .ok (.getfield 178, 3) := by decide +kernel
theorem dX11_count_80 : decode cX11_count 80 = .ok (.ireturn, 1) := by decide +kernel
theorem dX11_count_81 : decode cX11_count 81 = .ok (.aload_n 0, 1) := by decide +kernel
theorem dX11_count_82 : decode cX11_count 82 = .ok (.getfield 19, 3) := by decide +kernel
theorem dX11_count_85 : decode cX11_count 85 = .ok (.invokevirtual 188, 3) := by decide +kernel
theorem dX11_count_88 : decode cX11_count 88 = .ok (.ireturn, 1) := by decide +kernel
theorem dX11_count_89 : decode cX11_count 89 = .ok (.aload_n 0, 1) := by decide +kernel
theorem dX11_count_90 : decode cX11_count 90 = .ok (.getfield 19, 3) := by decide +kernel
theorem dX11_count_93 : decode cX11_count 93 = .ok (.getfield 225, 3) := by decide +kernel
theorem dX11_count_96 : decode cX11_count 96 = .ok (.getfield 292, 3) := by decide +kernel
theorem dX11_count_99 : decode cX11_count 99 = .ok (.ireturn, 1) := by decide +kernel
theorem dX11_count_100 : decode cX11_count 100 = .ok (.aload_n 0, 1) := by decide +kernel
theorem dX11_count_101 : decode cX11_count 101 = .ok (.getfield 19, 3) := by decide +kernel
theorem dX11_count_104 : decode cX11_count 104 = .ok (.getfield 293, 3) := by decide +kernel
theorem dX11_count_107 : decode cX11_count 107 = .ok (.ireturn, 1) := by decide +kernel
theorem dX11_count_108 : decode cX11_count 108 = .ok (.aload_n 0, 1) := by decide +kernel
theorem dX11_count_109 : decode cX11_count 109 = .ok (.getfield 19, 3) := by decide +kernel
theorem dX11_count_112 : decode cX11_count 112 = .ok (.getfield 185, 3) := by decide +kernel
theorem dX11_count_115 : decode cX11_count 115 = .ok (.ireturn, 1) := by decide +kernel
theorem dX11_count_116 : decode cX11_count 116 = .ok (.aload_n 0, 1) := by decide +kernel
theorem dX11_count_117 : decode cX11_count 117 = .ok (.getfield 19, 3) := by decide +kernel
theorem dX11_count_120 : decode cX11_count 120 = .ok (.getfield 148, 3) := by decide +kernel
theorem dX11_count_123 : decode cX11_count 123 = .ok (.getfield 178, 3) := by decide +kernel
theorem dX11_count_126 : decode cX11_count 126 = .ok (.aload_n 0, 1) := by decide +kernel
theorem dX11_count_127 : decode cX11_count 127 = .ok (.getfield 19, 3) := by decide +kernel
theorem dX11_count_130 : decode cX11_count 130 = .ok (.getfield 148, 3) := by decide +kernel
theorem dX11_count_133 : decode cX11_count 133 = .ok (.getfield 296, 3) := by decide +kernel
theorem dX11_count_136 : decode cX11_count 136 = .ok (.isub, 1) := by decide +kernel
theorem dX11_count_137 : decode cX11_count 137 = .ok (.ireturn, 1) := by decide +kernel
theorem dX11_count_138 : decode cX11_count 138 = .ok (.iconst (-1), 1) := by decide +kernel
theorem dX11_count_139 : decode cX11_count 139 = .ok (.ireturn, 1) := by decide +kernel
theorem dX11_hadBy_0 : decode cX11_hadBy 0 = .ok (.iload_n 0, 1) := by decide +kernel
theorem dX11_hadBy_1 : decode cX11_hadBy 1 = .ok (.iconst (-1), 1) := by decide +kernel
theorem dX11_hadBy_2 : decode cX11_hadBy 2 = .ok (.if_icmp .eq 12, 3) := by decide +kernel
theorem dX11_hadBy_5 : decode cX11_hadBy 5 = .ok (.iload_n 0, 1) := by decide +kernel
theorem dX11_hadBy_6 : decode cX11_hadBy 6 = .ok (.iload_n 1, 1) := by decide +kernel
theorem dX11_hadBy_7 : decode cX11_hadBy 7 = .ok (.if_icmp .gt 7, 3) := by decide +kernel
theorem dX11_hadBy_10 : decode cX11_hadBy 10 = .ok (.iconst 1, 1) := by decide +kernel
theorem dX11_hadBy_11 : decode cX11_hadBy 11 = .ok (.goto 4, 3) := by decide +kernel
theorem dX11_hadBy_14 : decode cX11_hadBy 14 = .ok (.iconst 0, 1) := by decide +kernel
theorem dX11_hadBy_15 : decode cX11_hadBy 15 = .ok (.ireturn, 1) := by decide +kernel
theorem dX11_isIn_0 : decode cX11_isIn 0 = .ok (.iload_n 0, 1) := by decide +kernel
theorem dX11_isIn_1 : decode cX11_isIn 1 = .ok (.iload_n 1, 1) := by decide +kernel
theorem dX11_isIn_2 : decode cX11_isIn 2 = .ok (.ishr, 1) := by decide +kernel
theorem dX11_isIn_3 : decode cX11_isIn 3 = .ok (.iconst 1, 1) := by decide +kernel
theorem dX11_isIn_4 : decode cX11_isIn 4 = .ok (.iand, 1) := by decide +kernel
theorem dX11_isIn_5 : decode cX11_isIn 5 = .ok (.iconst 1, 1) := by decide +kernel
theorem dX11_isIn_6 : decode cX11_isIn 6 = .ok (.if_icmp .ne 7, 3) := by decide +kernel
theorem dX11_isIn_9 : decode cX11_isIn 9 = .ok (.iconst 1, 1) := by decide +kernel
theorem dX11_isIn_10 : decode cX11_isIn 10 = .ok (.goto 4, 3) := by decide +kernel
theorem dX11_isIn_13 : decode cX11_isIn 13 = .ok (.iconst 0, 1) := by decide +kernel
theorem dX11_isIn_14 : decode cX11_isIn 14 = .ok (.ireturn, 1) := by decide +kernel
theorem dX11_find_0 : decode cX11_find 0 = .ok (.iconst 0, 1) := by decide +kernel
theorem dX11_find_1 : decode cX11_find 1 = .ok (.istore_n 3, 1) := by decide +kernel
theorem dX11_find_2 : decode cX11_find 2 = .ok (.iload_n 3, 1) := by decide +kernel
theorem dX11_find_3 : decode cX11_find 3 = .ok (.iload_n 1, 1) := by decide +kernel
theorem dX11_find_4 : decode cX11_find 4 = .ok (.if_icmp .ge 24, 3) := by decide +kernel
theorem dX11_find_7 : decode cX11_find 7 = .ok (.iload_n 3, 1) := by decide +kernel
theorem dX11_find_8 : decode cX11_find 8 = .ok (.aload_n 0, 1) := by decide +kernel
theorem dX11_find_9 : decode cX11_find 9 = .ok (.arraylength, 1) := by decide +kernel
theorem dX11_find_10 : decode cX11_find 10 = .ok (.if_icmp .ge 18, 3) := by decide +kernel
theorem dX11_find_13 : decode cX11_find 13 = .ok (.aload_n 0, 1) := by decide +kernel
theorem dX11_find_14 : decode cX11_find 14 = .ok (.iload_n 3, 1) := by decide +kernel
theorem dX11_find_15 : decode cX11_find 15 = .ok (.iaload, 1) := by decide +kernel
theorem dX11_find_16 : decode cX11_find 16 = .ok (.iload_n 2, 1) := by decide +kernel
theorem dX11_find_17 : decode cX11_find 17 = .ok (.if_icmp .ne 5, 3) := by decide +kernel
theorem dX11_find_20 : decode cX11_find 20 = .ok (.iload_n 3, 1) := by decide +kernel
theorem dX11_find_21 : decode cX11_find 21 = .ok (.ireturn, 1) := by decide +kernel
theorem dX11_find_22 : decode cX11_find 22 = .ok (.iinc 3 1, 3) := by decide +kernel
theorem dX11_find_25 : decode cX11_find 25 = .ok (.goto (-23), 3) := by decide +kernel
theorem dX11_find_28 : decode cX11_find 28 = .ok (.iconst (-1), 1) := by decide +kernel
theorem dX11_find_29 : decode cX11_find 29 = .ok (.ireturn, 1) := by decide +kernel
theorem dX12_init_0 : decode cX12_init 0 = .ok (.aload_n 0, 1) := by decide +kernel
theorem dX12_init_1 : decode cX12_init 1 = .ok (.invokespecial 1, 3) := by decide +kernel
theorem dX12_init_4 : decode cX12_init 4 = .ok (.aload_n 0, 1) := by decide +kernel
theorem dX12_init_5 : decode cX12_init 5 = .ok (.sipush 800, 3) := by decide +kernel
theorem dX12_init_8 : decode cX12_init 8 = .ok (.newarray .int, 2) := by decide +kernel
theorem dX12_init_10 : decode cX12_init 10 = .ok (.putfield 7, 3) := by decide +kernel
theorem dX12_init_13 : decode cX12_init 13 = .ok (.aload_n 0, 1) := by decide +kernel
theorem dX12_init_14 : decode cX12_init 14 = .ok (.sipush 132, 3) := by decide +kernel
theorem dX12_init_17 : decode cX12_init 17 = .ok (.newarray .int, 2) := by decide +kernel
theorem dX12_init_19 : decode cX12_init 19 = .ok (.dup, 1) := by decide +kernel
theorem dX12_init_20 : decode cX12_init 20 = .ok (.iconst 0, 1) := by decide +kernel
theorem dX12_init_21 : decode cX12_init 21 = .ok (.bipush 116, 2) := by decide +kernel
theorem dX12_init_23 : decode cX12_init 23 = .ok (.iastore, 1) := by decide +kernel
theorem dX12_init_24 : decode cX12_init 24 = .ok (.dup, 1) := by decide +kernel
theorem dX12_init_25 : decode cX12_init 25 = .ok (.iconst 1, 1) := by decide +kernel
theorem dX12_init_26 : decode cX12_init 26 = .ok (.bipush 104, 2) := by decide +kernel
theorem dX12_init_28 : decode cX12_init 28 = .ok (.iastore, 1) := by decide +kernel
theorem dX12_init_29 : decode cX12_init 29 = .ok (.dup, 1) := by decide +kernel
theorem dX12_init_30 : decode cX12_init 30 = .ok (.iconst 2, 1) := by decide +kernel
theorem dX12_init_31 : decode cX12_init 31 = .ok (.bipush 105, 2) := by decide +kernel
theorem dX12_init_33 : decode cX12_init 33 = .ok (.iastore, 1) := by decide +kernel
theorem dX12_init_34 : decode cX12_init 34 = .ok (.dup, 1) := by decide +kernel
theorem dX12_init_35 : decode cX12_init 35 = .ok (.iconst 3, 1) := by decide +kernel
theorem dX12_init_36 : decode cX12_init 36 = .ok (.bipush 110, 2) := by decide +kernel
theorem dX12_init_38 : decode cX12_init 38 = .ok (.iastore, 1) := by decide +kernel
theorem dX12_init_39 : decode cX12_init 39 = .ok (.dup, 1) := by decide +kernel
theorem dX12_init_40 : decode cX12_init 40 = .ok (.iconst 4, 1) := by decide +kernel
theorem dX12_init_41 : decode cX12_init 41 = .ok (.bipush 103, 2) := by decide +kernel
theorem dX12_init_43 : decode cX12_init 43 = .ok (.iastore, 1) := by decide +kernel
theorem dX12_init_44 : decode cX12_init 44 = .ok (.dup, 1) := by decide +kernel
theorem dX12_init_45 : decode cX12_init 45 = .ok (.iconst 5, 1) := by decide +kernel
theorem dX12_init_46 : decode cX12_init 46 = .ok (.bipush 32, 2) := by decide +kernel
theorem dX12_init_48 : decode cX12_init 48 = .ok (.iastore, 1) := by decide +kernel
theorem dX12_init_49 : decode cX12_init 49 = .ok (.dup, 1) := by decide +kernel
theorem dX12_init_50 : decode cX12_init 50 = .ok (.bipush 6, 2) := by decide +kernel
theorem dX12_init_52 : decode cX12_init 52 = .ok (.bipush 116, 2) := by decide +kernel
theorem dX12_init_54 : decode cX12_init 54 = .ok (.iastore, 1) := by decide +kernel
theorem dX12_init_55 : decode cX12_init 55 = .ok (.dup, 1) := by decide +kernel
theorem dX12_init_56 : decode cX12_init 56 = .ok (.bipush 7, 2) := by decide +kernel
theorem dX12_init_58 : decode cX12_init 58 = .ok (.bipush 101, 2) := by decide +kernel
theorem dX12_init_60 : decode cX12_init 60 = .ok (.iastore, 1) := by decide +kernel
theorem dX12_init_61 : decode cX12_init 61 = .ok (.dup, 1) := by decide +kernel
theorem dX12_init_62 : decode cX12_init 62 = .ok (.bipush 8, 2) := by decide +kernel
theorem dX12_init_64 : decode cX12_init 64 = .ok (.bipush 108, 2) := by decide +kernel
theorem dX12_init_66 : decode cX12_init 66 = .ok (.iastore, 1) := by decide +kernel
theorem dX12_init_67 : decode cX12_init 67 = .ok (.dup, 1) := by decide +kernel
theorem dX12_init_68 : decode cX12_init 68 = .ok (.bipush 9, 2) := by decide +kernel
theorem dX12_init_70 : decode cX12_init 70 = .ok (.bipush 108, 2) := by decide +kernel
theorem dX12_init_72 : decode cX12_init 72 = .ok (.iastore, 1) := by decide +kernel
theorem dX12_init_73 : decode cX12_init 73 = .ok (.dup, 1) := by decide +kernel
theorem dX12_init_74 : decode cX12_init 74 = .ok (.bipush 10, 2) := by decide +kernel
theorem dX12_init_76 : decode cX12_init 76 = .ok (.bipush 101, 2) := by decide +kernel
theorem dX12_init_78 : decode cX12_init 78 = .ok (.iastore, 1) := by decide +kernel
theorem dX12_init_79 : decode cX12_init 79 = .ok (.dup, 1) := by decide +kernel
theorem dX12_init_80 : decode cX12_init 80 = .ok (.bipush 11, 2) := by decide +kernel
theorem dX12_init_82 : decode cX12_init 82 = .ok (.bipush 114, 2) := by decide +kernel
theorem dX12_init_84 : decode cX12_init 84 = .ok (.iastore, 1) := by decide +kernel
theorem dX12_init_85 : decode cX12_init 85 = .ok (.dup, 1) := by decide +kernel
theorem dX12_init_86 : decode cX12_init 86 = .ok (.bipush 12, 2) := by decide +kernel
theorem dX12_init_88 : decode cX12_init 88 = .ok (.bipush 32, 2) := by decide +kernel
theorem dX12_init_90 : decode cX12_init 90 = .ok (.iastore, 1) := by decide +kernel
theorem dX12_init_91 : decode cX12_init 91 = .ok (.dup, 1) := by decide +kernel
theorem dX12_init_92 : decode cX12_init 92 = .ok (.bipush 13, 2) := by decide +kernel
theorem dX12_init_94 : decode cX12_init 94 = .ok (.bipush 97, 2) := by decide +kernel
theorem dX12_init_96 : decode cX12_init 96 = .ok (.iastore, 1) := by decide +kernel
theorem dX12_init_97 : decode cX12_init 97 = .ok (.dup, 1) := by decide +kernel
theorem dX12_init_98 : decode cX12_init 98 = .ok (.bipush 14, 2) := by decide +kernel
theorem dX12_init_100 : decode cX12_init 100 = .ok (.bipush 115, 2) := by decide +kernel
theorem dX12_init_102 : decode cX12_init 102 = .ok (.iastore, 1) := by decide +kernel
theorem dX12_init_103 : decode cX12_init 103 = .ok (.dup, 1) := by decide +kernel
theorem dX12_init_104 : decode cX12_init 104 = .ok (.bipush 15, 2) := by decide +kernel
theorem dX12_init_106 : decode cX12_init 106 = .ok (.bipush 107, 2) := by decide +kernel
theorem dX12_init_108 : decode cX12_init 108 = .ok (.iastore, 1) := by decide +kernel
theorem dX12_init_109 : decode cX12_init 109 = .ok (.dup, 1) := by decide +kernel
theorem dX12_init_110 : decode cX12_init 110 = .ok (.bipush 16, 2) := by decide +kernel
theorem dX12_init_112 : decode cX12_init 112 = .ok (.bipush 32, 2) := by decide +kernel
theorem dX12_init_114 : decode cX12_init 114 = .ok (.iastore, 1) := by decide +kernel
theorem dX12_init_115 : decode cX12_init 115 = .ok (.dup, 1) := by decide +kernel
theorem dX12_init_116 : decode cX12_init 116 = .ok (.bipush 17, 2) := by decide +kernel
theorem dX12_init_118 : decode cX12_init 118 = .ok (.bipush 115, 2) := by decide +kernel
theorem dX12_init_120 : decode cX12_init 120 = .ok (.iastore, 1) := by decide +kernel
theorem dX12_init_121 : decode cX12_init 121 = .ok (.dup, 1) := by decide +kernel
theorem dX12_init_122 : decode cX12_init 122 = .ok (.bipush 18, 2) := by decide +kernel
theorem dX12_init_124 : decode cX12_init 124 = .ok (.bipush 97, 2) := by decide +kernel
theorem dX12_init_126 : decode cX12_init 126 = .ok (.iastore, 1) := by decide +kernel
theorem dX12_init_127 : decode cX12_init 127 = .ok (.dup, 1) := by decide +kernel
theorem dX12_init_128 : decode cX12_init 128 = .ok (.bipush 19, 2) := by decide +kernel
theorem dX12_init_130 : decode cX12_init 130 = .ok (.bipush 121, 2) := by decide +kernel
theorem dX12_init_132 : decode cX12_init 132 = .ok (.iastore, 1) := by decide +kernel
theorem dX12_init_133 : decode cX12_init 133 = .ok (.dup, 1) := by decide +kernel
theorem dX12_init_134 : decode cX12_init 134 = .ok (.bipush 20, 2) := by decide +kernel
theorem dX12_init_136 : decode cX12_init 136 = .ok (.bipush 32, 2) := by decide +kernel
theorem dX12_init_138 : decode cX12_init 138 = .ok (.iastore, 1) := by decide +kernel
theorem dX12_init_139 : decode cX12_init 139 = .ok (.dup, 1) := by decide +kernel
theorem dX12_init_140 : decode cX12_init 140 = .ok (.bipush 21, 2) := by decide +kernel
theorem dX12_init_142 : decode cX12_init 142 = .ok (.bipush 112, 2) := by decide +kernel
theorem dX12_init_144 : decode cX12_init 144 = .ok (.iastore, 1) := by decide +kernel
theorem dX12_init_145 : decode cX12_init 145 = .ok (.dup, 1) := by decide +kernel
theorem dX12_init_146 : decode cX12_init 146 = .ok (.bipush 22, 2) := by decide +kernel
theorem dX12_init_148 : decode cX12_init 148 = .ok (.bipush 97, 2) := by decide +kernel
theorem dX12_init_150 : decode cX12_init 150 = .ok (.iastore, 1) := by decide +kernel
theorem dX12_init_151 : decode cX12_init 151 = .ok (.dup, 1) := by decide +kernel
theorem dX12_init_152 : decode cX12_init 152 = .ok (.bipush 23, 2) := by decide +kernel
theorem dX12_init_154 : decode cX12_init 154 = .ok (.bipush 103, 2) := by decide +kernel
theorem dX12_init_156 : decode cX12_init 156 = .ok (.iastore, 1) := by decide +kernel
theorem dX12_init_157 : decode cX12_init 157 = .ok (.dup, 1) := by decide +kernel
theorem dX12_init_158 : decode cX12_init 158 = .ok (.bipush 24, 2) := by decide +kernel
theorem dX12_init_160 : decode cX12_init 160 = .ok (.bipush 101, 2) := by decide +kernel
theorem dX12_init_162 : decode cX12_init 162 = .ok (.iastore, 1) := by decide +kernel
theorem dX12_init_163 : decode cX12_init 163 = .ok (.dup, 1) := by decide +kernel
theorem dX12_init_164 : decode cX12_init 164 = .ok (.bipush 25, 2) := by decide +kernel
theorem dX12_init_166 : decode cX12_init 166 = .ok (.bipush 32, 2) := by decide +kernel
theorem dX12_init_168 : decode cX12_init 168 = .ok (.iastore, 1) := by decide +kernel
theorem dX12_init_169 : decode cX12_init 169 = .ok (.dup, 1) := by decide +kernel
theorem dX12_init_170 : decode cX12_init 170 = .ok (.bipush 26, 2) := by decide +kernel
theorem dX12_init_172 : decode cX12_init 172 = .ok (.bipush 108, 2) := by decide +kernel
theorem dX12_init_174 : decode cX12_init 174 = .ok (.iastore, 1) := by decide +kernel
theorem dX12_init_175 : decode cX12_init 175 = .ok (.dup, 1) := by decide +kernel
theorem dX12_init_176 : decode cX12_init 176 = .ok (.bipush 27, 2) := by decide +kernel
theorem dX12_init_178 : decode cX12_init 178 = .ok (.bipush 97, 2) := by decide +kernel
theorem dX12_init_180 : decode cX12_init 180 = .ok (.iastore, 1) := by decide +kernel
theorem dX12_init_181 : decode cX12_init 181 = .ok (.dup, 1) := by decide +kernel
theorem dX12_init_182 : decode cX12_init 182 = .ok (.bipush 28, 2) := by decide +kernel
theorem dX12_init_184 : decode cX12_init 184 = .ok (.bipush 119, 2) := by decide +kernel
theorem dX12_init_186 : decode cX12_init 186 = .ok (.iastore, 1) := by decide +kernel
theorem dX12_init_187 : decode cX12_init 187 = .ok (.dup, 1) := by decide +kernel
theorem dX12_init_188 : decode cX12_init 188 = .ok (.bipush 29, 2) := by decide +kernel
theorem dX12_init_190 : decode cX12_init 190 = .ok (.bipush 32, 2) := by decide +kernel
theorem dX12_init_192 : decode cX12_init 192 = .ok (.iastore, 1) := by decide +kernel
theorem dX12_init_193 : decode cX12_init 193 = .ok (.dup, 1) := by decide +kernel
theorem dX12_init_194 : decode cX12_init 194 = .ok (.bipush 30, 2) := by decide +kernel
theorem dX12_init_196 : decode cX12_init 196 = .ok (.bipush 98, 2) := by decide +kernel
theorem dX12_init_198 : decode cX12_init 198 = .ok (.iastore, 1) := by decide +kernel
theorem dX12_init_199 : decode cX12_init 199 = .ok (.dup, 1) := by decide +kernel
theorem dX12_init_200 : decode cX12_init 200 = .ok (.bipush 31, 2) := by decide +kernel
theorem dX12_init_202 : decode cX12_init 202 = .ok (.bipush 97, 2) := by decide +kernel
theorem dX12_init_204 : decode cX12_init 204 = .ok (.iastore, 1) := by decide +kernel
theorem dX12_init_205 : decode cX12_init 205 = .ok (.dup, 1) := by decide +kernel
theorem dX12_init_206 : decode cX12_init 206 = .ok (.bipush 32, 2) := by decide +kernel
theorem dX12_init_208 : decode cX12_init 208 = .ok (.bipush 114, 2) := by decide +kernel
theorem dX12_init_210 : decode cX12_init 210 = .ok (.iastore, 1) := by decide +kernel
theorem dX12_init_211 : decode cX12_init 211 = .ok (.dup, 1) := by decide +kernel
theorem dX12_init_212 : decode cX12_init 212 = .ok (.bipush 33, 2) := by decide +kernel
theorem dX12_init_214 : decode cX12_init 214 = .ok (.bipush 32, 2) := by decide +kernel
theorem dX12_init_216 : decode cX12_init 216 = .ok (.iastore, 1) := by decide +kernel
theorem dX12_init_217 : decode cX12_init 217 = .ok (.dup, 1) := by decide +kernel
theorem dX12_init_218 : decode cX12_init 218 = .ok (.bipush 34, 2) := by decide +kernel
theorem dX12_init_220 : decode cX12_init 220 = .ok (.bipush 106, 2) := by decide +kernel
theorem dX12_init_222 : decode cX12_init 222 = .ok (.iastore, 1) := by decide +kernel
theorem dX12_init_223 : decode cX12_init 223 = .ok (.dup, 1) := by decide +kernel
theorem dX12_init_224 : decode cX12_init 224 = .ok (.bipush 35, 2) := by decide +kernel
theorem dX12_init_226 : decode cX12_init 226 = .ok (.bipush 117, 2) := by decide +kernel
theorem dX12_init_228 : decode cX12_init 228 = .ok (.iastore, 1) := by decide +kernel
theorem dX12_init_229 : decode cX12_init 229 = .ok (.dup, 1) := by decide +kernel
theorem dX12_init_230 : decode cX12_init 230 = .ok (.bipush 36, 2) := by decide +kernel
theorem dX12_init_232 : decode cX12_init 232 = .ok (.bipush 114, 2) := by decide +kernel
theorem dX12_init_234 : decode cX12_init 234 = .ok (.iastore, 1) := by decide +kernel
theorem dX12_init_235 : decode cX12_init 235 = .ok (.dup, 1) := by decide +kernel
theorem dX12_init_236 : decode cX12_init 236 = .ok (.bipush 37, 2) := by decide +kernel
theorem dX12_init_238 : decode cX12_init 238 = .ok (.bipush 121, 2) := by decide +kernel
theorem dX12_init_240 : decode cX12_init 240 = .ok (.iastore, 1) := by decide +kernel
theorem dX12_init_241 : decode cX12_init 241 = .ok (.dup, 1) := by decide +kernel
theorem dX12_init_242 : decode cX12_init 242 = .ok (.bipush 38, 2) := by decide +kernel
theorem dX12_init_244 : decode cX12_init 244 = .ok (.bipush 32, 2) := by decide +kernel
theorem dX12_init_246 : decode cX12_init 246 = .ok (.iastore, 1) := by decide +kernel
theorem dX12_init_247 : decode cX12_init 247 = .ok (.dup, 1) := by decide +kernel
theorem dX12_init_248 : decode cX12_init 248 = .ok (.bipush 39, 2) := by decide +kernel
theorem dX12_init_250 : decode cX12_init 250 = .ok (.bipush 105, 2) := by decide +kernel
theorem dX12_init_252 : decode cX12_init 252 = .ok (.iastore, 1) := by decide +kernel
theorem dX12_init_253 : decode cX12_init 253 = .ok (.dup, 1) := by decide +kernel
theorem dX12_init_254 : decode cX12_init 254 = .ok (.bipush 40, 2) := by decide +kernel
theorem dX12_init_256 : decode cX12_init 256 = .ok (.bipush 115, 2) := by decide +kernel
theorem dX12_init_258 : decode cX12_init 258 = .ok (.iastore, 1) := by decide +kernel
theorem dX12_init_259 : decode cX12_init 259 = .ok (.dup, 1) := by decide +kernel
theorem dX12_init_260 : decode cX12_init 260 = .ok (.bipush 41, 2) := by decide +kernel
theorem dX12_init_262 : decode cX12_init 262 = .ok (.bipush 32, 2) := by decide +kernel
theorem dX12_init_264 : decode cX12_init 264 = .ok (.iastore, 1) := by decide +kernel
theorem dX12_init_265 : decode cX12_init 265 = .ok (.dup, 1) := by decide +kernel
theorem dX12_init_266 : decode cX12_init 266 = .ok (.bipush 42, 2) := by decide +kernel
theorem dX12_init_268 : decode cX12_init 268 = .ok (.bipush 112, 2) := by decide +kernel
theorem dX12_init_270 : decode cX12_init 270 = .ok (.iastore, 1) := by decide +kernel
theorem dX12_init_271 : decode cX12_init 271 = .ok (.dup, 1) := by decide +kernel
theorem dX12_init_272 : decode cX12_init 272 = .ok (.bipush 43, 2) := by decide +kernel
theorem dX12_init_274 : decode cX12_init 274 = .ok (.bipush 97, 2) := by decide +kernel
theorem dX12_init_276 : decode cX12_init 276 = .ok (.iastore, 1) := by decide +kernel
theorem dX12_init_277 : decode cX12_init 277 = .ok (.dup, 1) := by decide +kernel
theorem dX12_init_278 : decode cX12_init 278 = .ok (.bipush 44, 2) := by decide +kernel
theorem dX12_init_280 : decode cX12_init 280 = .ok (.bipush 112, 2) := by decide +kernel
theorem dX12_init_282 : decode cX12_init 282 = .ok (.iastore, 1) := by decide +kernel
theorem dX12_init_283 : decode cX12_init 283 = .ok (.dup, 1) := by decide +kernel
theorem dX12_init_284 : decode cX12_init 284 = .ok (.bipush 45, 2) := by decide +kernel
theorem dX12_init_286 : decode cX12_init 286 = .ok (.bipush 101, 2) := by decide +kernel
theorem dX12_init_288 : decode cX12_init 288 = .ok (.iastore, 1) := by decide +kernel
theorem dX12_init_289 : decode cX12_init 289 = .ok (.dup, 1) := by decide +kernel
theorem dX12_init_290 : decode cX12_init 290 = .ok (.bipush 46, 2) := by decide +kernel
theorem dX12_init_292 : decode cX12_init 292 = .ok (.bipush 114, 2) := by decide +kernel
theorem dX12_init_294 : decode cX12_init 294 = .ok (.iastore, 1) := by decide +kernel
theorem dX12_init_295 : decode cX12_init 295 = .ok (.dup, 1) := by decide +kernel
theorem dX12_init_296 : decode cX12_init 296 = .ok (.bipush 47, 2) := by decide +kernel
theorem dX12_init_298 : decode cX12_init 298 = .ok (.bipush 32, 2) := by decide +kernel
theorem dX12_init_300 : decode cX12_init 300 = .ok (.iastore, 1) := by decide +kernel
theorem dX12_init_301 : decode cX12_init 301 = .ok (.dup, 1) := by decide +kernel
theorem dX12_init_302 : decode cX12_init 302 = .ok (.bipush 48, 2) := by decide +kernel
theorem dX12_init_304 : decode cX12_init 304 = .ok (.bipush 112, 2) := by decide +kernel
theorem dX12_init_306 : decode cX12_init 306 = .ok (.iastore, 1) := by decide +kernel
theorem dX12_init_307 : decode cX12_init 307 = .ok (.dup, 1) := by decide +kernel
theorem dX12_init_308 : decode cX12_init 308 = .ok (.bipush 49, 2) := by decide +kernel
theorem dX12_init_310 : decode cX12_init 310 = .ok (.bipush 111, 2) := by decide +kernel
theorem dX12_init_312 : decode cX12_init 312 = .ok (.iastore, 1) := by decide +kernel
theorem dX12_init_313 : decode cX12_init 313 = .ok (.dup, 1) := by decide +kernel
theorem dX12_init_314 : decode cX12_init 314 = .ok (.bipush 50, 2) := by decide +kernel
theorem dX12_init_316 : decode cX12_init 316 = .ok (.bipush 108, 2) := by decide +kernel
theorem dX12_init_318 : decode cX12_init 318 = .ok (.iastore, 1) := by decide +kernel
theorem dX12_init_319 : decode cX12_init 319 = .ok (.dup, 1) := by decide +kernel
theorem dX12_init_320 : decode cX12_init 320 = .ok (.bipush 51, 2) := by decide +kernel
theorem dX12_init_322 : decode cX12_init 322 = .ok (.bipush 105, 2) := by decide +kernel
theorem dX12_init_324 : decode cX12_init 324 = .ok (.iastore, 1) := by decide +kernel
theorem dX12_init_325 : decode cX12_init 325 = .ok (.dup, 1) := by decide +kernel
theorem dX12_init_326 : decode cX12_init 326 = .ok (.bipush 52, 2) := by decide +kernel
theorem dX12_init_328 : decode cX12_init 328 = .ok (.bipush 99, 2) := by decide +kernel
theorem dX12_init_330 : decode cX12_init 330 = .ok (.iastore, 1) := by decide +kernel
theorem dX12_init_331 : decode cX12_init 331 = .ok (.dup, 1) := by decide +kernel
theorem dX12_init_332 : decode cX12_init 332 = .ok (.bipush 53, 2) := by decide +kernel
theorem dX12_init_334 : decode cX12_init 334 = .ok (.bipush 101, 2) := by decide +kernel
theorem dX12_init_336 : decode cX12_init 336 = .ok (.iastore, 1) := by decide +kernel
theorem dX12_init_337 : decode cX12_init 337 = .ok (.dup, 1) := by decide +kernel
theorem dX12_init_338 : decode cX12_init 338 = .ok (.bipush 54, 2) := by decide +kernel
theorem dX12_init_340 : decode cX12_init 340 = .ok (.bipush 32, 2) := by decide +kernel
theorem dX12_init_342 : decode cX12_init 342 = .ok (.iastore, 1) := by decide +kernel
theorem dX12_init_343 : decode cX12_init 343 = .ok (.dup, 1) := by decide +kernel
theorem dX12_init_344 : decode cX12_init 344 = .ok (.bipush 55, 2) := by decide +kernel
theorem dX12_init_346 : decode cX12_init 346 = .ok (.bipush 98, 2) := by decide +kernel
theorem dX12_init_348 : decode cX12_init 348 = .ok (.iastore, 1) := by decide +kernel
theorem dX12_init_349 : decode cX12_init 349 = .ok (.dup, 1) := by decide +kernel
theorem dX12_init_350 : decode cX12_init 350 = .ok (.bipush 56, 2) := by decide +kernel
theorem dX12_init_352 : decode cX12_init 352 = .ok (.bipush 101, 2) := by decide +kernel
theorem dX12_init_354 : decode cX12_init 354 = .ok (.iastore, 1) := by decide +kernel
theorem dX12_init_355 : decode cX12_init 355 = .ok (.dup, 1) := by decide +kernel
theorem dX12_init_356 : decode cX12_init 356 = .ok (.bipush 57, 2) := by decide +kernel
theorem dX12_init_358 : decode cX12_init 358 = .ok (.bipush 103, 2) := by decide +kernel
theorem dX12_init_360 : decode cX12_init 360 = .ok (.iastore, 1) := by decide +kernel
theorem dX12_init_361 : decode cX12_init 361 = .ok (.dup, 1) := by decide +kernel
theorem dX12_init_362 : decode cX12_init 362 = .ok (.bipush 58, 2) := by decide +kernel
theorem dX12_init_364 : decode cX12_init 364 = .ok (.bipush 105, 2) := by decide +kernel
theorem dX12_init_366 : decode cX12_init 366 = .ok (.iastore, 1) := by decide +kernel
theorem dX12_init_367 : decode cX12_init 367 = .ok (.dup, 1) := by decide +kernel
theorem dX12_init_368 : decode cX12_init 368 = .ok (.bipush 59, 2) := by decide +kernel
theorem dX12_init_370 : decode cX12_init 370 = .ok (.bipush 110, 2) := by decide +kernel
theorem dX12_init_372 : decode cX12_init 372 = .ok (.iastore, 1) := by decide +kernel
theorem dX12_init_373 : decode cX12_init 373 = .ok (.dup, 1) := by decide +kernel
theorem dX12_init_374 : decode cX12_init 374 = .ok (.bipush 60, 2) := by decide +kernel
theorem dX12_init_376 : decode cX12_init 376 = .ok (.bipush 115, 2) := by decide +kernel
theorem dX12_init_378 : decode cX12_init 378 = .ok (.iastore, 1) := by decide +kernel
theorem dX12_init_379 : decode cX12_init 379 = .ok (.dup, 1) := by decide +kernel
theorem dX12_init_380 : decode cX12_init 380 = .ok (.bipush 61, 2) := by decide +kernel
theorem dX12_init_382 : decode cX12_init 382 = .ok (.bipush 32, 2) := by decide +kernel
theorem dX12_init_384 : decode cX12_init 384 = .ok (.iastore, 1) := by decide +kernel
theorem dX12_init_385 : decode cX12_init 385 = .ok (.dup, 1) := by decide +kernel
theorem dX12_init_386 : decode cX12_init 386 = .ok (.bipush 62, 2) := by decide +kernel
theorem dX12_init_388 : decode cX12_init 388 = .ok (.bipush 101, 2) := by decide +kernel
theorem dX12_init_390 : decode cX12_init 390 = .ok (.iastore, 1) := by decide +kernel
theorem dX12_init_391 : decode cX12_init 391 = .ok (.dup, 1) := by decide +kernel
theorem dX12_init_392 : decode cX12_init 392 = .ok (.bipush 63, 2) := by decide +kernel
theorem dX12_init_394 : decode cX12_init 394 = .ok (.bipush 110, 2) := by decide +kernel
theorem dX12_init_396 : decode cX12_init 396 = .ok (.iastore, 1) := by decide +kernel
theorem dX12_init_397 : decode cX12_init 397 = .ok (.dup, 1) := by decide +kernel
theorem dX12_init_398 : decode cX12_init 398 = .ok (.bipush 64, 2) := by decide +kernel
theorem dX12_init_400 : decode cX12_init 400 = .ok (.bipush 100, 2) := by decide +kernel
theorem dX12_init_402 : decode cX12_init 402 = .ok (.iastore, 1) := by decide +kernel
theorem dX12_init_403 : decode cX12_init 403 = .ok (.dup, 1) := by decide +kernel
theorem dX12_init_404 : decode cX12_init 404 = .ok (.bipush 65, 2) := by decide +kernel
theorem dX12_init_406 : decode cX12_init 406 = .ok (.bipush 115, 2) := by decide +kernel
theorem dX12_init_408 : decode cX12_init 408 = .ok (.iastore, 1) := by decide +kernel
theorem dX12_init_409 : decode cX12_init 409 = .ok (.dup, 1) := by decide +kernel
theorem dX12_init_410 : decode cX12_init 410 = .ok (.bipush 66, 2) := by decide +kernel
theorem dX12_init_412 : decode cX12_init 412 = .ok (.bipush 32, 2) := by decide +kernel
theorem dX12_init_414 : decode cX12_init 414 = .ok (.iastore, 1) := by decide +kernel
theorem dX12_init_415 : decode cX12_init 415 = .ok (.dup, 1) := by decide +kernel
theorem dX12_init_416 : decode cX12_init 416 = .ok (.bipush 67, 2) := by decide +kernel
theorem dX12_init_418 : decode cX12_init 418 = .ok (.bipush 116, 2) := by decide +kernel
theorem dX12_init_420 : decode cX12_init 420 = .ok (.iastore, 1) := by decide +kernel
theorem dX12_init_421 : decode cX12_init 421 = .ok (.dup, 1) := by decide +kernel
theorem dX12_init_422 : decode cX12_init 422 = .ok (.bipush 68, 2) := by decide +kernel
theorem dX12_init_424 : decode cX12_init 424 = .ok (.bipush 97, 2) := by decide +kernel
theorem dX12_init_426 : decode cX12_init 426 = .ok (.iastore, 1) := by decide +kernel
theorem dX12_init_427 : decode cX12_init 427 = .ok (.dup, 1) := by decide +kernel
theorem dX12_init_428 : decode cX12_init 428 = .ok (.bipush 69, 2) := by decide +kernel
theorem dX12_init_430 : decode cX12_init 430 = .ok (.bipush 112, 2) := by decide +kernel
theorem dX12_init_432 : decode cX12_init 432 = .ok (.iastore, 1) := by decide +kernel
theorem dX12_init_433 : decode cX12_init 433 = .ok (.dup, 1) := by decide +kernel
theorem dX12_init_434 : decode cX12_init 434 = .ok (.bipush 70, 2) := by decide +kernel
theorem dX12_init_436 : decode cX12_init 436 = .ok (.bipush 101, 2) := by decide +kernel
theorem dX12_init_438 : decode cX12_init 438 = .ok (.iastore, 1) := by decide +kernel
theorem dX12_init_439 : decode cX12_init 439 = .ok (.dup, 1) := by decide +kernel
theorem dX12_init_440 : decode cX12_init 440 = .ok (.bipush 71, 2) := by decide +kernel
theorem dX12_init_442 : decode cX12_init 442 = .ok (.bipush 32, 2) := by decide +kernel
theorem dX12_init_444 : decode cX12_init 444 = .ok (.iastore, 1) := by decide +kernel
theorem dX12_init_445 : decode cX12_init 445 = .ok (.dup, 1) := by decide +kernel
theorem dX12_init_446 : decode cX12_init 446 = .ok (.bipush 72, 2) := by decide +kernel
theorem dX12_init_448 : decode cX12_init 448 = .ok (.bipush 97, 2) := by decide +kernel
theorem dX12_init_450 : decode cX12_init 450 = .ok (.iastore, 1) := by decide +kernel
theorem dX12_init_451 : decode cX12_init 451 = .ok (.dup, 1) := by decide +kernel
theorem dX12_init_452 : decode cX12_init 452 = .ok (.bipush 73, 2) := by decide +kernel
theorem dX12_init_454 : decode cX12_init 454 = .ok (.bipush 110, 2) := by decide +kernel
theorem dX12_init_456 : decode cX12_init 456 = .ok (.iastore, 1) := by decide +kernel
theorem dX12_init_457 : decode cX12_init 457 = .ok (.dup, 1) := by decide +kernel
theorem dX12_init_458 : decode cX12_init 458 = .ok (.bipush 74, 2) := by decide +kernel
theorem dX12_init_460 : decode cX12_init 460 = .ok (.bipush 100, 2) := by decide +kernel
theorem dX12_init_462 : decode cX12_init 462 = .ok (.iastore, 1) := by decide +kernel
theorem dX12_init_463 : decode cX12_init 463 = .ok (.dup, 1) := by decide +kernel
theorem dX12_init_464 : decode cX12_init 464 = .ok (.bipush 75, 2) := by decide +kernel
theorem dX12_init_466 : decode cX12_init 466 = .ok (.bipush 32, 2) := by decide +kernel
theorem dX12_init_468 : decode cX12_init 468 = .ok (.iastore, 1) := by decide +kernel
theorem dX12_init_469 : decode cX12_init 469 = .ok (.dup, 1) := by decide +kernel
theorem dX12_init_470 : decode cX12_init 470 = .ok (.bipush 76, 2) := by decide +kernel
theorem dX12_init_472 : decode cX12_init 472 = .ok (.bipush 111, 2) := by decide +kernel
theorem dX12_init_474 : decode cX12_init 474 = .ok (.iastore, 1) := by decide +kernel
theorem dX12_init_475 : decode cX12_init 475 = .ok (.dup, 1) := by decide +kernel
theorem dX12_init_476 : decode cX12_init 476 = .ok (.bipush 77, 2) := by decide +kernel
theorem dX12_init_478 : decode cX12_init 478 = .ok (.bipush 114, 2) := by decide +kernel
theorem dX12_init_480 : decode cX12_init 480 = .ok (.iastore, 1) := by decide +kernel
theorem dX12_init_481 : decode cX12_init 481 = .ok (.dup, 1) := by decide +kernel
theorem dX12_init_482 : decode cX12_init 482 = .ok (.bipush 78, 2) := by decide +kernel
theorem dX12_init_484 : decode cX12_init 484 = .ok (.bipush 32, 2) := by decide +kernel
theorem dX12_init_486 : decode cX12_init 486 = .ok (.iastore, 1) := by decide +kernel
theorem dX12_init_487 : decode cX12_init 487 = .ok (.dup, 1) := by decide +kernel
theorem dX12_init_488 : decode cX12_init 488 = .ok (.bipush 79, 2) := by decide +kernel
theorem dX12_init_490 : decode cX12_init 490 = .ok (.bipush 110, 2) := by decide +kernel
theorem dX12_init_492 : decode cX12_init 492 = .ok (.iastore, 1) := by decide +kernel
theorem dX12_init_493 : decode cX12_init 493 = .ok (.dup, 1) := by decide +kernel
theorem dX12_init_494 : decode cX12_init 494 = .ok (.bipush 80, 2) := by decide +kernel
theorem dX12_init_496 : decode cX12_init 496 = .ok (.bipush 111, 2) := by decide +kernel
theorem dX12_init_498 : decode cX12_init 498 = .ok (.iastore, 1) := by decide +kernel
theorem dX12_init_499 : decode cX12_init 499 = .ok (.dup, 1) := by decide +kernel
theorem dX12_init_500 : decode cX12_init 500 = .ok (.bipush 81, 2) := by decide +kernel
theorem dX12_init_502 : decode cX12_init 502 = .ok (.bipush 116, 2) := by decide +kernel
theorem dX12_init_504 : decode cX12_init 504 = .ok (.iastore, 1) := by decide +kernel
theorem dX12_init_505 : decode cX12_init 505 = .ok (.dup, 1) := by decide +kernel
theorem dX12_init_506 : decode cX12_init 506 = .ok (.bipush 82, 2) := by decide +kernel
theorem dX12_init_508 : decode cX12_init 508 = .ok (.bipush 32, 2) := by decide +kernel
theorem dX12_init_510 : decode cX12_init 510 = .ok (.iastore, 1) := by decide +kernel
theorem dX12_init_511 : decode cX12_init 511 = .ok (.dup, 1) := by decide +kernel
theorem dX12_init_512 : decode cX12_init 512 = .ok (.bipush 83, 2) := by decide +kernel
theorem dX12_init_514 : decode cX12_init 514 = .ok (.bipush 97, 2) := by decide +kernel
theorem dX12_init_516 : decode cX12_init 516 = .ok (.iastore, 1) := by decide +kernel
theorem dX12_init_517 : decode cX12_init 517 = .ok (.dup, 1) := by decide +kernel
theorem dX12_init_518 : decode cX12_init 518 = .ok (.bipush 84, 2) := by decide +kernel
theorem dX12_init_520 : decode cX12_init 520 = .ok (.bipush 103, 2) := by decide +kernel
theorem dX12_init_522 : decode cX12_init 522 = .ok (.iastore, 1) := by decide +kernel
theorem dX12_init_523 : decode cX12_init 523 = .ok (.dup, 1) := by decide +kernel
theorem dX12_init_524 : decode cX12_init 524 = .ok (.bipush 85, 2) := by decide +kernel
theorem dX12_init_526 : decode cX12_init 526 = .ok (.bipush 101, 2) := by decide +kernel
theorem dX12_init_528 : decode cX12_init 528 = .ok (.iastore, 1) := by decide +kernel
theorem dX12_init_529 : decode cX12_init 529 = .ok (.dup, 1) := by decide +kernel
theorem dX12_init_530 : decode cX12_init 530 = .ok (.bipush 86, 2) := by decide +kernel
theorem dX12_init_532 : decode cX12_init 532 = .ok (.bipush 32, 2) := by decide +kernel
theorem dX12_init_534 : decode cX12_init 534 = .ok (.iastore, 1) := by decide +kernel
theorem dX12_init_535 : decode cX12_init 535 = .ok (.dup, 1) := by decide +kernel
theorem dX12_init_536 : decode cX12_init 536 = .ok (.bipush 87, 2) := by decide +kernel
theorem dX12_init_538 : decode cX12_init 538 = .ok (.bipush 104, 2) := by decide +kernel
theorem dX12_init_540 : decode cX12_init 540 = .ok (.iastore, 1) := by decide +kernel
theorem dX12_init_541 : decode cX12_init 541 = .ok (.dup, 1) := by decide +kernel
theorem dX12_init_542 : decode cX12_init 542 = .ok (.bipush 88, 2) := by decide +kernel
theorem dX12_init_544 : decode cX12_init 544 = .ok (.bipush 111, 2) := by decide +kernel
theorem dX12_init_546 : decode cX12_init 546 = .ok (.iastore, 1) := by decide +kernel
theorem dX12_init_547 : decode cX12_init 547 = .ok (.dup, 1) := by decide +kernel
theorem dX12_init_548 : decode cX12_init 548 = .ok (.bipush 89, 2) := by decide +kernel
theorem dX12_init_550 : decode cX12_init 550 = .ok (.bipush 117, 2) := by decide +kernel
theorem dX12_init_552 : decode cX12_init 552 = .ok (.iastore, 1) := by decide +kernel
theorem dX12_init_553 : decode cX12_init 553 = .ok (.dup, 1) := by decide +kernel
theorem dX12_init_554 : decode cX12_init 554 = .ok (.bipush 90, 2) := by decide +kernel
theorem dX12_init_556 : decode cX12_init 556 = .ok (.bipush 114, 2) := by decide +kernel
theorem dX12_init_558 : decode cX12_init 558 = .ok (.iastore, 1) := by decide +kernel
theorem dX12_init_559 : decode cX12_init 559 = .ok (.dup, 1) := by decide +kernel
theorem dX12_init_560 : decode cX12_init 560 = .ok (.bipush 91, 2) := by decide +kernel
theorem dX12_init_562 : decode cX12_init 562 = .ok (.bipush 115, 2) := by decide +kernel
theorem dX12_init_564 : decode cX12_init 564 = .ok (.iastore, 1) := by decide +kernel
theorem dX12_init_565 : decode cX12_init 565 = .ok (.dup, 1) := by decide +kernel
theorem dX12_init_566 : decode cX12_init 566 = .ok (.bipush 92, 2) := by decide +kernel
theorem dX12_init_568 : decode cX12_init 568 = .ok (.bipush 32, 2) := by decide +kernel
theorem dX12_init_570 : decode cX12_init 570 = .ok (.iastore, 1) := by decide +kernel
theorem dX12_init_571 : decode cX12_init 571 = .ok (.dup, 1) := by decide +kernel
theorem dX12_init_572 : decode cX12_init 572 = .ok (.bipush 93, 2) := by decide +kernel
theorem dX12_init_574 : decode cX12_init 574 = .ok (.bipush 111, 2) := by decide +kernel
theorem dX12_init_576 : decode cX12_init 576 = .ok (.iastore, 1) := by decide +kernel
theorem dX12_init_577 : decode cX12_init 577 = .ok (.dup, 1) := by decide +kernel
theorem dX12_init_578 : decode cX12_init 578 = .ok (.bipush 94, 2) := by decide +kernel
theorem dX12_init_580 : decode cX12_init 580 = .ok (.bipush 102, 2) := by decide +kernel
theorem dX12_init_582 : decode cX12_init 582 = .ok (.iastore, 1) := by decide +kernel
theorem dX12_init_583 : decode cX12_init 583 = .ok (.dup, 1) := by decide +kernel
theorem dX12_init_584 : decode cX12_init 584 = .ok (.bipush 95, 2) := by decide +kernel
theorem dX12_init_586 : decode cX12_init 586 = .ok (.bipush 102, 2) := by decide +kernel
theorem dX12_init_588 : decode cX12_init 588 = .ok (.iastore, 1) := by decide +kernel
theorem dX12_init_589 : decode cX12_init 589 = .ok (.dup, 1) := by decide +kernel
theorem dX12_init_590 : decode cX12_init 590 = .ok (.bipush 96, 2) := by decide +kernel
theorem dX12_init_592 : decode cX12_init 592 = .ok (.bipush 32, 2) := by decide +kernel
theorem dX12_init_594 : decode cX12_init 594 = .ok (.iastore, 1) := by decide +kernel
theorem dX12_init_595 : decode cX12_init 595 = .ok (.dup, 1) := by decide +kernel
theorem dX12_init_596 : decode cX12_init 596 = .ok (.bipush 97, 2) := by decide +kernel
theorem dX12_init_598 : decode cX12_init 598 = .ok (.bipush 97, 2) := by decide +kernel
theorem dX12_init_600 : decode cX12_init 600 = .ok (.iastore, 1) := by decide +kernel
theorem dX12_init_601 : decode cX12_init 601 = .ok (.dup, 1) := by decide +kernel
theorem dX12_init_602 : decode cX12_init 602 = .ok (.bipush 98, 2) := by decide +kernel
theorem dX12_init_604 : decode cX12_init 604 = .ok (.bipush 115, 2) := by decide +kernel
theorem dX12_init_606 : decode cX12_init 606 = .ok (.iastore, 1) := by decide +kernel
theorem dX12_init_607 : decode cX12_init 607 = .ok (.dup, 1) := by decide +kernel
theorem dX12_init_608 : decode cX12_init 608 = .ok (.bipush 99, 2) := by decide +kernel
theorem dX12_init_610 : decode cX12_init 610 = .ok (.bipush 107, 2) := by decide +kernel
theorem dX12_init_612 : decode cX12_init 612 = .ok (.iastore, 1) := by decide +kernel
theorem dX12_init_613 : decode cX12_init 613 = .ok (.dup, 1) := by decide +kernel
theorem dX12_init_614 : decode cX12_init 614 = .ok (.bipush 100, 2) := by decide +kernel
theorem dX12_init_616 : decode cX12_init 616 = .ok (.bipush 115, 2) := by decide +kernel
theorem dX12_init_618 : decode cX12_init 618 = .ok (.iastore, 1) := by decide +kernel
theorem dX12_init_619 : decode cX12_init 619 = .ok (.dup, 1) := by decide +kernel
theorem dX12_init_620 : decode cX12_init 620 = .ok (.bipush 101, 2) := by decide +kernel
theorem dX12_init_622 : decode cX12_init 622 = .ok (.bipush 32, 2) := by decide +kernel
theorem dX12_init_624 : decode cX12_init 624 = .ok (.iastore, 1) := by decide +kernel
theorem dX12_init_625 : decode cX12_init 625 = .ok (.dup, 1) := by decide +kernel
theorem dX12_init_626 : decode cX12_init 626 = .ok (.bipush 102, 2) := by decide +kernel
theorem dX12_init_628 : decode cX12_init 628 = .ok (.bipush 108, 2) := by decide +kernel
theorem dX12_init_630 : decode cX12_init 630 = .ok (.iastore, 1) := by decide +kernel
theorem dX12_init_631 : decode cX12_init 631 = .ok (.dup, 1) := by decide +kernel
theorem dX12_init_632 : decode cX12_init 632 = .ok (.bipush 103, 2) := by decide +kernel
theorem dX12_init_634 : decode cX12_init 634 = .ok (.bipush 101, 2) := by decide +kernel
theorem dX12_init_636 : decode cX12_init 636 = .ok (.iastore, 1) := by decide +kernel
theorem dX12_init_637 : decode cX12_init 637 = .ok (.dup, 1) := by decide +kernel
theorem dX12_init_638 : decode cX12_init 638 = .ok (.bipush 104, 2) := by decide +kernel
theorem dX12_init_640 : decode cX12_init 640 = .ok (.bipush 100, 2) := by decide +kernel
theorem dX12_init_642 : decode cX12_init 642 = .ok (.iastore, 1) := by decide +kernel
theorem dX12_init_643 : decode cX12_init 643 = .ok (.dup, 1) := by decide +kernel
theorem dX12_init_644 : decode cX12_init 644 = .ok (.bipush 105, 2) := by decide +kernel
theorem dX12_init_646 : decode cX12_init 646 = .ok (.bipush 32, 2) := by decide +kernel
theorem dX12_init_648 : decode cX12_init 648 = .ok (.iastore, 1) := by decide +kernel
theorem dX12_init_649 : decode cX12_init 649 = .ok (.dup, 1) := by decide +kernel
theorem dX12_init_650 : decode cX12_init 650 = .ok (.bipush 106, 2) := by decide +kernel
theorem dX12_init_652 : decode cX12_init 652 = .ok (.bipush 114, 2) := by decide +kernel
theorem dX12_init_654 : decode cX12_init 654 = .ok (.iastore, 1) := by decide +kernel
theorem dX12_init_655 : decode cX12_init 655 = .ok (.dup, 1) := by decide +kernel
theorem dX12_init_656 : decode cX12_init 656 = .ok (.bipush 107, 2) := by decide +kernel
theorem dX12_init_658 : decode cX12_init 658 = .ok (.bipush 105, 2) := by decide +kernel
theorem dX12_init_660 : decode cX12_init 660 = .ok (.iastore, 1) := by decide +kernel
theorem dX12_init_661 : decode cX12_init 661 = .ok (.dup, 1) := by decide +kernel
theorem dX12_init_662 : decode cX12_init 662 = .ok (.bipush 108, 2) := by decide +kernel
theorem dX12_init_664 : decode cX12_init 664 = .ok (.bipush 103, 2) := by decide +kernel
theorem dX12_init_666 : decode cX12_init 666 = .ok (.iastore, 1) := by decide +kernel
theorem dX12_init_667 : decode cX12_init 667 = .ok (.dup, 1) := by decide +kernel
theorem dX12_init_668 : decode cX12_init 668 = .ok (.bipush 109, 2) := by decide +kernel
theorem dX12_init_670 : decode cX12_init 670 = .ok (.bipush 104, 2) := by decide +kernel
theorem dX12_init_672 : decode cX12_init 672 = .ok (.iastore, 1) := by decide +kernel
theorem dX12_init_673 : decode cX12_init 673 = .ok (.dup, 1) := by decide +kernel
theorem dX12_init_674 : decode cX12_init 674 = .ok (.bipush 110, 2) := by decide +kernel
theorem dX12_init_676 : decode cX12_init 676 = .ok (.bipush 116, 2) := by decide +kernel
theorem dX12_init_678 : decode cX12_init 678 = .ok (.iastore, 1) := by decide +kernel
theorem dX12_init_679 : decode cX12_init 679 = .ok (.dup, 1) := by decide +kernel
theorem dX12_init_680 : decode cX12_init 680 = .ok (.bipush 111, 2) := by decide +kernel
theorem dX12_init_682 : decode cX12_init 682 = .ok (.bipush 32, 2) := by decide +kernel
theorem dX12_init_684 : decode cX12_init 684 = .ok (.iastore, 1) := by decide +kernel
theorem dX12_init_685 : decode cX12_init 685 = .ok (.dup, 1) := by decide +kernel
theorem dX12_init_686 : decode cX12_init 686 = .ok (.bipush 112, 2) := by decide +kernel
theorem dX12_init_688 : decode cX12_init 688 = .ok (.bipush 119, 2) := by decide +kernel
theorem dX12_init_690 : decode cX12_init 690 = .ok (.iastore, 1) := by decide +kernel
theorem dX12_init_691 : decode cX12_init 691 = .ok (.dup, 1) := by decide +kernel
theorem dX12_init_692 : decode cX12_init 692 = .ok (.bipush 113, 2) := by decide +kernel
theorem dX12_init_694 : decode cX12_init 694 = .ok (.bipush 114, 2) := by decide +kernel
theorem dX12_init_696 : decode cX12_init 696 = .ok (.iastore, 1) := by decide +kernel
theorem dX12_init_697 : decode cX12_init 697 = .ok (.dup, 1) := by decide +kernel
theorem dX12_init_698 : decode cX12_init 698 = .ok (.bipush 114, 2) := by decide +kernel
theorem dX12_init_700 : decode cX12_init 700 = .ok (.bipush 111, 2) := by decide +kernel
theorem dX12_init_702 : decode cX12_init 702 = .ok (.iastore, 1) := by decide +kernel
theorem dX12_init_703 : decode cX12_init 703 = .ok (.dup, 1) := by decide +kernel
theorem dX12_init_704 : decode cX12_init 704 = .ok (.bipush 115, 2) := by decide +kernel
theorem dX12_init_706 : decode cX12_init 706 = .ok (.bipush 110, 2) := by decide +kernel
theorem dX12_init_708 : decode cX12_init 708 = .ok (.iastore, 1) := by decide +kernel
theorem dX12_init_709 : decode cX12_init 709 = .ok (.dup, 1) := by decide +kernel
theorem dX12_init_710 : decode cX12_init 710 = .ok (.bipush 116, 2) := by decide +kernel
theorem dX12_init_712 : decode cX12_init 712 = .ok (.bipush 103, 2) := by decide +kernel
theorem dX12_init_714 : decode cX12_init 714 = .ok (.iastore, 1) := by decide +kernel
theorem dX12_init_715 : decode cX12_init 715 = .ok (.dup, 1) := by decide +kernel
theorem dX12_init_716 : decode cX12_init 716 = .ok (.bipush 117, 2) := by decide +kernel
theorem dX12_init_718 : decode cX12_init 718 = .ok (.bipush 32, 2) := by decide +kernel
theorem dX12_init_720 : decode cX12_init 720 = .ok (.iastore, 1) := by decide +kernel
theorem dX12_init_721 : decode cX12_init 721 = .ok (.dup, 1) := by decide +kernel
theorem dX12_init_722 : decode cX12_init 722 = .ok (.bipush 118, 2) := by decide +kernel
theorem dX12_init_724 : decode cX12_init 724 = .ok (.bipush 110, 2) := by decide +kernel
theorem dX12_init_726 : decode cX12_init 726 = .ok (.iastore, 1) := by decide +kernel
theorem dX12_init_727 : decode cX12_init 727 = .ok (.dup, 1) := by decide +kernel
theorem dX12_init_728 : decode cX12_init 728 = .ok (.bipush 119, 2) := by decide +kernel
theorem dX12_init_730 : decode cX12_init 730 = .ok (.bipush 101, 2) := by decide +kernel
theorem dX12_init_732 : decode cX12_init 732 = .ok (.iastore, 1) := by decide +kernel
theorem dX12_init_733 : decode cX12_init 733 = .ok (.dup, 1) := by decide +kernel
theorem dX12_init_734 : decode cX12_init 734 = .ok (.bipush 120, 2) := by decide +kernel
theorem dX12_init_736 : decode cX12_init 736 = .ok (.bipush 119, 2) := by decide +kernel
theorem dX12_init_738 : decode cX12_init 738 = .ok (.iastore, 1) := by decide +kernel
theorem dX12_init_739 : decode cX12_init 739 = .ok (.dup, 1) := by decide +kernel
theorem dX12_init_740 : decode cX12_init 740 = .ok (.bipush 121, 2) := by decide +kernel
theorem dX12_init_742 : decode cX12_init 742 = .ok (.bipush 32, 2) := by decide +kernel
theorem dX12_init_744 : decode cX12_init 744 = .ok (.iastore, 1) := by decide +kernel
theorem dX12_init_745 : decode cX12_init 745 = .ok (.dup, 1) := by decide +kernel
theorem dX12_init_746 : decode cX12_init 746 = .ok (.bipush 122, 2) := by decide +kernel
theorem dX12_init_748 : decode cX12_init 748 = .ok (.bipush 112, 2) := by decide +kernel
theorem dX12_init_750 : decode cX12_init 750 = .ok (.iastore, 1) := by decide +kernel
theorem dX12_init_751 : decode cX12_init 751 = .ok (.dup, 1) := by decide +kernel
theorem dX12_init_752 : decode cX12_init 752 = .ok (.bipush 123, 2) := by decide +kernel
theorem dX12_init_754 : decode cX12_init 754 = .ok (.bipush 117, 2) := by decide +kernel
theorem dX12_init_756 : decode cX12_init 756 = .ok (.iastore, 1) := by decide +kernel
theorem dX12_init_757 : decode cX12_init 757 = .ok (.dup, 1) := by decide +kernel
theorem dX12_init_758 : decode cX12_init 758 = .ok (.bipush 124, 2) := by decide +kernel
theorem dX12_init_760 : decode cX12_init 760 = .ok (.bipush 116, 2) := by decide +kernel
theorem dX12_init_762 : decode cX12_init 762 = .ok (.iastore, 1) := by decide +kernel
theorem dX12_init_763 : decode cX12_init 763 = .ok (.dup, 1) := by decide +kernel
theorem dX12_init_764 : decode cX12_init 764 = .ok (.bipush 125, 2) := by decide +kernel
theorem dX12_init_766 : decode cX12_init 766 = .ok (.bipush 32, 2) := by decide +kernel
theorem dX12_init_768 : decode cX12_init 768 = .ok (.iastore, 1) := by decide +kernel
theorem dX12_init_769 : decode cX12_init 769 = .ok (.dup, 1) := by decide +kernel
theorem dX12_init_770 : decode cX12_init 770 = .ok (.bipush 126, 2) := by decide +kernel
theorem dX12_init_772 : decode cX12_init 772 = .ok (.bipush 108, 2) := by decide +kernel
theorem dX12_init_774 : decode cX12_init 774 = .ok (.iastore, 1) := by decide +kernel
theorem dX12_init_775 : decode cX12_init 775 = .ok (.dup, 1) := by decide +kernel
theorem dX12_init_776 : decode cX12_init 776 = .ok (.bipush 127, 2) := by decide +kernel
theorem dX12_init_778 : decode cX12_init 778 = .ok (.bipush 105, 2) := by decide +kernel
theorem dX12_init_780 : decode cX12_init 780 = .ok (.iastore, 1) := by decide +kernel
theorem dX12_init_781 : decode cX12_init 781 = .ok (.dup, 1) := by decide +kernel
theorem dX12_init_782 : decode cX12_init 782 = .ok (.sipush 128, 3) := by decide +kernel
theorem dX12_init_785 : decode cX12_init 785 = .ok (.bipush 110, 2) := by decide +kernel
theorem dX12_init_787 : decode cX12_init 787 = .ok (.iastore, 1) := by decide +kernel
theorem dX12_init_788 : decode cX12_init 788 = .ok (.dup, 1) := by decide +kernel
theorem dX12_init_789 : decode cX12_init 789 = .ok (.sipush 129, 3) := by decide +kernel
theorem dX12_init_792 : decode cX12_init 792 = .ok (.bipush 101, 2) := by decide +kernel
theorem dX12_init_794 : decode cX12_init 794 = .ok (.iastore, 1) := by decide +kernel
theorem dX12_init_795 : decode cX12_init 795 = .ok (.dup, 1) := by decide +kernel
theorem dX12_init_796 : decode cX12_init 796 = .ok (.sipush 130, 3) := by decide +kernel
theorem dX12_init_799 : decode cX12_init 799 = .ok (.bipush 115, 2) := by decide +kernel
theorem dX12_init_801 : decode cX12_init 801 = .ok (.iastore, 1) := by decide +kernel
theorem dX12_init_802 : decode cX12_init 802 = .ok (.dup, 1) := by decide +kernel
theorem dX12_init_803 : decode cX12_init 803 = .ok (.sipush 131, 3) := by decide +kernel
theorem dX12_init_806 : decode cX12_init 806 = .ok (.bipush 32, 2) := by decide +kernel
theorem dX12_init_808 : decode cX12_init 808 = .ok (.iastore, 1) := by decide +kernel
theorem dX12_init_809 : decode cX12_init 809 = .ok (.putfield 13, 3) := by decide +kernel
theorem dX12_init_812 : decode cX12_init 812 = .ok (.aload_n 0, 1) := by decide +kernel
theorem dX12_init_813 : decode cX12_init 813 = .ok (.iconst (-1), 1) := by decide +kernel
theorem dX12_init_814 : decode cX12_init 814 = .ok (.putfield 16, 3) := by decide +kernel
theorem dX12_init_817 : decode cX12_init 817 = .ok (.aload_n 0, 1) := by decide +kernel
theorem dX12_init_818 : decode cX12_init 818 = .ok (.bipush 16, 2) := by decide +kernel
theorem dX12_init_820 : decode cX12_init 820 = .ok (.newarray .int, 2) := by decide +kernel
theorem dX12_init_822 : decode cX12_init 822 = .ok (.putfield 20, 3) := by decide +kernel
theorem dX12_init_825 : decode cX12_init 825 = .ok (.aload_n 0, 1) := by decide +kernel
theorem dX12_init_826 : decode cX12_init 826 = .ok (.bipush 16, 2) := by decide +kernel
theorem dX12_init_828 : decode cX12_init 828 = .ok (.newarray .int, 2) := by decide +kernel
theorem dX12_init_830 : decode cX12_init 830 = .ok (.putfield 23, 3) := by decide +kernel
theorem dX12_init_833 : decode cX12_init 833 = .ok (.aload_n 0, 1) := by decide +kernel
theorem dX12_init_834 : decode cX12_init 834 = .ok (.bipush 16, 2) := by decide +kernel
theorem dX12_init_836 : decode cX12_init 836 = .ok (.newarray .int, 2) := by decide +kernel
theorem dX12_init_838 : decode cX12_init 838 = .ok (.putfield 26, 3) := by decide +kernel
theorem dX12_init_841 : decode cX12_init 841 = .ok (.aload_n 0, 1) := by decide +kernel
theorem dX12_init_842 : decode cX12_init 842 = .ok (.bipush 16, 2) := by decide +kernel
theorem dX12_init_844 : decode cX12_init 844 = .ok (.newarray .int, 2) := by decide +kernel
theorem dX12_init_846 : decode cX12_init 846 = .ok (.putfield 29, 3) := by decide +kernel
theorem dX12_init_849 : decode cX12_init 849 = .ok (.aload_n 0, 1) := by decide +kernel
theorem dX12_init_850 : decode cX12_init 850 = .ok (.bipush 16, 2) := by decide +kernel
theorem dX12_init_852 : decode cX12_init 852 = .ok (.newarray .int, 2) := by decide +kernel
theorem dX12_init_854 : decode cX12_init 854 = .ok (.putfield 32, 3) := by decide +kernel
theorem dX12_init_857 : decode cX12_init 857 = .ok (.aload_n 0, 1) := by decide +kernel
theorem dX12_init_858 : decode cX12_init 858 = .ok (.bipush 10, 2) := by decide +kernel
theorem dX12_init_860 : decode cX12_init 860 = .ok (.newarray .int, 2) := by decide +kernel
theorem dX12_init_862 : decode cX12_init 862 = .ok (.putfield 35, 3) := by decide +kernel
theorem dX12_init_865 : decode cX12_init 865 = .ok (.aload_n 0, 1) := by decide +kernel
theorem dX12_init_866 : decode cX12_init 866 = .ok (.bipush 10, 2) := by decide +kernel
theorem dX12_init_868 : decode cX12_init 868 = .ok (.newarray .int, 2) := by decide +kernel
theorem dX12_init_870 : decode cX12_init 870 = .ok (.putfield 38, 3) := by decide +kernel
theorem dX12_init_873 : decode cX12_init 873 = .ok (.aload_n 0, 1) := by decide +kernel
theorem dX12_init_874 : decode cX12_init 874 = .ok (.bipush 10, 2) := by decide +kernel
theorem dX12_init_876 : decode cX12_init 876 = .ok (.newarray .int, 2) := by decide +kernel
theorem dX12_init_878 : decode cX12_init 878 = .ok (.putfield 41, 3) := by decide +kernel
theorem dX12_init_881 : decode cX12_init 881 = .ok (.aload_n 0, 1) := by decide +kernel
theorem dX12_init_882 : decode cX12_init 882 = .ok (.bipush 10, 2) := by decide +kernel
theorem dX12_init_884 : decode cX12_init 884 = .ok (.newarray .int, 2) := by decide +kernel
theorem dX12_init_886 : decode cX12_init 886 = .ok (.putfield 44, 3) := by decide +kernel
theorem dX12_init_889 : decode cX12_init 889 = .ok (.aload_n 0, 1) := by decide +kernel
theorem dX12_init_890 : decode cX12_init 890 = .ok (.bipush 10, 2) := by decide +kernel
theorem dX12_init_892 : decode cX12_init 892 = .ok (.newarray .int, 2) := by decide +kernel
theorem dX12_init_894 : decode cX12_init 894 = .ok (.putfield 47, 3) := by decide +kernel
theorem dX12_init_897 : decode cX12_init 897 = .ok (.aload_n 0, 1) := by decide +kernel
theorem dX12_init_898 : decode cX12_init 898 = .ok (.bipush 120, 2) := by decide +kernel
theorem dX12_init_900 : decode cX12_init 900 = .ok (.newarray .boolean, 2) := by decide +kernel
theorem dX12_init_902 : decode cX12_init 902 = .ok (.putfield 50, 3) := by decide +kernel
theorem dX12_init_905 : decode cX12_init 905 = .ok (.aload_n 0, 1) := by decide +kernel
theorem dX12_init_906 : decode cX12_init 906 = .ok (.bipush 120, 2) := by decide +kernel
theorem dX12_init_908 : decode cX12_init 908 = .ok (.newarray .int, 2) := by decide +kernel
theorem dX12_init_910 : decode cX12_init 910 = .ok (.putfield 54, 3) := by decide +kernel
theorem dX12_init_913 : decode cX12_init 913 = .ok (.aload_n 0, 1) := by decide +kernel
theorem dX12_init_914 : decode cX12_init 914 = .ok (.bipush 120, 2) := by decide +kernel
theorem dX12_init_916 : decode cX12_init 916 = .ok (.newarray .int, 2) := by decide +kernel
theorem dX12_init_918 : decode cX12_init 918 = .ok (.putfield 57, 3) := by decide +kernel
theorem dX12_init_921 : decode cX12_init 921 = .ok (.aload_n 0, 1) := by decide +kernel
theorem dX12_init_922 : decode cX12_init 922 = .ok (.bipush 120, 2) := by decide +kernel
theorem dX12_init_924 : decode cX12_init 924 = .ok (.newarray .int, 2) := by decide +kernel
theorem dX12_init_926 : decode cX12_init 926 = .ok (.putfield 60, 3) := by decide +kernel
theorem dX12_init_929 : decode cX12_init 929 = .ok (.aload_n 0, 1) := by decide +kernel
theorem dX12_init_930 : decode cX12_init 930 = .ok (.bipush 120, 2) := by decide +kernel
theorem dX12_init_932 : decode cX12_init 932 = .ok (.newarray .int, 2) := by decide +kernel
theorem dX12_init_934 : decode cX12_init 934 = .ok (.putfield 63, 3) := by decide +kernel
theorem dX12_init_937 : decode cX12_init 937 = .ok (.aload_n 0, 1) := by decide +kernel
theorem dX12_init_938 : decode cX12_init 938 = .ok (.bipush 40, 2) := by decide +kernel
theorem dX12_init_940 : decode cX12_init 940 = .ok (.newarray .int, 2) := by decide +kernel
theorem dX12_init_942 : decode cX12_init 942 = .ok (.putfield 66, 3) := by decide +kernel
theorem dX12_init_945 : decode cX12_init 945 = .ok (.aload_n 0, 1) := by decide +kernel
theorem dX12_init_946 : decode cX12_init 946 = .ok (.bipush 40, 2) := by decide +kernel
theorem dX12_init_948 : decode cX12_init 948 = .ok (.newarray .int, 2) := by decide +kernel
theorem dX12_init_950 : decode cX12_init 950 = .ok (.putfield 69, 3) := by decide +kernel
theorem dX12_init_953 : decode cX12_init 953 = .ok (.aload_n 0, 1) := by decide +kernel
theorem dX12_init_954 : decode cX12_init 954 = .ok (.bipush 40, 2) := by decide +kernel
theorem dX12_init_956 : decode cX12_init 956 = .ok (.newarray .int, 2) := by decide +kernel
theorem dX12_init_958 : decode cX12_init 958 = .ok (.putfield 72, 3) := by decide +kernel
theorem dX12_init_961 : decode cX12_init 961 = .ok (.aload_n 0, 1) := by decide +kernel
theorem dX12_init_962 : decode cX12_init 962 = .ok (.bipush 6, 2) := by decide +kernel
theorem dX12_init_964 : decode cX12_init 964 = .ok (.newarray .int, 2) := by decide +kernel
theorem dX12_init_966 : decode cX12_init 966 = .ok (.putfield 75, 3) := by decide +kernel
theorem dX12_init_969 : decode cX12_init 969 = .ok (.aload_n 0, 1) := by decide +kernel
theorem dX12_init_970 : decode cX12_init 970 = .ok (.bipush 6, 2) := by decide +kernel
theorem dX12_init_972 : decode cX12_init 972 = .ok (.newarray .int, 2) := by decide +kernel
theorem dX12_init_974 : decode cX12_init 974 = .ok (.putfield 78, 3) := by decide +kernel
theorem dX12_init_977 : decode cX12_init 977 = .ok (.aload_n 0, 1) := by decide +kernel
theorem dX12_init_978 : decode cX12_init 978 = .ok (.sipush 128, 3) := by decide +kernel
theorem dX12_init_981 : decode cX12_init 981 = .ok (.newarray .int, 2) := by decide +kernel
theorem dX12_init_983 : decode cX12_init 983 = .ok (.putfield 81, 3) := by decide +kernel
theorem dX12_init_986 : decode cX12_init 986 = .ok (.aload_n 0, 1) := by decide +kernel
theorem dX12_init_987 : decode cX12_init 987 = .ok (.sipush 128, 3) := by decide +kernel
theorem dX12_init_990 : decode cX12_init 990 = .ok (.newarray .int, 2) := by decide +kernel
theorem dX12_init_992 : decode cX12_init 992 = .ok (.putfield 84, 3) := by decide +kernel
theorem dX12_init_995 : decode cX12_init 995 = .ok (.aload_n 0, 1) := by decide +kernel
theorem dX12_init_996 : decode cX12_init 996 = .ok (.sipush 128, 3) := by decide +kernel
theorem dX12_init_999 : decode cX12_init 999 = .ok (.newarray .int, 2) := by decide +kernel
theorem dX12_init_1001 : decode cX12_init 1001 = .ok (.putfield 87, 3) := by decide +kernel
theorem dX12_init_1004 : decode cX12_init 1004 = .ok (.aload_n 0, 1) := by decide +kernel
theorem dX12_init_1005 : decode cX12_init 1005 = .ok (.bipush 9, 2) := by decide +kernel
theorem dX12_init_1007 : decode cX12_init 1007 = .ok (.putfield 90, 3) := by decide +kernel
theorem dX12_init_1010 : decode cX12_init 1010 = .ok (.aload_n 0, 1) := by decide +kernel
theorem dX12_init_1011 : decode cX12_init 1011 = .ok (.iconst 1, 1) := by decide +kernel
theorem dX12_init_1012 : decode cX12_init 1012 = .ok (.putfield 93, 3) := by decide +kernel
theorem dX12_init_1015 : decode cX12_init 1015 = .ok (.aload_n 0, 1) := by decide +kernel
theorem dX12_init_1016 : decode cX12_init 1016 = .ok (.iconst 1, 1) := by decide +kernel
theorem dX12_init_1017 : decode cX12_init 1017 = .ok (.putfield 96, 3) := by decide +kernel
theorem dX12_init_1020 : decode cX12_init 1020 = .ok (.aload_n 0, 1) := by decide +kernel
theorem dX12_init_1021 : decode cX12_init 1021 = .ok (.bipush 96, 2) := by decide +kernel
theorem dX12_init_1023 : decode cX12_init 1023 = .ok (.newarray .int, 2) := by decide +kernel
theorem dX12_init_1025 : decode cX12_init 1025 = .ok (.putfield 99, 3) := by decide +kernel
theorem dX12_init_1028 : decode cX12_init 1028 = .ok (.aload_n 0, 1) := by decide +kernel
theorem dX12_init_1029 : decode cX12_init 1029 = .ok (.bipush 96, 2) := by decide +kernel
theorem dX12_init_1031 : decode cX12_init 1031 = .ok (.newarray .int, 2) := by decide +kernel
theorem dX12_init_1033 : decode cX12_init 1033 = .ok (.putfield 102, 3) := by decide +kernel
theorem dX12_init_1036 : decode cX12_init 1036 = .ok (.aload_n 0, 1) := by decide +kernel
theorem dX12_init_1037 : decode cX12_init 1037 = .ok (.bipush 20, 2) := by decide +kernel
theorem dX12_init_1039 : decode cX12_init 1039 = .ok (.newarray .int, 2) := by decide +kernel
theorem dX12_init_1041 : decode cX12_init 1041 = .ok (.putfield 105, 3) := by decide +kernel
theorem dX12_init_1044 : decode cX12_init 1044 = .ok (.aload_n 0, 1) := by decide +kernel
theorem dX12_init_1045 : decode cX12_init 1045 = .ok (.bipush 20, 2) := by decide +kernel
theorem dX12_init_1047 : decode cX12_init 1047 = .ok (.newarray .int, 2) := by decide +kernel
theorem dX12_init_1049 : decode cX12_init 1049 = .ok (.putfield 108, 3) := by decide +kernel
theorem dX12_init_1052 : decode cX12_init 1052 = .ok (.aload_n 0, 1) := by decide +kernel
theorem dX12_init_1053 : decode cX12_init 1053 = .ok (.bipush 10, 2) := by decide +kernel
theorem dX12_init_1055 : decode cX12_init 1055 = .ok (.newarray .long, 2) := by decide +kernel
theorem dX12_init_1057 : decode cX12_init 1057 = .ok (.putfield 111, 3) := by decide +kernel
theorem dX12_init_1060 : decode cX12_init 1060 = .ok (.aload_n 0, 1) := by decide +kernel
theorem dX12_init_1061 : decode cX12_init 1061 = .ok (.bipush 64, 2) := by decide +kernel
theorem dX12_init_1063 : decode cX12_init 1063 = .ok (.newarray .long, 2) := by decide +kernel
theorem dX12_init_1065 : decode cX12_init 1065 = .ok (.putfield 115, 3) := by decide +kernel
theorem dX12_init_1068 : decode cX12_init 1068 = .ok (.aload_n 0, 1) := by decide +kernel
theorem dX12_init_1069 : decode cX12_init 1069 = .ok (.invokevirtual 118, 3) := by decide +kernel
theorem dX12_init_1072 : decode cX12_init 1072 = .ok (.aload_n 0, 1) := by decide +kernel
theorem dX12_init_1073 : decode cX12_init 1073 = .ok (.invokevirtual 121, 3) := by decide +kernel
theorem dX12_init_1076 : decode cX12_init 1076 = .ok (.return_, 1) := by decide +kernel
theorem dX12_thrown_0 : decode cX12_thrown 0 = .ok (.aload_n 0, 1) := by decide +kernel
theorem dX12_thrown_1 : decode cX12_thrown 1 = .ok (.getfield 124, 3) := by decide +kernel
theorem dX12_thrown_4 : decode cX12_thrown 4 = .ok (.ireturn, 1) := by decide +kernel
theorem dX12_feed_0 : decode cX12_feed 0 = .ok (.aload_n 0, 1) := by decide +kernel
theorem dX12_feed_1 : decode cX12_feed 1 = .ok (.iconst 0, 1) := by decide +kernel
theorem dX12_feed_2 : decode cX12_feed 2 = .ok (.putfield 124, 3) := by decide +kernel
theorem dX12_feed_5 : decode cX12_feed 5 = .ok (.aload_n 0, 1) := by decide +kernel
theorem dX12_feed_6 : decode cX12_feed 6 = .ok (.getfield 127, 3) := by decide +kernel
theorem dX12_feed_9 : decode cX12_feed 9 = .ok (.bipush 20, 2) := by decide +kernel
theorem dX12_feed_11 : decode cX12_feed 11 = .ok (.iadd, 1) := by decide +kernel
theorem dX12_feed_12 : decode cX12_feed 12 = .ok (.sipush 800, 3) := by decide +kernel
theorem dX12_feed_15 : decode cX12_feed 15 = .ok (.if_icmp .le 5, 3) := by decide +kernel
theorem dX12_feed_18 : decode cX12_feed 18 = .ok (.iconst (-1), 1) := by decide +kernel
theorem dX12_feed_19 : decode cX12_feed 19 = .ok (.ireturn, 1) := by decide +kernel
theorem dX12_feed_20 : decode cX12_feed 20 = .ok (.iconst 0, 1) := by decide +kernel
theorem dX12_feed_21 : decode cX12_feed 21 = .ok (.istore 6, 2) := by decide +kernel
theorem dX12_feed_23 : decode cX12_feed 23 = .ok (.iload 6, 2) := by decide +kernel
theorem dX12_feed_25 : decode cX12_feed 25 = .ok (.bipush 20, 2) := by decide +kernel
theorem dX12_feed_27 : decode cX12_feed 27 = .ok (.if_icmp .ge 86, 3) := by decide +kernel
theorem dX12_feed_30 : decode cX12_feed 30 = .ok (.iload 6, 2) := by decide +kernel
theorem dX12_feed_32 : decode cX12_feed 32 = .ok (.iconst 4, 1) := by decide +kernel
theorem dX12_feed_33 : decode cX12_feed 33 = .ok (.if_icmp .ge 7, 3) := by decide +kernel
theorem dX12_feed_36 : decode cX12_feed 36 = .ok (.iload_n 1, 1) := by decide +kernel
theorem dX12_feed_37 : decode cX12_feed 37 = .ok (.goto 39, 3) := by decide +kernel
theorem dX12_feed_40 : decode cX12_feed 40 = .ok (.iload 6, 2) := by decide +kernel
theorem dX12_feed_42 : decode cX12_feed 42 = .ok (.bipush 8, 2) := by decide +kernel
theorem dX12_feed_44 : decode cX12_feed 44 = .ok (.if_icmp .ge 7, 3) := by decide +kernel
theorem dX12_feed_47 : decode cX12_feed 47 = .ok (.iload_n 2, 1) := by decide +kernel
theorem dX12_feed_48 : decode cX12_feed 48 = .ok (.goto 28, 3) := by decide +kernel
theorem dX12_feed_51 : decode cX12_feed 51 = .ok (.iload 6, 2) := by decide +kernel
theorem dX12_feed_53 : decode cX12_feed 53 = .ok (.bipush 12, 2) := by decide +kernel
theorem dX12_feed_55 : decode cX12_feed 55 = .ok (.if_icmp .ge 7, 3) := by decide +kernel
theorem dX12_feed_58 : decode cX12_feed 58 = .ok (.iload_n 3, 1) := by decide +kernel
theorem dX12_feed_59 : decode cX12_feed 59 = .ok (.goto 17, 3) := by decide +kernel
theorem dX12_feed_62 : decode cX12_feed 62 = .ok (.iload 6, 2) := by decide +kernel
theorem dX12_feed_64 : decode cX12_feed 64 = .ok (.bipush 16, 2) := by decide +kernel
theorem dX12_feed_66 : decode cX12_feed 66 = .ok (.if_icmp .ge 8, 3) := by decide +kernel
theorem dX12_feed_69 : decode cX12_feed 69 = .ok (.iload 4, 2) := by decide +kernel
theorem dX12_feed_71 : decode cX12_feed 71 = .ok (.goto 5, 3) := by decide +kernel
theorem dX12_feed_74 : decode cX12_feed 74 = .ok (.iload 5, 2) := by decide +kernel
theorem dX12_feed_76 : decode cX12_feed 76 = .ok (.istore 7, 2) := by decide +kernel
theorem dX12_feed_78 : decode cX12_feed 78 = .ok (.aload_n 0, 1) := by decide +kernel
theorem dX12_feed_79 : decode cX12_feed 79 = .ok (.getfield 7, 3) := by decide +kernel
theorem dX12_feed_82 : decode cX12_feed 82 = .ok (.aload_n 0, 1) := by decide +kernel
theorem dX12_feed_83 : decode cX12_feed 83 = .ok (.getfield 127, 3) := by decide +kernel
theorem dX12_feed_86 : decode cX12_feed 86 = .ok (.iload 6, 2) := by decide +kernel
theorem dX12_feed_88 : decode cX12_feed 88 = .ok (.iadd, 1) := by decide +kernel
theorem dX12_feed_89 : decode cX12_feed 89 = .ok (.iload 7, 2) := by decide +kernel
theorem dX12_feed_91 : decode cX12_feed 91 = .ok (.bipush 24, 2) := by decide +kernel
theorem dX12_feed_93 : decode cX12_feed 93 = .ok (.bipush 8, 2) := by decide +kernel
theorem dX12_feed_95 : decode cX12_feed 95 = .ok (.iload 6, 2) := by decide +kernel
theorem dX12_feed_97 : decode cX12_feed 97 = .ok (.iconst 4, 1) := by decide +kernel
theorem dX12_feed_98 : decode cX12_feed 98 = .ok (.irem, 1) := by decide +kernel
theorem dX12_feed_99 : decode cX12_feed 99 = .ok (.imul, 1) := by decide +kernel
theorem dX12_feed_100 : decode cX12_feed 100 = .ok (.isub, 1) := by decide +kernel
theorem dX12_feed_101 : decode cX12_feed 101 = .ok (.ishr, 1) := by decide +kernel
theorem dX12_feed_102 : decode cX12_feed 102 = .ok (.sipush 255, 3) := by decide +kernel
theorem dX12_feed_105 : decode cX12_feed 105 = .ok (.iand, 1) := by decide +kernel
theorem dX12_feed_106 : decode cX12_feed 106 = .ok (.iastore, 1) := by decide +kernel
theorem dX12_feed_107 : decode cX12_feed 107 = .ok (.iinc 6 1, 3) := by decide +kernel
theorem dX12_feed_110 : decode cX12_feed 110 = .ok (.goto (-87), 3) := by decide +kernel
theorem dX12_feed_113 : decode cX12_feed 113 = .ok (.aload_n 0, 1) := by decide +kernel
theorem dX12_feed_114 : decode cX12_feed 114 = .ok (.dup, 1) := by decide +kernel
theorem dX12_feed_115 : decode cX12_feed 115 = .ok (.getfield 127, 3) := by decide +kernel
theorem dX12_feed_118 : decode cX12_feed 118 = .ok (.bipush 20, 2) := by decide +kernel
theorem dX12_feed_120 : decode cX12_feed 120 = .ok (.iadd, 1) := by decide +kernel
theorem dX12_feed_121 : decode cX12_feed 121 = .ok (.putfield 127, 3) := by decide +kernel
theorem dX12_feed_124 : decode cX12_feed 124 = .ok (.aload_n 0, 1) := by decide +kernel
theorem dX12_feed_125 : decode cX12_feed 125 = .ok (.getfield 127, 3) := by decide +kernel
theorem dX12_feed_128 : decode cX12_feed 128 = .ok (.ireturn, 1) := by decide +kernel
theorem dX12_isIn_0 : decode cX12_isIn 0 = .ok (.iload_n 0, 1) := by decide +kernel
theorem dX12_isIn_1 : decode cX12_isIn 1 = .ok (.iload_n 1, 1) := by decide +kernel
theorem dX12_isIn_2 : decode cX12_isIn 2 = .ok (.if_icmp .lt 12, 3) := by decide +kernel
theorem dX12_isIn_5 : decode cX12_isIn 5 = .ok (.iload_n 0, 1) := by decide +kernel
theorem dX12_isIn_6 : decode cX12_isIn 6 = .ok (.iload_n 2, 1) := by decide +kernel
theorem dX12_isIn_7 : decode cX12_isIn 7 = .ok (.if_icmp .gt 7, 3) := by decide +kernel
theorem dX12_isIn_10 : decode cX12_isIn 10 = .ok (.iconst 1, 1) := by decide +kernel
theorem dX12_isIn_11 : decode cX12_isIn 11 = .ok (.goto 4, 3) := by decide +kernel
theorem dX12_isIn_14 : decode cX12_isIn 14 = .ok (.iconst 0, 1) := by decide +kernel
theorem dX12_isIn_15 : decode cX12_isIn 15 = .ok (.ireturn, 1) := by decide +kernel
theorem dX12_isOf_0 : decode cX12_isOf 0 = .ok (.iload_n 0, 1) := by decide +kernel
theorem dX12_isOf_1 : decode cX12_isOf 1 = .ok (.iload_n 1, 1) := by decide +kernel
theorem dX12_isOf_2 : decode cX12_isOf 2 = .ok (.ishr, 1) := by decide +kernel
theorem dX12_isOf_3 : decode cX12_isOf 3 = .ok (.iconst 1, 1) := by decide +kernel
theorem dX12_isOf_4 : decode cX12_isOf 4 = .ok (.iand, 1) := by decide +kernel
theorem dX12_isOf_5 : decode cX12_isOf 5 = .ok (.iconst 1, 1) := by decide +kernel
theorem dX12_isOf_6 : decode cX12_isOf 6 = .ok (.if_icmp .ne 7, 3) := by decide +kernel
theorem dX12_isOf_9 : decode cX12_isOf 9 = .ok (.iconst 1, 1) := by decide +kernel
theorem dX12_isOf_10 : decode cX12_isOf 10 = .ok (.goto 4, 3) := by decide +kernel
theorem dX12_isOf_13 : decode cX12_isOf 13 = .ok (.iconst 0, 1) := by decide +kernel
theorem dX12_isOf_14 : decode cX12_isOf 14 = .ok (.ireturn, 1) := by decide +kernel
theorem dX12_many_0 : decode cX12_many 0 = .ok (.iconst 0, 1) := by decide +kernel
theorem dX12_many_1 : decode cX12_many 1 = .ok (.istore_n 1, 1) := by decide +kernel
theorem dX12_many_2 : decode cX12_many 2 = .ok (.iconst 0, 1) := by decide +kernel
theorem dX12_many_3 : decode cX12_many 3 = .ok (.istore_n 2, 1) := by decide +kernel
theorem dX12_many_4 : decode cX12_many 4 = .ok (.iload_n 2, 1) := by decide +kernel
theorem dX12_many_5 : decode cX12_many 5 = .ok (.bipush 16, 2) := by decide +kernel
theorem dX12_many_7 : decode cX12_many 7 = .ok (.if_icmp .ge 17, 3) := by decide +kernel
theorem dX12_many_10 : decode cX12_many 10 = .ok (.iload_n 1, 1) := by decide +kernel
theorem dX12_many_11 : decode cX12_many 11 = .ok (.iload_n 0, 1) := by decide +kernel
theorem dX12_many_12 : decode cX12_many 12 = .ok (.iload_n 2, 1) := by decide +kernel
theorem dX12_many_13 : decode cX12_many 13 = .ok (.ishr, 1) := by decide +kernel
theorem dX12_many_14 : decode cX12_many 14 = .ok (.iconst 1, 1) := by decide +kernel
theorem dX12_many_15 : decode cX12_many 15 = .ok (.iand, 1) := by decide +kernel
theorem dX12_many_16 : decode cX12_many 16 = .ok (.iadd, 1) := by decide +kernel
theorem dX12_many_17 : decode cX12_many 17 = .ok (.istore_n 1, 1) := by decide +kernel
theorem dX12_many_18 : decode cX12_many 18 = .ok (.iinc 2 1, 3) := by decide +kernel
theorem dX12_many_21 : decode cX12_many 21 = .ok (.goto (-17), 3) := by decide +kernel
theorem dX12_many_24 : decode cX12_many 24 = .ok (.iload_n 1, 1) := by decide +kernel
theorem dX12_many_25 : decode cX12_many 25 = .ok (.ireturn, 1) := by decide +kernel
theorem dX12_wrong_0 : decode cX12_wrong 0 = .ok (.aload_n 0, 1) := by decide +kernel
theorem dX12_wrong_1 : decode cX12_wrong 1 = .ok (.iload_n 1, 1) := by decide +kernel
theorem dX12_wrong_2 : decode cX12_wrong 2 = .ok (.putfield 130, 3) := by decide +kernel
theorem dX12_wrong_5 : decode cX12_wrong 5 = .ok (.aload_n 0, 1) := by decide +kernel
theorem dX12_wrong_6 : decode cX12_wrong 6 = .ok (.aload_n 0, 1) := by decide +kernel
theorem dX12_wrong_7 : decode cX12_wrong 7 = .ok (.getfield 133, 3) := by decide +kernel
theorem dX12_wrong_10 : decode cX12_wrong 10 = .ok (.putfield 16, 3) := by decide +kernel
theorem dX12_wrong_13 : decode cX12_wrong 13 = .ok (.iconst 0, 1) := by decide +kernel
theorem dX12_wrong_14 : decode cX12_wrong 14 = .ok (.ireturn, 1) := by decide +kernel
theorem dX12_wordAt_0 : decode cX12_wordAt 0 = .ok (.iconst 0, 1) := by decide +kernel
theorem dX12_wordAt_1 : decode cX12_wordAt 1 = .ok (.istore_n 3, 1) := by decide +kernel
theorem dX12_wordAt_2 : decode cX12_wordAt 2 = .ok (.iconst 0, 1) := by decide +kernel
theorem dX12_wordAt_3 : decode cX12_wordAt 3 = .ok (.istore 4, 2) := by decide +kernel
theorem dX12_wordAt_5 : decode cX12_wordAt 5 = .ok (.iload 4, 2) := by decide +kernel
theorem dX12_wordAt_7 : decode cX12_wordAt 7 = .ok (.aload_n 0, 1) := by decide +kernel
theorem dX12_wordAt_8 : decode cX12_wordAt 8 = .ok (.getfield 13, 3) := by decide +kernel
theorem dX12_wordAt_11 : decode cX12_wordAt 11 = .ok (.arraylength, 1) := by decide +kernel
theorem dX12_wordAt_12 : decode cX12_wordAt 12 = .ok (.if_icmp .ge 114, 3) := by decide +kernel
theorem dX12_wordAt_15 : decode cX12_wordAt 15 = .ok (.iconst 0, 1) := by decide +kernel
theorem dX12_wordAt_16 : decode cX12_wordAt 16 = .ok (.istore 5, 2) := by decide +kernel
theorem dX12_wordAt_18 : decode cX12_wordAt 18 = .ok (.aload_n 0, 1) := by decide +kernel
theorem dX12_wordAt_19 : decode cX12_wordAt 19 = .ok (.getfield 13, 3) := by decide +kernel
theorem dX12_wordAt_22 : decode cX12_wordAt 22 = .ok (.iload 4, 2) := by decide +kernel
theorem dX12_wordAt_24 : decode cX12_wordAt 24 = .ok (.iload 5, 2) := by decide +kernel
theorem dX12_wordAt_26 : decode cX12_wordAt 26 = .ok (.iadd, 1) := by decide +kernel
theorem dX12_wordAt_27 : decode cX12_wordAt 27 = .ok (.iaload, 1) := by decide +kernel
theorem dX12_wordAt_28 : decode cX12_wordAt 28 = .ok (.bipush 32, 2) := by decide +kernel
theorem dX12_wordAt_30 : decode cX12_wordAt 30 = .ok (.if_icmp .eq 9, 3) := by decide +kernel
theorem dX12_wordAt_33 : decode cX12_wordAt 33 = .ok (.iinc 5 1, 3) := by decide +kernel
theorem dX12_wordAt_36 : decode cX12_wordAt 36 = .ok (.goto (-18), 3) := by decide +kernel
theorem dX12_wordAt_39 : decode cX12_wordAt 39 = .ok (.iload 5, 2) := by decide +kernel
theorem dX12_wordAt_41 : decode cX12_wordAt 41 = .ok (.iload_n 2, 1) := by decide +kernel
theorem dX12_wordAt_42 : decode cX12_wordAt 42 = .ok (.iload_n 1, 1) := by decide +kernel
theorem dX12_wordAt_43 : decode cX12_wordAt 43 = .ok (.isub, 1) := by decide +kernel
theorem dX12_wordAt_44 : decode cX12_wordAt 44 = .ok (.if_icmp .ne 7, 3) := by decide +kernel
theorem dX12_wordAt_47 : decode cX12_wordAt 47 = .ok (.iconst 1, 1) := by decide +kernel
theorem dX12_wordAt_48 : decode cX12_wordAt 48 = .ok (.goto 4, 3) := by decide +kernel
theorem dX12_wordAt_51 : decode cX12_wordAt 51 = .ok (.iconst 0, 1) := by decide +kernel
theorem dX12_wordAt_52 : decode cX12_wordAt 52 = .ok (.istore 6, 2) := by decide +kernel
theorem dX12_wordAt_54 : decode cX12_wordAt 54 = .ok (.iconst 0, 1) := by decide +kernel
theorem dX12_wordAt_55 : decode cX12_wordAt 55 = .ok (.istore 7, 2) := by decide +kernel
theorem dX12_wordAt_57 : decode cX12_wordAt 57 = .ok (.iload 7, 2) := by decide +kernel
theorem dX12_wordAt_59 : decode cX12_wordAt 59 = .ok (.iload 5, 2) := by decide +kernel
theorem dX12_wordAt_61 : decode cX12_wordAt 61 = .ok (.if_icmp .ge 43, 3) := by decide +kernel
theorem dX12_wordAt_64 : decode cX12_wordAt 64 = .ok (.iload 6, 2) := by decide +kernel
theorem dX12_wordAt_66 : decode cX12_wordAt 66 = .ok (.ifCond .eq 38, 3) := by decide +kernel
theorem dX12_wordAt_69 : decode cX12_wordAt 69 = .ok (.aload_n 0, 1) := by decide +kernel
theorem dX12_wordAt_70 : decode cX12_wordAt 70 = .ok (.getfield 13, 3) := by decide +kernel
theorem dX12_wordAt_73 : decode cX12_wordAt 73 = .ok (.iload 4, 2) := by decide +kernel
theorem dX12_wordAt_75 : decode cX12_wordAt 75 = .ok (.iload 7, 2) := by decide +kernel
theorem dX12_wordAt_77 : decode cX12_wordAt 77 = .ok (.iadd, 1) := by decide +kernel
theorem dX12_wordAt_78 : decode cX12_wordAt 78 = .ok (.iaload, 1) := by decide +kernel
theorem dX12_wordAt_79 : decode cX12_wordAt 79 = .ok (.aload_n 0, 1) := by decide +kernel
theorem dX12_wordAt_80 : decode cX12_wordAt 80 = .ok (.getfield 7, 3) := by decide +kernel
theorem dX12_wordAt_83 : decode cX12_wordAt 83 = .ok (.iload_n 1, 1) := by decide +kernel
theorem dX12_wordAt_84 : decode cX12_wordAt 84 = .ok (.iload 7, 2) := by decide +kernel
theorem dX12_wordAt_86 : decode cX12_wordAt 86 = .ok (.iadd, 1) := by decide +kernel
theorem dX12_wordAt_87 : decode cX12_wordAt 87 = .ok (.iaload, 1) := by decide +kernel
theorem dX12_wordAt_88 : decode cX12_wordAt 88 = .ok (.if_icmp .ne 7, 3) := by decide +kernel
theorem dX12_wordAt_91 : decode cX12_wordAt 91 = .ok (.iconst 1, 1) := by decide +kernel
theorem dX12_wordAt_92 : decode cX12_wordAt 92 = .ok (.goto 4, 3) := by decide +kernel
theorem dX12_wordAt_95 : decode cX12_wordAt 95 = .ok (.iconst 0, 1) := by decide +kernel
theorem dX12_wordAt_96 : decode cX12_wordAt 96 = .ok (.istore 6, 2) := by decide +kernel
theorem dX12_wordAt_98 : decode cX12_wordAt 98 = .ok (.iinc 7 1, 3) := by decide +kernel
theorem dX12_wordAt_101 : decode cX12_wordAt 101 = .ok (.goto (-44), 3) := by decide +kernel
theorem dX12_wordAt_104 : decode cX12_wordAt 104 = .ok (.iload 6, 2) := by decide +kernel
theorem dX12_wordAt_106 : decode cX12_wordAt 106 = .ok (.ifCond .eq 5, 3) := by decide +kernel
theorem dX12_wordAt_109 : decode cX12_wordAt 109 = .ok (.iload_n 3, 1) := by decide +kernel
theorem dX12_wordAt_110 : decode cX12_wordAt 110 = .ok (.ireturn, 1) := by decide +kernel
theorem dX12_wordAt_111 : decode cX12_wordAt 111 = .ok (.iload 4, 2) := by decide +kernel
theorem dX12_wordAt_113 : decode cX12_wordAt 113 = .ok (.iload 5, 2) := by decide +kernel
theorem dX12_wordAt_115 : decode cX12_wordAt 115 = .ok (.iconst 1, 1) := by decide +kernel
theorem dX12_wordAt_116 : decode cX12_wordAt 116 = .ok (.iadd, 1) := by decide +kernel
theorem dX12_wordAt_117 : decode cX12_wordAt 117 = .ok (.iadd, 1) := by decide +kernel
theorem dX12_wordAt_118 : decode cX12_wordAt 118 = .ok (.istore 4, 2) := by decide +kernel
theorem dX12_wordAt_120 : decode cX12_wordAt 120 = .ok (.iinc 3 1, 3) := by decide +kernel
theorem dX12_wordAt_123 : decode cX12_wordAt 123 = .ok (.goto (-118), 3) := by decide +kernel
theorem dX12_wordAt_126 : decode cX12_wordAt 126 = .ok (.iconst (-1), 1) := by decide +kernel
theorem dX12_wordAt_127 : decode cX12_wordAt 127 = .ok (.ireturn, 1) := by decide +kernel
theorem dX12_isSmall_0 : decode cX12_isSmall 0 = .ok (.iload_n 1, 1) := by decide +kernel
theorem dX12_isSmall_1 : decode cX12_isSmall 1 = .ok (.aload_n 0, 1) := by decide +kernel
theorem dX12_isSmall_2 : decode cX12_isSmall 2 = .ok (.getfield 136, 3) := by decide +kernel
theorem dX12_isSmall_5 : decode cX12_isSmall 5 = .ok (.if_icmp .ge 29, 3) := by decide +kernel
theorem dX12_isSmall_8 : decode cX12_isSmall 8 = .ok (.aload_n 0, 1) := by decide +kernel
theorem dX12_isSmall_9 : decode cX12_isSmall 9 = .ok (.getfield 7, 3) := by decide +kernel
theorem dX12_isSmall_12 : decode cX12_isSmall 12 = .ok (.iload_n 1, 1) := by decide +kernel
theorem dX12_isSmall_13 : decode cX12_isSmall 13 = .ok (.iaload, 1) := by decide +kernel
theorem dX12_isSmall_14 : decode cX12_isSmall 14 = .ok (.bipush 97, 2) := by decide +kernel
theorem dX12_isSmall_16 : decode cX12_isSmall 16 = .ok (.if_icmp .lt 18, 3) := by decide +kernel
theorem dX12_isSmall_19 : decode cX12_isSmall 19 = .ok (.aload_n 0, 1) := by decide +kernel
theorem dX12_isSmall_20 : decode cX12_isSmall 20 = .ok (.getfield 7, 3) := by decide +kernel
theorem dX12_isSmall_23 : decode cX12_isSmall 23 = .ok (.iload_n 1, 1) := by decide +kernel
theorem dX12_isSmall_24 : decode cX12_isSmall 24 = .ok (.iaload, 1) := by decide +kernel
theorem dX12_isSmall_25 : decode cX12_isSmall 25 = .ok (.bipush 122, 2) := by decide +kernel
theorem dX12_isSmall_27 : decode cX12_isSmall 27 = .ok (.if_icmp .gt 7, 3) := by decide +kernel
theorem dX12_isSmall_30 : decode cX12_isSmall 30 = .ok (.iconst 1, 1) := by decide +kernel
theorem dX12_isSmall_31 : decode cX12_isSmall 31 = .ok (.goto 4, 3) := by decide +kernel
theorem dX12_isSmall_34 : decode cX12_isSmall 34 = .ok (.iconst 0, 1) := by decide +kernel
theorem dX12_isSmall_35 : decode cX12_isSmall 35 = .ok (.ireturn, 1) := by decide +kernel
theorem dX12_isDigit_0 : decode cX12_isDigit 0 = .ok (.iload_n 1, 1) := by decide +kernel
theorem dX12_isDigit_1 : decode cX12_isDigit 1 = .ok (.aload_n 0, 1) := by decide +kernel
theorem dX12_isDigit_2 : decode cX12_isDigit 2 = .ok (.getfield 136, 3) := by decide +kernel
theorem dX12_isDigit_5 : decode cX12_isDigit 5 = .ok (.if_icmp .ge 29, 3) := by decide +kernel
theorem dX12_isDigit_8 : decode cX12_isDigit 8 = .ok (.aload_n 0, 1) := by decide +kernel
theorem dX12_isDigit_9 : decode cX12_isDigit 9 = .ok (.getfield 7, 3) := by decide +kernel
theorem dX12_isDigit_12 : decode cX12_isDigit 12 = .ok (.iload_n 1, 1) := by decide +kernel
theorem dX12_isDigit_13 : decode cX12_isDigit 13 = .ok (.iaload, 1) := by decide +kernel
theorem dX12_isDigit_14 : decode cX12_isDigit 14 = .ok (.bipush 48, 2) := by decide +kernel
theorem dX12_isDigit_16 : decode cX12_isDigit 16 = .ok (.if_icmp .lt 18, 3) := by decide +kernel
theorem dX12_isDigit_19 : decode cX12_isDigit 19 = .ok (.aload_n 0, 1) := by decide +kernel
theorem dX12_isDigit_20 : decode cX12_isDigit 20 = .ok (.getfield 7, 3) := by decide +kernel
theorem dX12_isDigit_23 : decode cX12_isDigit 23 = .ok (.iload_n 1, 1) := by decide +kernel
theorem dX12_isDigit_24 : decode cX12_isDigit 24 = .ok (.iaload, 1) := by decide +kernel
theorem dX12_isDigit_25 : decode cX12_isDigit 25 = .ok (.bipush 57, 2) := by decide +kernel
theorem dX12_isDigit_27 : decode cX12_isDigit 27 = .ok (.if_icmp .gt 7, 3) := by decide +kernel
theorem dX12_isDigit_30 : decode cX12_isDigit 30 = .ok (.iconst 1, 1) := by decide +kernel
theorem dX12_isDigit_31 : decode cX12_isDigit 31 = .ok (.goto 4, 3) := by decide +kernel
theorem dX12_isDigit_34 : decode cX12_isDigit 34 = .ok (.iconst 0, 1) := by decide +kernel
theorem dX12_isDigit_35 : decode cX12_isDigit 35 = .ok (.ireturn, 1) := by decide +kernel
theorem dX12_take_0 : decode cX12_take 0 = .ok (.aload_n 0, 1) := by decide +kernel
theorem dX12_take_1 : decode cX12_take 1 = .ok (.getfield 139, 3) := by decide +kernel
theorem dX12_take_4 : decode cX12_take 4 = .ok (.aload_n 0, 1) := by decide +kernel
theorem dX12_take_5 : decode cX12_take 5 = .ok (.getfield 136, 3) := by decide +kernel
theorem dX12_take_8 : decode cX12_take 8 = .ok (.if_icmp .ge 44, 3) := by decide +kernel
theorem dX12_take_11 : decode cX12_take 11 = .ok (.aload_n 0, 1) := by decide +kernel
theorem dX12_take_12 : decode cX12_take 12 = .ok (.getfield 7, 3) := by decide +kernel
theorem dX12_take_15 : decode cX12_take 15 = .ok (.aload_n 0, 1) := by decide +kernel
theorem dX12_take_16 : decode cX12_take 16 = .ok (.getfield 139, 3) := by decide +kernel
theorem dX12_take_19 : decode cX12_take 19 = .ok (.iaload, 1) := by decide +kernel
theorem dX12_take_20 : decode cX12_take 20 = .ok (.bipush 10, 2) := by decide +kernel
theorem dX12_take_22 : decode cX12_take 22 = .ok (.if_icmp .eq 17, 3) := by decide +kernel
theorem dX12_take_25 : decode cX12_take 25 = .ok (.aload_n 0, 1) := by decide +kernel
theorem dX12_take_26 : decode cX12_take 26 = .ok (.getfield 7, 3) := by decide +kernel
theorem dX12_take_29 : decode cX12_take 29 = .ok (.aload_n 0, 1) := by decide +kernel
theorem dX12_take_30 : decode cX12_take 30 = .ok (.getfield 139, 3) := by decide +kernel
theorem dX12_take_33 : decode cX12_take 33 = .ok (.iaload, 1) := by decide +kernel
theorem dX12_take_34 : decode cX12_take 34 = .ok (.bipush 32, 2) := by decide +kernel
theorem dX12_take_36 : decode cX12_take 36 = .ok (.if_icmp .ne 16, 3) := by decide +kernel
theorem dX12_take_39 : decode cX12_take 39 = .ok (.aload_n 0, 1) := by decide +kernel
theorem dX12_take_40 : decode cX12_take 40 = .ok (.dup, 1) := by decide +kernel
theorem dX12_take_41 : decode cX12_take 41 = .ok (.getfield 139, 3) := by decide +kernel
theorem dX12_take_44 : decode cX12_take 44 = .ok (.iconst 1, 1) := by decide +kernel
theorem dX12_take_45 : decode cX12_take 45 = .ok (.iadd, 1) := by decide +kernel
theorem dX12_take_46 : decode cX12_take 46 = .ok (.putfield 139, 3) := by decide +kernel
theorem dX12_take_49 : decode cX12_take 49 = .ok (.goto (-49), 3) := by decide +kernel
theorem dX12_take_52 : decode cX12_take 52 = .ok (.aload_n 0, 1) := by decide +kernel
theorem dX12_take_53 : decode cX12_take 53 = .ok (.aload_n 0, 1) := by decide +kernel
theorem dX12_take_54 : decode cX12_take 54 = .ok (.getfield 139, 3) := by decide +kernel
theorem dX12_take_57 : decode cX12_take 57 = .ok (.putfield 133, 3) := by decide +kernel
theorem dX12_take_60 : decode cX12_take 60 = .ok (.aload_n 0, 1) := by decide +kernel
theorem dX12_take_61 : decode cX12_take 61 = .ok (.getfield 139, 3) := by decide +kernel
theorem dX12_take_64 : decode cX12_take 64 = .ok (.aload_n 0, 1) := by decide +kernel
theorem dX12_take_65 : decode cX12_take 65 = .ok (.getfield 136, 3) := by decide +kernel
theorem dX12_take_68 : decode cX12_take 68 = .ok (.if_icmp .ne 11, 3) := by decide +kernel
theorem dX12_take_71 : decode cX12_take 71 = .ok (.aload_n 0, 1) := by decide +kernel
theorem dX12_take_72 : decode cX12_take 72 = .ok (.iconst 0, 1) := by decide +kernel
theorem dX12_take_73 : decode cX12_take 73 = .ok (.putfield 142, 3) := by decide +kernel
theorem dX12_take_76 : decode cX12_take 76 = .ok (.goto 206, 3) := by decide +kernel
theorem dX12_take_79 : decode cX12_take 79 = .ok (.aload_n 0, 1) := by decide +kernel
theorem dX12_take_80 : decode cX12_take 80 = .ok (.aload_n 0, 1) := by decide +kernel
theorem dX12_take_81 : decode cX12_take 81 = .ok (.getfield 139, 3) := by decide +kernel
theorem dX12_take_84 : decode cX12_take 84 = .ok (.invokevirtual 145, 3) := by decide +kernel
theorem dX12_take_87 : decode cX12_take 87 = .ok (.ifCond .eq 105, 3) := by decide +kernel
theorem dX12_take_90 : decode cX12_take 90 = .ok (.aload_n 0, 1) := by decide +kernel
theorem dX12_take_91 : decode cX12_take 91 = .ok (.aload_n 0, 1) := by decide +kernel
theorem dX12_take_92 : decode cX12_take 92 = .ok (.getfield 139, 3) := by decide +kernel
theorem dX12_take_95 : decode cX12_take 95 = .ok (.invokevirtual 145, 3) := by decide +kernel
theorem dX12_take_98 : decode cX12_take 98 = .ok (.ifCond .eq 16, 3) := by decide +kernel
theorem dX12_take_101 : decode cX12_take 101 = .ok (.aload_n 0, 1) := by decide +kernel
theorem dX12_take_102 : decode cX12_take 102 = .ok (.dup, 1) := by decide +kernel
theorem dX12_take_103 : decode cX12_take 103 = .ok (.getfield 139, 3) := by decide +kernel
theorem dX12_take_106 : decode cX12_take 106 = .ok (.iconst 1, 1) := by decide +kernel
theorem dX12_take_107 : decode cX12_take 107 = .ok (.iadd, 1) := by decide +kernel
theorem dX12_take_108 : decode cX12_take 108 = .ok (.putfield 139, 3) := by decide +kernel
theorem dX12_take_111 : decode cX12_take 111 = .ok (.goto (-21), 3) := by decide +kernel
theorem dX12_take_114 : decode cX12_take 114 = .ok (.aload_n 0, 1) := by decide +kernel
theorem dX12_take_115 : decode cX12_take 115 = .ok (.aload_n 0, 1) := by decide +kernel
theorem dX12_take_116 : decode cX12_take 116 = .ok (.aload_n 0, 1) := by decide +kernel
theorem dX12_take_117 : decode cX12_take 117 = .ok (.getfield 133, 3) := by decide +kernel
theorem dX12_take_120 : decode cX12_take 120 = .ok (.aload_n 0, 1) := by decide +kernel
theorem dX12_take_121 : decode cX12_take 121 = .ok (.getfield 139, 3) := by decide +kernel
theorem dX12_take_124 : decode cX12_take 124 = .ok (.invokevirtual 149, 3) := by decide +kernel
theorem dX12_take_127 : decode cX12_take 127 = .ok (.putfield 153, 3) := by decide +kernel
theorem dX12_take_130 : decode cX12_take 130 = .ok (.aload_n 0, 1) := by decide +kernel
theorem dX12_take_131 : decode cX12_take 131 = .ok (.aload_n 0, 1) := by decide +kernel
theorem dX12_take_132 : decode cX12_take 132 = .ok (.getfield 153, 3) := by decide +kernel
theorem dX12_take_135 : decode cX12_take 135 = .ok (.ifCond .lt 7, 3) := by decide +kernel
theorem dX12_take_138 : decode cX12_take 138 = .ok (.iconst 1, 1) := by decide +kernel
theorem dX12_take_139 : decode cX12_take 139 = .ok (.goto 23, 3) := by decide +kernel
theorem dX12_take_142 : decode cX12_take 142 = .ok (.aload_n 0, 1) := by decide +kernel
theorem dX12_take_143 : decode cX12_take 143 = .ok (.getfield 139, 3) := by decide +kernel
theorem dX12_take_146 : decode cX12_take 146 = .ok (.aload_n 0, 1) := by decide +kernel
theorem dX12_take_147 : decode cX12_take 147 = .ok (.getfield 133, 3) := by decide +kernel
theorem dX12_take_150 : decode cX12_take 150 = .ok (.isub, 1) := by decide +kernel
theorem dX12_take_151 : decode cX12_take 151 = .ok (.bipush 6, 2) := by decide +kernel
theorem dX12_take_153 : decode cX12_take 153 = .ok (.if_icmp .le 8, 3) := by decide +kernel
theorem dX12_take_156 : decode cX12_take 156 = .ok (.bipush 6, 2) := by decide +kernel
theorem dX12_take_158 : decode cX12_take 158 = .ok (.goto 4, 3) := by decide +kernel
theorem dX12_take_161 : decode cX12_take 161 = .ok (.iconst 2, 1) := by decide +kernel
theorem dX12_take_162 : decode cX12_take 162 = .ok (.putfield 142, 3) := by decide +kernel
theorem dX12_take_165 : decode cX12_take 165 = .ok (.aload_n 0, 1) := by decide +kernel
theorem dX12_take_166 : decode cX12_take 166 = .ok (.getfield 142, 3) := by decide +kernel
theorem dX12_take_169 : decode cX12_take 169 = .ok (.iconst 2, 1) := by decide +kernel
theorem dX12_take_170 : decode cX12_take 170 = .ok (.if_icmp .ne 112, 3) := by decide +kernel
theorem dX12_take_173 : decode cX12_take 173 = .ok (.aload_n 0, 1) := by decide +kernel
theorem dX12_take_174 : decode cX12_take 174 = .ok (.aload_n 0, 1) := by decide +kernel
theorem dX12_take_175 : decode cX12_take 175 = .ok (.aload_n 0, 1) := by decide +kernel
theorem dX12_take_176 : decode cX12_take 176 = .ok (.getfield 133, 3) := by decide +kernel
theorem dX12_take_179 : decode cX12_take 179 = .ok (.aload_n 0, 1) := by decide +kernel
theorem dX12_take_180 : decode cX12_take 180 = .ok (.getfield 139, 3) := by decide +kernel
theorem dX12_take_183 : decode cX12_take 183 = .ok (.invokevirtual 156, 3) := by decide +kernel
theorem dX12_take_186 : decode cX12_take 186 = .ok (.putfield 153, 3) := by decide +kernel
theorem dX12_take_189 : decode cX12_take 189 = .ok (.goto 93, 3) := by decide +kernel
theorem dX12_take_192 : decode cX12_take 192 = .ok (.aload_n 0, 1) := by decide +kernel
theorem dX12_take_193 : decode cX12_take 193 = .ok (.aload_n 0, 1) := by decide +kernel
theorem dX12_take_194 : decode cX12_take 194 = .ok (.getfield 139, 3) := by decide +kernel
theorem dX12_take_197 : decode cX12_take 197 = .ok (.invokevirtual 159, 3) := by decide +kernel
theorem dX12_take_200 : decode cX12_take 200 = .ok (.ifCond .eq 78, 3) := by decide +kernel
theorem dX12_take_203 : decode cX12_take 203 = .ok (.aload_n 0, 1) := by decide +kernel
theorem dX12_take_204 : decode cX12_take 204 = .ok (.iconst 3, 1) := by decide +kernel
theorem dX12_take_205 : decode cX12_take 205 = .ok (.putfield 142, 3) := by decide +kernel
theorem dX12_take_208 : decode cX12_take 208 = .ok (.aload_n 0, 1) := by decide +kernel
theorem dX12_take_209 : decode cX12_take 209 = .ok (.iconst 0, 1) := by decide +kernel
theorem dX12_take_210 : decode cX12_take 210 = .ok (.putfield 153, 3) := by decide +kernel
theorem dX12_take_213 : decode cX12_take 213 = .ok (.aload_n 0, 1) := by decide +kernel
theorem dX12_take_214 : decode cX12_take 214 = .ok (.aload_n 0, 1) := by decide +kernel
theorem dX12_take_215 : decode cX12_take 215 = .ok (.getfield 139, 3) := by decide +kernel
theorem dX12_take_218 : decode cX12_take 218 = .ok (.invokevirtual 159, 3) := by decide +kernel
theorem dX12_take_221 : decode cX12_take 221 = .ok (.ifCond .eq 61, 3) := by decide +kernel
theorem dX12_take_224 : decode cX12_take 224 = .ok (.aload_n 0, 1) := by decide +kernel
theorem dX12_take_225 : decode cX12_take 225 = .ok (.aload_n 0, 1) := by decide +kernel
theorem dX12_take_226 : decode cX12_take 226 = .ok (.getfield 153, 3) := by decide +kernel
theorem dX12_take_229 : decode cX12_take 229 = .ok (.sipush 999, 3) := by decide +kernel
theorem dX12_take_232 : decode cX12_take 232 = .ok (.if_icmp .le 10, 3) := by decide +kernel
theorem dX12_take_235 : decode cX12_take 235 = .ok (.aload_n 0, 1) := by decide +kernel
theorem dX12_take_236 : decode cX12_take 236 = .ok (.getfield 153, 3) := by decide +kernel
theorem dX12_take_239 : decode cX12_take 239 = .ok (.goto 23, 3) := by decide +kernel
theorem dX12_take_242 : decode cX12_take 242 = .ok (.bipush 10, 2) := by decide +kernel
theorem dX12_take_244 : decode cX12_take 244 = .ok (.aload_n 0, 1) := by decide +kernel
theorem dX12_take_245 : decode cX12_take 245 = .ok (.getfield 153, 3) := by decide +kernel
theorem dX12_take_248 : decode cX12_take 248 = .ok (.imul, 1) := by decide +kernel
theorem dX12_take_249 : decode cX12_take 249 = .ok (.aload_n 0, 1) := by decide +kernel
theorem dX12_take_250 : decode cX12_take 250 = .ok (.getfield 7, 3) := by decide +kernel
theorem dX12_take_253 : decode cX12_take 253 = .ok (.aload_n 0, 1) := by decide +kernel
theorem dX12_take_254 : decode cX12_take 254 = .ok (.getfield 139, 3) := by decide +kernel
theorem dX12_take_257 : decode cX12_take 257 = .ok (.iaload, 1) := by decide +kernel
theorem dX12_take_258 : decode cX12_take 258 = .ok (.iadd, 1) := by decide +kernel
theorem dX12_take_259 : decode cX12_take 259 = .ok (.bipush 48, 2) := by decide +kernel
theorem dX12_take_261 : decode cX12_take 261 = .ok (.isub, 1) := by decide +kernel
theorem dX12_take_262 : decode cX12_take 262 = .ok (.putfield 153, 3) := by decide +kernel
theorem dX12_take_265 : decode cX12_take 265 = .ok (.aload_n 0, 1) := by decide +kernel
theorem dX12_take_266 : decode cX12_take 266 = .ok (.dup, 1) := by decide +kernel
theorem dX12_take_267 : decode cX12_take 267 = .ok (.getfield 139, 3) := by decide +kernel
theorem dX12_take_270 : decode cX12_take 270 = .ok (.iconst 1, 1) := by decide +kernel
theorem dX12_take_271 : decode cX12_take 271 = .ok (.iadd, 1) := by decide +kernel
theorem dX12_take_272 : decode cX12_take 272 = .ok (.putfield 139, 3) := by decide +kernel
theorem dX12_take_275 : decode cX12_take 275 = .ok (.goto (-62), 3) := by decide +kernel
theorem dX12_take_278 : decode cX12_take 278 = .ok (.aload_n 0, 1) := by decide +kernel
theorem dX12_take_279 : decode cX12_take 279 = .ok (.invokevirtual 162, 3) := by decide +kernel
theorem dX12_take_282 : decode cX12_take 282 = .ok (.return_, 1) := by decide +kernel
theorem dX12_takeSign_0 : decode cX12_takeSign 0 = .ok (.aload_n 0, 1) := by decide +kernel
theorem dX12_takeSign_1 : decode cX12_takeSign 1 = .ok (.aload_n 0, 1) := by decide +kernel
theorem dX12_takeSign_2 : decode cX12_takeSign 2 = .ok (.getfield 7, 3) := by decide +kernel
theorem dX12_takeSign_5 : decode cX12_takeSign 5 = .ok (.aload_n 0, 1) := by decide +kernel
theorem dX12_takeSign_6 : decode cX12_takeSign 6 = .ok (.getfield 139, 3) := by decide +kernel
theorem dX12_takeSign_9 : decode cX12_takeSign 9 = .ok (.iaload, 1) := by decide +kernel
theorem dX12_takeSign_10 : decode cX12_takeSign 10 = .ok (.putfield 153, 3) := by decide +kernel
theorem dX12_takeSign_13 : decode cX12_takeSign 13 = .ok (.aload_n 0, 1) := by decide +kernel
theorem dX12_takeSign_14 : decode cX12_takeSign 14 = .ok (.dup, 1) := by decide +kernel
theorem dX12_takeSign_15 : decode cX12_takeSign 15 = .ok (.getfield 139, 3) := by decide +kernel
theorem dX12_takeSign_18 : decode cX12_takeSign 18 = .ok (.iconst 1, 1) := by decide +kernel
theorem dX12_takeSign_19 : decode cX12_takeSign 19 = .ok (.iadd, 1) := by decide +kernel
theorem dX12_takeSign_20 : decode cX12_takeSign 20 = .ok (.putfield 139, 3) := by decide +kernel
theorem dX12_takeSign_23 : decode cX12_takeSign 23 = .ok (.aload_n 0, 1) := by decide +kernel
theorem dX12_takeSign_24 : decode cX12_takeSign 24 = .ok (.getfield 153, 3) := by decide +kernel
theorem dX12_takeSign_27 : decode cX12_takeSign 27 = .ok (.bipush 60, 2) := by decide +kernel
theorem dX12_takeSign_29 : decode cX12_takeSign 29 = .ok (.if_icmp .eq 21, 3) := by decide +kernel
theorem dX12_takeSign_32 : decode cX12_takeSign 32 = .ok (.aload_n 0, 1) := by decide +kernel
theorem dX12_takeSign_33 : decode cX12_takeSign 33 = .ok (.getfield 153, 3) := by decide +kernel
theorem dX12_takeSign_36 : decode cX12_takeSign 36 = .ok (.bipush 62, 2) := by decide +kernel
theorem dX12_takeSign_38 : decode cX12_takeSign 38 = .ok (.if_icmp .eq 12, 3) := by decide +kernel
theorem dX12_takeSign_41 : decode cX12_takeSign 41 = .ok (.aload_n 0, 1) := by decide +kernel
theorem dX12_takeSign_42 : decode cX12_takeSign 42 = .ok (.getfield 153, 3) := by decide +kernel
theorem dX12_takeSign_45 : decode cX12_takeSign 45 = .ok (.bipush 61, 2) := by decide +kernel
theorem dX12_takeSign_47 : decode cX12_takeSign 47 = .ok (.if_icmp .ne 151, 3) := by decide +kernel
theorem dX12_takeSign_50 : decode cX12_takeSign 50 = .ok (.aload_n 0, 1) := by decide +kernel
theorem dX12_takeSign_51 : decode cX12_takeSign 51 = .ok (.getfield 139, 3) := by decide +kernel
theorem dX12_takeSign_54 : decode cX12_takeSign 54 = .ok (.aload_n 0, 1) := by decide +kernel
theorem dX12_takeSign_55 : decode cX12_takeSign 55 = .ok (.getfield 136, 3) := by decide +kernel
theorem dX12_takeSign_58 : decode cX12_takeSign 58 = .ok (.if_icmp .ge 15, 3) := by decide +kernel
theorem dX12_takeSign_61 : decode cX12_takeSign 61 = .ok (.aload_n 0, 1) := by decide +kernel
theorem dX12_takeSign_62 : decode cX12_takeSign 62 = .ok (.getfield 7, 3) := by decide +kernel
theorem dX12_takeSign_65 : decode cX12_takeSign 65 = .ok (.aload_n 0, 1) := by decide +kernel
theorem dX12_takeSign_66 : decode cX12_takeSign 66 = .ok (.getfield 139, 3) := by decide +kernel
theorem dX12_takeSign_69 : decode cX12_takeSign 69 = .ok (.iaload, 1) := by decide +kernel
theorem dX12_takeSign_70 : decode cX12_takeSign 70 = .ok (.goto 4, 3) := by decide +kernel
theorem dX12_takeSign_73 : decode cX12_takeSign 73 = .ok (.iconst 0, 1) := by decide +kernel
theorem dX12_takeSign_74 : decode cX12_takeSign 74 = .ok (.istore_n 1, 1) := by decide +kernel
theorem dX12_takeSign_75 : decode cX12_takeSign 75 = .ok (.aload_n 0, 1) := by decide +kernel
theorem dX12_takeSign_76 : decode cX12_takeSign 76 = .ok (.getfield 153, 3) := by decide +kernel
theorem dX12_takeSign_79 : decode cX12_takeSign 79 = .ok (.bipush 61, 2) := by decide +kernel
theorem dX12_takeSign_81 : decode cX12_takeSign 81 = .ok (.if_icmp .eq 13, 3) := by decide +kernel
theorem dX12_takeSign_84 : decode cX12_takeSign 84 = .ok (.iload_n 1, 1) := by decide +kernel
theorem dX12_takeSign_85 : decode cX12_takeSign 85 = .ok (.bipush 61, 2) := by decide +kernel
theorem dX12_takeSign_87 : decode cX12_takeSign 87 = .ok (.if_icmp .ne 7, 3) := by decide +kernel
theorem dX12_takeSign_90 : decode cX12_takeSign 90 = .ok (.iconst 1, 1) := by decide +kernel
theorem dX12_takeSign_91 : decode cX12_takeSign 91 = .ok (.goto 4, 3) := by decide +kernel
theorem dX12_takeSign_94 : decode cX12_takeSign 94 = .ok (.iconst 0, 1) := by decide +kernel
theorem dX12_takeSign_95 : decode cX12_takeSign 95 = .ok (.istore_n 2, 1) := by decide +kernel
theorem dX12_takeSign_96 : decode cX12_takeSign 96 = .ok (.aload_n 0, 1) := by decide +kernel
theorem dX12_takeSign_97 : decode cX12_takeSign 97 = .ok (.getfield 153, 3) := by decide +kernel
theorem dX12_takeSign_100 : decode cX12_takeSign 100 = .ok (.bipush 60, 2) := by decide +kernel
theorem dX12_takeSign_102 : decode cX12_takeSign 102 = .ok (.if_icmp .ne 13, 3) := by decide +kernel
theorem dX12_takeSign_105 : decode cX12_takeSign 105 = .ok (.iload_n 1, 1) := by decide +kernel
theorem dX12_takeSign_106 : decode cX12_takeSign 106 = .ok (.bipush 62, 2) := by decide +kernel
theorem dX12_takeSign_108 : decode cX12_takeSign 108 = .ok (.if_icmp .ne 7, 3) := by decide +kernel
theorem dX12_takeSign_111 : decode cX12_takeSign 111 = .ok (.iconst 1, 1) := by decide +kernel
theorem dX12_takeSign_112 : decode cX12_takeSign 112 = .ok (.goto 4, 3) := by decide +kernel
theorem dX12_takeSign_115 : decode cX12_takeSign 115 = .ok (.iconst 0, 1) := by decide +kernel
theorem dX12_takeSign_116 : decode cX12_takeSign 116 = .ok (.istore_n 3, 1) := by decide +kernel
theorem dX12_takeSign_117 : decode cX12_takeSign 117 = .ok (.iload_n 2, 1) := by decide +kernel
theorem dX12_takeSign_118 : decode cX12_takeSign 118 = .ok (.ifCond .ne 7, 3) := by decide +kernel
theorem dX12_takeSign_121 : decode cX12_takeSign 121 = .ok (.iload_n 3, 1) := by decide +kernel
theorem dX12_takeSign_122 : decode cX12_takeSign 122 = .ok (.ifCond .eq 13, 3) := by decide +kernel
theorem dX12_takeSign_125 : decode cX12_takeSign 125 = .ok (.aload_n 0, 1) := by decide +kernel
theorem dX12_takeSign_126 : decode cX12_takeSign 126 = .ok (.dup, 1) := by decide +kernel
theorem dX12_takeSign_127 : decode cX12_takeSign 127 = .ok (.getfield 139, 3) := by decide +kernel
theorem dX12_takeSign_130 : decode cX12_takeSign 130 = .ok (.iconst 1, 1) := by decide +kernel
theorem dX12_takeSign_131 : decode cX12_takeSign 131 = .ok (.iadd, 1) := by decide +kernel
theorem dX12_takeSign_132 : decode cX12_takeSign 132 = .ok (.putfield 139, 3) := by decide +kernel
theorem dX12_takeSign_135 : decode cX12_takeSign 135 = .ok (.aload_n 0, 1) := by decide +kernel
theorem dX12_takeSign_136 : decode cX12_takeSign 136 = .ok (.iconst 5, 1) := by decide +kernel
theorem dX12_takeSign_137 : decode cX12_takeSign 137 = .ok (.putfield 142, 3) := by decide +kernel
theorem dX12_takeSign_140 : decode cX12_takeSign 140 = .ok (.aload_n 0, 1) := by decide +kernel
theorem dX12_takeSign_141 : decode cX12_takeSign 141 = .ok (.aload_n 0, 1) := by decide +kernel
theorem dX12_takeSign_142 : decode cX12_takeSign 142 = .ok (.getfield 153, 3) := by decide +kernel
theorem dX12_takeSign_145 : decode cX12_takeSign 145 = .ok (.bipush 61, 2) := by decide +kernel
theorem dX12_takeSign_147 : decode cX12_takeSign 147 = .ok (.if_icmp .ne 7, 3) := by decide +kernel
theorem dX12_takeSign_150 : decode cX12_takeSign 150 = .ok (.iconst 2, 1) := by decide +kernel
theorem dX12_takeSign_151 : decode cX12_takeSign 151 = .ok (.goto 41, 3) := by decide +kernel
theorem dX12_takeSign_154 : decode cX12_takeSign 154 = .ok (.aload_n 0, 1) := by decide +kernel
theorem dX12_takeSign_155 : decode cX12_takeSign 155 = .ok (.getfield 153, 3) := by decide +kernel
theorem dX12_takeSign_158 : decode cX12_takeSign 158 = .ok (.bipush 60, 2) := by decide +kernel
theorem dX12_takeSign_160 : decode cX12_takeSign 160 = .ok (.if_icmp .ne 23, 3) := by decide +kernel
theorem dX12_takeSign_163 : decode cX12_takeSign 163 = .ok (.iload_n 2, 1) := by decide +kernel
theorem dX12_takeSign_164 : decode cX12_takeSign 164 = .ok (.ifCond .eq 7, 3) := by decide +kernel
theorem dX12_takeSign_167 : decode cX12_takeSign 167 = .ok (.iconst 1, 1) := by decide +kernel
theorem dX12_takeSign_168 : decode cX12_takeSign 168 = .ok (.goto 24, 3) := by decide +kernel
theorem dX12_takeSign_171 : decode cX12_takeSign 171 = .ok (.iload_n 3, 1) := by decide +kernel
theorem dX12_takeSign_172 : decode cX12_takeSign 172 = .ok (.ifCond .eq 7, 3) := by decide +kernel
theorem dX12_takeSign_175 : decode cX12_takeSign 175 = .ok (.iconst 3, 1) := by decide +kernel
theorem dX12_takeSign_176 : decode cX12_takeSign 176 = .ok (.goto 16, 3) := by decide +kernel
theorem dX12_takeSign_179 : decode cX12_takeSign 179 = .ok (.iconst 0, 1) := by decide +kernel
theorem dX12_takeSign_180 : decode cX12_takeSign 180 = .ok (.goto 12, 3) := by decide +kernel
theorem dX12_takeSign_183 : decode cX12_takeSign 183 = .ok (.iload_n 2, 1) := by decide +kernel
theorem dX12_takeSign_184 : decode cX12_takeSign 184 = .ok (.ifCond .eq 7, 3) := by decide +kernel
theorem dX12_takeSign_187 : decode cX12_takeSign 187 = .ok (.iconst 4, 1) := by decide +kernel
theorem dX12_takeSign_188 : decode cX12_takeSign 188 = .ok (.goto 4, 3) := by decide +kernel
theorem dX12_takeSign_191 : decode cX12_takeSign 191 = .ok (.iconst 5, 1) := by decide +kernel
theorem dX12_takeSign_192 : decode cX12_takeSign 192 = .ok (.putfield 153, 3) := by decide +kernel
theorem dX12_takeSign_195 : decode cX12_takeSign 195 = .ok (.goto 86, 3) := by decide +kernel
theorem dX12_takeSign_198 : decode cX12_takeSign 198 = .ok (.aload_n 0, 1) := by decide +kernel
theorem dX12_takeSign_199 : decode cX12_takeSign 199 = .ok (.getfield 153, 3) := by decide +kernel
theorem dX12_takeSign_202 : decode cX12_takeSign 202 = .ok (.bipush 59, 2) := by decide +kernel
theorem dX12_takeSign_204 : decode cX12_takeSign 204 = .ok (.if_icmp .eq 57, 3) := by decide +kernel
theorem dX12_takeSign_207 : decode cX12_takeSign 207 = .ok (.aload_n 0, 1) := by decide +kernel
theorem dX12_takeSign_208 : decode cX12_takeSign 208 = .ok (.getfield 153, 3) := by decide +kernel
theorem dX12_takeSign_211 : decode cX12_takeSign 211 = .ok (.bipush 40, 2) := by decide +kernel
theorem dX12_takeSign_213 : decode cX12_takeSign 213 = .ok (.if_icmp .eq 48, 3) := by decide +kernel
theorem dX12_takeSign_216 : decode cX12_takeSign 216 = .ok (.aload_n 0, 1) := by decide +kernel
theorem dX12_takeSign_217 : decode cX12_takeSign 217 = .ok (.getfield 153, 3) := by decide +kernel
theorem dX12_takeSign_220 : decode cX12_takeSign 220 = .ok (.bipush 41, 2) := by decide +kernel
theorem dX12_takeSign_222 : decode cX12_takeSign 222 = .ok (.if_icmp .eq 39, 3) := by decide +kernel
theorem dX12_takeSign_225 : decode cX12_takeSign 225 = .ok (.aload_n 0, 1) := by decide +kernel
theorem dX12_takeSign_226 : decode cX12_takeSign 226 = .ok (.getfield 153, 3) := by decide +kernel
theorem dX12_takeSign_229 : decode cX12_takeSign 229 = .ok (.bipush 43, 2) := by decide +kernel
theorem dX12_takeSign_231 : decode cX12_takeSign 231 = .ok (.if_icmp .eq 30, 3) := by decide +kernel
theorem dX12_takeSign_234 : decode cX12_takeSign 234 = .ok (.aload_n 0, 1) := by decide +kernel
theorem dX12_takeSign_235 : decode cX12_takeSign 235 = .ok (.getfield 153, 3) := by decide +kernel
theorem dX12_takeSign_238 : decode cX12_takeSign 238 = .ok (.bipush 45, 2) := by decide +kernel
theorem dX12_takeSign_240 : decode cX12_takeSign 240 = .ok (.if_icmp .eq 21, 3) := by decide +kernel
theorem dX12_takeSign_243 : decode cX12_takeSign 243 = .ok (.aload_n 0, 1) := by decide +kernel
theorem dX12_takeSign_244 : decode cX12_takeSign 244 = .ok (.getfield 153, 3) := by decide +kernel
theorem dX12_takeSign_247 : decode cX12_takeSign 247 = .ok (.bipush 42, 2) := by decide +kernel
theorem dX12_takeSign_249 : decode cX12_takeSign 249 = .ok (.if_icmp .eq 12, 3) := by decide +kernel
theorem dX12_takeSign_252 : decode cX12_takeSign 252 = .ok (.aload_n 0, 1) := by decide +kernel
theorem dX12_takeSign_253 : decode cX12_takeSign 253 = .ok (.getfield 153, 3) := by decide +kernel
theorem dX12_takeSign_256 : decode cX12_takeSign 256 = .ok (.bipush 47, 2) := by decide +kernel
theorem dX12_takeSign_258 : decode cX12_takeSign 258 = .ok (.if_icmp .ne 7, 3) := by decide +kernel
theorem dX12_takeSign_261 : decode cX12_takeSign 261 = .ok (.iconst 1, 1) := by decide +kernel
theorem dX12_takeSign_262 : decode cX12_takeSign 262 = .ok (.goto 4, 3) := by decide +kernel
theorem dX12_takeSign_265 : decode cX12_takeSign 265 = .ok (.iconst 0, 1) := by decide +kernel
theorem dX12_takeSign_266 : decode cX12_takeSign 266 = .ok (.istore_n 1, 1) := by decide +kernel
theorem dX12_takeSign_267 : decode cX12_takeSign 267 = .ok (.aload_n 0, 1) := by decide +kernel
theorem dX12_takeSign_268 : decode cX12_takeSign 268 = .ok (.iload_n 1, 1) := by decide +kernel
theorem dX12_takeSign_269 : decode cX12_takeSign 269 = .ok (.ifCond .eq 7, 3) := by decide +kernel
theorem dX12_takeSign_272 : decode cX12_takeSign 272 = .ok (.iconst 4, 1) := by decide +kernel
theorem dX12_takeSign_273 : decode cX12_takeSign 273 = .ok (.goto 5, 3) := by decide +kernel
theorem dX12_takeSign_276 : decode cX12_takeSign 276 = .ok (.bipush 6, 2) := by decide +kernel
theorem dX12_takeSign_278 : decode cX12_takeSign 278 = .ok (.putfield 142, 3) := by decide +kernel
theorem dX12_takeSign_281 : decode cX12_takeSign 281 = .ok (.return_, 1) := by decide +kernel
theorem dX12_packed_0 : decode cX12_packed 0 = .ok (.iconst 0, 1) := by decide +kernel
theorem dX12_packed_1 : decode cX12_packed 1 = .ok (.istore_n 3, 1) := by decide +kernel
theorem dX12_packed_2 : decode cX12_packed 2 = .ok (.iload_n 1, 1) := by decide +kernel
theorem dX12_packed_3 : decode cX12_packed 3 = .ok (.istore 4, 2) := by decide +kernel
theorem dX12_packed_5 : decode cX12_packed 5 = .ok (.iload 4, 2) := by decide +kernel
theorem dX12_packed_7 : decode cX12_packed 7 = .ok (.iload_n 1, 1) := by decide +kernel
theorem dX12_packed_8 : decode cX12_packed 8 = .ok (.bipush 6, 2) := by decide +kernel
theorem dX12_packed_10 : decode cX12_packed 10 = .ok (.iadd, 1) := by decide +kernel
theorem dX12_packed_11 : decode cX12_packed 11 = .ok (.if_icmp .ge 34, 3) := by decide +kernel
theorem dX12_packed_14 : decode cX12_packed 14 = .ok (.iload_n 3, 1) := by decide +kernel
theorem dX12_packed_15 : decode cX12_packed 15 = .ok (.iconst 5, 1) := by decide +kernel
theorem dX12_packed_16 : decode cX12_packed 16 = .ok (.ishl, 1) := by decide +kernel
theorem dX12_packed_17 : decode cX12_packed 17 = .ok (.iload 4, 2) := by decide +kernel
theorem dX12_packed_19 : decode cX12_packed 19 = .ok (.iload_n 2, 1) := by decide +kernel
theorem dX12_packed_20 : decode cX12_packed 20 = .ok (.if_icmp .ge 16, 3) := by decide +kernel
theorem dX12_packed_23 : decode cX12_packed 23 = .ok (.aload_n 0, 1) := by decide +kernel
theorem dX12_packed_24 : decode cX12_packed 24 = .ok (.getfield 7, 3) := by decide +kernel
theorem dX12_packed_27 : decode cX12_packed 27 = .ok (.iload 4, 2) := by decide +kernel
theorem dX12_packed_29 : decode cX12_packed 29 = .ok (.iaload, 1) := by decide +kernel
theorem dX12_packed_30 : decode cX12_packed 30 = .ok (.bipush 96, 2) := by decide +kernel
theorem dX12_packed_32 : decode cX12_packed 32 = .ok (.isub, 1) := by decide +kernel
theorem dX12_packed_33 : decode cX12_packed 33 = .ok (.goto 4, 3) := by decide +kernel
theorem dX12_packed_36 : decode cX12_packed 36 = .ok (.iconst 0, 1) := by decide +kernel
theorem dX12_packed_37 : decode cX12_packed 37 = .ok (.ior, 1) := by decide +kernel
theorem dX12_packed_38 : decode cX12_packed 38 = .ok (.istore_n 3, 1) := by decide +kernel
theorem dX12_packed_39 : decode cX12_packed 39 = .ok (.iinc 4 1, 3) := by decide +kernel
theorem dX12_packed_42 : decode cX12_packed 42 = .ok (.goto (-37), 3) := by decide +kernel
theorem dX12_packed_45 : decode cX12_packed 45 = .ok (.iload_n 3, 1) := by decide +kernel
theorem dX12_packed_46 : decode cX12_packed 46 = .ok (.ireturn, 1) := by decide +kernel
theorem dX12_isKey_0 : decode cX12_isKey 0 = .ok (.aload_n 0, 1) := by decide +kernel
theorem dX12_isKey_1 : decode cX12_isKey 1 = .ok (.getfield 142, 3) := by decide +kernel
theorem dX12_isKey_4 : decode cX12_isKey 4 = .ok (.iconst 1, 1) := by decide +kernel
theorem dX12_isKey_5 : decode cX12_isKey 5 = .ok (.if_icmp .ne 15, 3) := by decide +kernel
theorem dX12_isKey_8 : decode cX12_isKey 8 = .ok (.aload_n 0, 1) := by decide +kernel
theorem dX12_isKey_9 : decode cX12_isKey 9 = .ok (.getfield 153, 3) := by decide +kernel
theorem dX12_isKey_12 : decode cX12_isKey 12 = .ok (.iload_n 1, 1) := by decide +kernel
theorem dX12_isKey_13 : decode cX12_isKey 13 = .ok (.if_icmp .ne 7, 3) := by decide +kernel
theorem dX12_isKey_16 : decode cX12_isKey 16 = .ok (.iconst 1, 1) := by decide +kernel
theorem dX12_isKey_17 : decode cX12_isKey 17 = .ok (.goto 4, 3) := by decide +kernel
theorem dX12_isKey_20 : decode cX12_isKey 20 = .ok (.iconst 0, 1) := by decide +kernel
theorem dX12_isKey_21 : decode cX12_isKey 21 = .ok (.ireturn, 1) := by decide +kernel
theorem dX12_isSign_0 : decode cX12_isSign 0 = .ok (.aload_n 0, 1) := by decide +kernel
theorem dX12_isSign_1 : decode cX12_isSign 1 = .ok (.getfield 142, 3) := by decide +kernel
theorem dX12_isSign_4 : decode cX12_isSign 4 = .ok (.iconst 4, 1) := by decide +kernel
theorem dX12_isSign_5 : decode cX12_isSign 5 = .ok (.if_icmp .ne 15, 3) := by decide +kernel
theorem dX12_isSign_8 : decode cX12_isSign 8 = .ok (.aload_n 0, 1) := by decide +kernel
theorem dX12_isSign_9 : decode cX12_isSign 9 = .ok (.getfield 153, 3) := by decide +kernel
theorem dX12_isSign_12 : decode cX12_isSign 12 = .ok (.iload_n 1, 1) := by decide +kernel
theorem dX12_isSign_13 : decode cX12_isSign 13 = .ok (.if_icmp .ne 7, 3) := by decide +kernel
theorem dX12_isSign_16 : decode cX12_isSign 16 = .ok (.iconst 1, 1) := by decide +kernel
theorem dX12_isSign_17 : decode cX12_isSign 17 = .ok (.goto 4, 3) := by decide +kernel
theorem dX12_isSign_20 : decode cX12_isSign 20 = .ok (.iconst 0, 1) := by decide +kernel
theorem dX12_isSign_21 : decode cX12_isSign 21 = .ok (.ireturn, 1) := by decide +kernel
theorem dX12_keyRead_0 : decode cX12_keyRead 0 = .ok (.aload_n 0, 1) := by decide +kernel
theorem dX12_keyRead_1 : decode cX12_keyRead 1 = .ok (.iload_n 1, 1) := by decide +kernel
theorem dX12_keyRead_2 : decode cX12_keyRead 2 = .ok (.invokevirtual 165, 3) := by decide +kernel
theorem dX12_keyRead_5 : decode cX12_keyRead 5 = .ok (.ifCond .ne 9, 3) := by decide +kernel
theorem dX12_keyRead_8 : decode cX12_keyRead 8 = .ok (.aload_n 0, 1) := by decide +kernel
theorem dX12_keyRead_9 : decode cX12_keyRead 9 = .ok (.iconst 1, 1) := by decide +kernel
theorem dX12_keyRead_10 : decode cX12_keyRead 10 = .ok (.invokevirtual 168, 3) := by decide +kernel
theorem dX12_keyRead_13 : decode cX12_keyRead 13 = .ok (.ireturn, 1) := by decide +kernel
theorem dX12_keyRead_14 : decode cX12_keyRead 14 = .ok (.aload_n 0, 1) := by decide +kernel
theorem dX12_keyRead_15 : decode cX12_keyRead 15 = .ok (.invokevirtual 171, 3) := by decide +kernel
theorem dX12_keyRead_18 : decode cX12_keyRead 18 = .ok (.iconst 1, 1) := by decide +kernel
theorem dX12_keyRead_19 : decode cX12_keyRead 19 = .ok (.ireturn, 1) := by decide +kernel
theorem dX12_numberRead_0 : decode cX12_numberRead 0 = .ok (.aload_n 0, 1) := by decide +kernel
theorem dX12_numberRead_1 : decode cX12_numberRead 1 = .ok (.getfield 142, 3) := by decide +kernel
theorem dX12_numberRead_4 : decode cX12_numberRead 4 = .ok (.iconst 3, 1) := by decide +kernel
theorem dX12_numberRead_5 : decode cX12_numberRead 5 = .ok (.if_icmp .eq 9, 3) := by decide +kernel
theorem dX12_numberRead_8 : decode cX12_numberRead 8 = .ok (.aload_n 0, 1) := by decide +kernel
theorem dX12_numberRead_9 : decode cX12_numberRead 9 = .ok (.iconst 1, 1) := by decide +kernel
theorem dX12_numberRead_10 : decode cX12_numberRead 10 = .ok (.invokevirtual 168, 3) := by decide +kernel
theorem dX12_numberRead_13 : decode cX12_numberRead 13 = .ok (.ireturn, 1) := by decide +kernel
theorem dX12_numberRead_14 : decode cX12_numberRead 14 = .ok (.aload_n 0, 1) := by decide +kernel
theorem dX12_numberRead_15 : decode cX12_numberRead 15 = .ok (.getfield 153, 3) := by decide +kernel
theorem dX12_numberRead_18 : decode cX12_numberRead 18 = .ok (.iload_n 1, 1) := by decide +kernel
theorem dX12_numberRead_19 : decode cX12_numberRead 19 = .ok (.if_icmp .lt 11, 3) := by decide +kernel
theorem dX12_numberRead_22 : decode cX12_numberRead 22 = .ok (.aload_n 0, 1) := by decide +kernel
theorem dX12_numberRead_23 : decode cX12_numberRead 23 = .ok (.getfield 153, 3) := by decide +kernel
theorem dX12_numberRead_26 : decode cX12_numberRead 26 = .ok (.iload_n 2, 1) := by decide +kernel
theorem dX12_numberRead_27 : decode cX12_numberRead 27 = .ok (.if_icmp .le 11, 3) := by decide +kernel
theorem dX12_numberRead_30 : decode cX12_numberRead 30 = .ok (.aload_n 0, 1) := by decide +kernel
theorem dX12_numberRead_31 : decode cX12_numberRead 31 = .ok (.iconst 2, 1) := by decide +kernel
theorem dX12_numberRead_32 : decode cX12_numberRead 32 = .ok (.invokevirtual 168, 3) := by decide +kernel
theorem dX12_numberRead_35 : decode cX12_numberRead 35 = .ok (.ifCond .eq 7, 3) := by decide +kernel
theorem dX12_numberRead_38 : decode cX12_numberRead 38 = .ok (.iconst 1, 1) := by decide +kernel
theorem dX12_numberRead_39 : decode cX12_numberRead 39 = .ok (.goto 4, 3) := by decide +kernel
theorem dX12_numberRead_42 : decode cX12_numberRead 42 = .ok (.iconst 0, 1) := by decide +kernel
theorem dX12_numberRead_43 : decode cX12_numberRead 43 = .ok (.ireturn, 1) := by decide +kernel
theorem dX12_plain_0 : decode cX12_plain 0 = .ok (.aload_n 0, 1) := by decide +kernel
theorem dX12_plain_1 : decode cX12_plain 1 = .ok (.iconst 0, 1) := by decide +kernel
theorem dX12_plain_2 : decode cX12_plain 2 = .ok (.putfield 174, 3) := by decide +kernel
theorem dX12_plain_5 : decode cX12_plain 5 = .ok (.aload_n 0, 1) := by decide +kernel
theorem dX12_plain_6 : decode cX12_plain 6 = .ok (.iconst 0, 1) := by decide +kernel
theorem dX12_plain_7 : decode cX12_plain 7 = .ok (.putfield 177, 3) := by decide +kernel
theorem dX12_plain_10 : decode cX12_plain 10 = .ok (.aload_n 0, 1) := by decide +kernel
theorem dX12_plain_11 : decode cX12_plain 11 = .ok (.iconst 0, 1) := by decide +kernel
theorem dX12_plain_12 : decode cX12_plain 12 = .ok (.putfield 180, 3) := by decide +kernel
theorem dX12_plain_15 : decode cX12_plain 15 = .ok (.aload_n 0, 1) := by decide +kernel
theorem dX12_plain_16 : decode cX12_plain 16 = .ok (.iconst 0, 1) := by decide +kernel
theorem dX12_plain_17 : decode cX12_plain 17 = .ok (.putfield 183, 3) := by decide +kernel
theorem dX12_plain_20 : decode cX12_plain 20 = .ok (.aload_n 0, 1) := by decide +kernel
theorem dX12_plain_21 : decode cX12_plain 21 = .ok (.iconst 0, 1) := by decide +kernel
theorem dX12_plain_22 : decode cX12_plain 22 = .ok (.putfield 186, 3) := by decide +kernel
theorem dX12_plain_25 : decode cX12_plain 25 = .ok (.aload_n 0, 1) := by decide +kernel
theorem dX12_plain_26 : decode cX12_plain 26 = .ok (.iconst 0, 1) := by decide +kernel
theorem dX12_plain_27 : decode cX12_plain 27 = .ok (.putfield 189, 3) := by decide +kernel
theorem dX12_plain_30 : decode cX12_plain 30 = .ok (.iconst 3, 1) := by decide +kernel
theorem dX12_plain_31 : decode cX12_plain 31 = .ok (.istore_n 1, 1) := by decide +kernel
theorem dX12_plain_32 : decode cX12_plain 32 = .ok (.iload_n 1, 1) := by decide +kernel
theorem dX12_plain_33 : decode cX12_plain 33 = .ok (.bipush 6, 2) := by decide +kernel
theorem dX12_plain_35 : decode cX12_plain 35 = .ok (.if_icmp .ge 23, 3) := by decide +kernel
theorem dX12_plain_38 : decode cX12_plain 38 = .ok (.aload_n 0, 1) := by decide +kernel
theorem dX12_plain_39 : decode cX12_plain 39 = .ok (.getfield 75, 3) := by decide +kernel
theorem dX12_plain_42 : decode cX12_plain 42 = .ok (.iload_n 1, 1) := by decide +kernel
theorem dX12_plain_43 : decode cX12_plain 43 = .ok (.iconst 0, 1) := by decide +kernel
theorem dX12_plain_44 : decode cX12_plain 44 = .ok (.iastore, 1) := by decide +kernel
theorem dX12_plain_45 : decode cX12_plain 45 = .ok (.aload_n 0, 1) := by decide +kernel
theorem dX12_plain_46 : decode cX12_plain 46 = .ok (.getfield 78, 3) := by decide +kernel
theorem dX12_plain_49 : decode cX12_plain 49 = .ok (.iload_n 1, 1) := by decide +kernel
theorem dX12_plain_50 : decode cX12_plain 50 = .ok (.iconst 0, 1) := by decide +kernel
theorem dX12_plain_51 : decode cX12_plain 51 = .ok (.iastore, 1) := by decide +kernel
theorem dX12_plain_52 : decode cX12_plain 52 = .ok (.iinc 1 1, 3) := by decide +kernel
theorem dX12_plain_55 : decode cX12_plain 55 = .ok (.goto (-23), 3) := by decide +kernel
theorem dX12_plain_58 : decode cX12_plain 58 = .ok (.return_, 1) := by decide +kernel
theorem dX12_keep_0 : decode cX12_keep 0 = .ok (.aload_n 0, 1) := by decide +kernel
theorem dX12_keep_1 : decode cX12_keep 1 = .ok (.aload_n 0, 1) := by decide +kernel
theorem dX12_keep_2 : decode cX12_keep 2 = .ok (.getfield 174, 3) := by decide +kernel
theorem dX12_keep_5 : decode cX12_keep 5 = .ok (.putfield 192, 3) := by decide +kernel
theorem dX12_keep_8 : decode cX12_keep 8 = .ok (.aload_n 0, 1) := by decide +kernel
theorem dX12_keep_9 : decode cX12_keep 9 = .ok (.aload_n 0, 1) := by decide +kernel
theorem dX12_keep_10 : decode cX12_keep 10 = .ok (.getfield 177, 3) := by decide +kernel
theorem dX12_keep_13 : decode cX12_keep 13 = .ok (.putfield 195, 3) := by decide +kernel
theorem dX12_keep_16 : decode cX12_keep 16 = .ok (.aload_n 0, 1) := by decide +kernel
theorem dX12_keep_17 : decode cX12_keep 17 = .ok (.aload_n 0, 1) := by decide +kernel
theorem dX12_keep_18 : decode cX12_keep 18 = .ok (.getfield 180, 3) := by decide +kernel
theorem dX12_keep_21 : decode cX12_keep 21 = .ok (.putfield 198, 3) := by decide +kernel
theorem dX12_keep_24 : decode cX12_keep 24 = .ok (.aload_n 0, 1) := by decide +kernel
theorem dX12_keep_25 : decode cX12_keep 25 = .ok (.aload_n 0, 1) := by decide +kernel
theorem dX12_keep_26 : decode cX12_keep 26 = .ok (.getfield 183, 3) := by decide +kernel
theorem dX12_keep_29 : decode cX12_keep 29 = .ok (.putfield 201, 3) := by decide +kernel
theorem dX12_keep_32 : decode cX12_keep 32 = .ok (.aload_n 0, 1) := by decide +kernel
theorem dX12_keep_33 : decode cX12_keep 33 = .ok (.aload_n 0, 1) := by decide +kernel
theorem dX12_keep_34 : decode cX12_keep 34 = .ok (.getfield 186, 3) := by decide +kernel
theorem dX12_keep_37 : decode cX12_keep 37 = .ok (.putfield 204, 3) := by decide +kernel
theorem dX12_keep_40 : decode cX12_keep 40 = .ok (.iconst 0, 1) := by decide +kernel
theorem dX12_keep_41 : decode cX12_keep 41 = .ok (.istore_n 1, 1) := by decide +kernel
theorem dX12_keep_42 : decode cX12_keep 42 = .ok (.iload_n 1, 1) := by decide +kernel
theorem dX12_keep_43 : decode cX12_keep 43 = .ok (.bipush 8, 2) := by decide +kernel
theorem dX12_keep_45 : decode cX12_keep 45 = .ok (.if_icmp .ge 84, 3) := by decide +kernel
theorem dX12_keep_48 : decode cX12_keep 48 = .ok (.aload_n 0, 1) := by decide +kernel
theorem dX12_keep_49 : decode cX12_keep 49 = .ok (.getfield 20, 3) := by decide +kernel
theorem dX12_keep_52 : decode cX12_keep 52 = .ok (.iload_n 1, 1) := by decide +kernel
theorem dX12_keep_53 : decode cX12_keep 53 = .ok (.aload_n 0, 1) := by decide +kernel
theorem dX12_keep_54 : decode cX12_keep 54 = .ok (.getfield 20, 3) := by decide +kernel
theorem dX12_keep_57 : decode cX12_keep 57 = .ok (.bipush 8, 2) := by decide +kernel
theorem dX12_keep_59 : decode cX12_keep 59 = .ok (.iload_n 1, 1) := by decide +kernel
theorem dX12_keep_60 : decode cX12_keep 60 = .ok (.iadd, 1) := by decide +kernel
theorem dX12_keep_61 : decode cX12_keep 61 = .ok (.iaload, 1) := by decide +kernel
theorem dX12_keep_62 : decode cX12_keep 62 = .ok (.iastore, 1) := by decide +kernel
theorem dX12_keep_63 : decode cX12_keep 63 = .ok (.aload_n 0, 1) := by decide +kernel
theorem dX12_keep_64 : decode cX12_keep 64 = .ok (.getfield 23, 3) := by decide +kernel
theorem dX12_keep_67 : decode cX12_keep 67 = .ok (.iload_n 1, 1) := by decide +kernel
theorem dX12_keep_68 : decode cX12_keep 68 = .ok (.aload_n 0, 1) := by decide +kernel
theorem dX12_keep_69 : decode cX12_keep 69 = .ok (.getfield 23, 3) := by decide +kernel
theorem dX12_keep_72 : decode cX12_keep 72 = .ok (.bipush 8, 2) := by decide +kernel
theorem dX12_keep_74 : decode cX12_keep 74 = .ok (.iload_n 1, 1) := by decide +kernel
theorem dX12_keep_75 : decode cX12_keep 75 = .ok (.iadd, 1) := by decide +kernel
theorem dX12_keep_76 : decode cX12_keep 76 = .ok (.iaload, 1) := by decide +kernel
theorem dX12_keep_77 : decode cX12_keep 77 = .ok (.iastore, 1) := by decide +kernel
theorem dX12_keep_78 : decode cX12_keep 78 = .ok (.aload_n 0, 1) := by decide +kernel
theorem dX12_keep_79 : decode cX12_keep 79 = .ok (.getfield 26, 3) := by decide +kernel
theorem dX12_keep_82 : decode cX12_keep 82 = .ok (.iload_n 1, 1) := by decide +kernel
theorem dX12_keep_83 : decode cX12_keep 83 = .ok (.aload_n 0, 1) := by decide +kernel
theorem dX12_keep_84 : decode cX12_keep 84 = .ok (.getfield 26, 3) := by decide +kernel
theorem dX12_keep_87 : decode cX12_keep 87 = .ok (.bipush 8, 2) := by decide +kernel
theorem dX12_keep_89 : decode cX12_keep 89 = .ok (.iload_n 1, 1) := by decide +kernel
theorem dX12_keep_90 : decode cX12_keep 90 = .ok (.iadd, 1) := by decide +kernel
theorem dX12_keep_91 : decode cX12_keep 91 = .ok (.iaload, 1) := by decide +kernel
theorem dX12_keep_92 : decode cX12_keep 92 = .ok (.iastore, 1) := by decide +kernel
theorem dX12_keep_93 : decode cX12_keep 93 = .ok (.aload_n 0, 1) := by decide +kernel
theorem dX12_keep_94 : decode cX12_keep 94 = .ok (.getfield 29, 3) := by decide +kernel
theorem dX12_keep_97 : decode cX12_keep 97 = .ok (.iload_n 1, 1) := by decide +kernel
theorem dX12_keep_98 : decode cX12_keep 98 = .ok (.aload_n 0, 1) := by decide +kernel
theorem dX12_keep_99 : decode cX12_keep 99 = .ok (.getfield 29, 3) := by decide +kernel
theorem dX12_keep_102 : decode cX12_keep 102 = .ok (.bipush 8, 2) := by decide +kernel
theorem dX12_keep_104 : decode cX12_keep 104 = .ok (.iload_n 1, 1) := by decide +kernel
theorem dX12_keep_105 : decode cX12_keep 105 = .ok (.iadd, 1) := by decide +kernel
theorem dX12_keep_106 : decode cX12_keep 106 = .ok (.iaload, 1) := by decide +kernel
theorem dX12_keep_107 : decode cX12_keep 107 = .ok (.iastore, 1) := by decide +kernel
theorem dX12_keep_108 : decode cX12_keep 108 = .ok (.aload_n 0, 1) := by decide +kernel
theorem dX12_keep_109 : decode cX12_keep 109 = .ok (.getfield 32, 3) := by decide +kernel
theorem dX12_keep_112 : decode cX12_keep 112 = .ok (.iload_n 1, 1) := by decide +kernel
theorem dX12_keep_113 : decode cX12_keep 113 = .ok (.aload_n 0, 1) := by decide +kernel
theorem dX12_keep_114 : decode cX12_keep 114 = .ok (.getfield 32, 3) := by decide +kernel
theorem dX12_keep_117 : decode cX12_keep 117 = .ok (.bipush 8, 2) := by decide +kernel
theorem dX12_keep_119 : decode cX12_keep 119 = .ok (.iload_n 1, 1) := by decide +kernel
theorem dX12_keep_120 : decode cX12_keep 120 = .ok (.iadd, 1) := by decide +kernel
theorem dX12_keep_121 : decode cX12_keep 121 = .ok (.iaload, 1) := by decide +kernel
theorem dX12_keep_122 : decode cX12_keep 122 = .ok (.iastore, 1) := by decide +kernel
theorem dX12_keep_123 : decode cX12_keep 123 = .ok (.iinc 1 1, 3) := by decide +kernel
theorem dX12_keep_126 : decode cX12_keep 126 = .ok (.goto (-84), 3) := by decide +kernel
theorem dX12_keep_129 : decode cX12_keep 129 = .ok (.iconst 0, 1) := by decide +kernel
theorem dX12_keep_130 : decode cX12_keep 130 = .ok (.istore_n 1, 1) := by decide +kernel
theorem dX12_keep_131 : decode cX12_keep 131 = .ok (.iload_n 1, 1) := by decide +kernel
theorem dX12_keep_132 : decode cX12_keep 132 = .ok (.iconst 5, 1) := by decide +kernel
theorem dX12_keep_133 : decode cX12_keep 133 = .ok (.if_icmp .ge 79, 3) := by decide +kernel
theorem dX12_keep_136 : decode cX12_keep 136 = .ok (.aload_n 0, 1) := by decide +kernel
theorem dX12_keep_137 : decode cX12_keep 137 = .ok (.getfield 35, 3) := by decide +kernel
theorem dX12_keep_140 : decode cX12_keep 140 = .ok (.iload_n 1, 1) := by decide +kernel
theorem dX12_keep_141 : decode cX12_keep 141 = .ok (.aload_n 0, 1) := by decide +kernel
theorem dX12_keep_142 : decode cX12_keep 142 = .ok (.getfield 35, 3) := by decide +kernel
theorem dX12_keep_145 : decode cX12_keep 145 = .ok (.iconst 5, 1) := by decide +kernel
theorem dX12_keep_146 : decode cX12_keep 146 = .ok (.iload_n 1, 1) := by decide +kernel
theorem dX12_keep_147 : decode cX12_keep 147 = .ok (.iadd, 1) := by decide +kernel
theorem dX12_keep_148 : decode cX12_keep 148 = .ok (.iaload, 1) := by decide +kernel
theorem dX12_keep_149 : decode cX12_keep 149 = .ok (.iastore, 1) := by decide +kernel
theorem dX12_keep_150 : decode cX12_keep 150 = .ok (.aload_n 0, 1) := by decide +kernel
theorem dX12_keep_151 : decode cX12_keep 151 = .ok (.getfield 38, 3) := by decide +kernel
theorem dX12_keep_154 : decode cX12_keep 154 = .ok (.iload_n 1, 1) := by decide +kernel
theorem dX12_keep_155 : decode cX12_keep 155 = .ok (.aload_n 0, 1) := by decide +kernel
theorem dX12_keep_156 : decode cX12_keep 156 = .ok (.getfield 38, 3) := by decide +kernel
theorem dX12_keep_159 : decode cX12_keep 159 = .ok (.iconst 5, 1) := by decide +kernel
theorem dX12_keep_160 : decode cX12_keep 160 = .ok (.iload_n 1, 1) := by decide +kernel
theorem dX12_keep_161 : decode cX12_keep 161 = .ok (.iadd, 1) := by decide +kernel
theorem dX12_keep_162 : decode cX12_keep 162 = .ok (.iaload, 1) := by decide +kernel
theorem dX12_keep_163 : decode cX12_keep 163 = .ok (.iastore, 1) := by decide +kernel
theorem dX12_keep_164 : decode cX12_keep 164 = .ok (.aload_n 0, 1) := by decide +kernel
theorem dX12_keep_165 : decode cX12_keep 165 = .ok (.getfield 41, 3) := by decide +kernel
theorem dX12_keep_168 : decode cX12_keep 168 = .ok (.iload_n 1, 1) := by decide +kernel
theorem dX12_keep_169 : decode cX12_keep 169 = .ok (.aload_n 0, 1) := by decide +kernel
theorem dX12_keep_170 : decode cX12_keep 170 = .ok (.getfield 41, 3) := by decide +kernel
theorem dX12_keep_173 : decode cX12_keep 173 = .ok (.iconst 5, 1) := by decide +kernel
theorem dX12_keep_174 : decode cX12_keep 174 = .ok (.iload_n 1, 1) := by decide +kernel
theorem dX12_keep_175 : decode cX12_keep 175 = .ok (.iadd, 1) := by decide +kernel
theorem dX12_keep_176 : decode cX12_keep 176 = .ok (.iaload, 1) := by decide +kernel
theorem dX12_keep_177 : decode cX12_keep 177 = .ok (.iastore, 1) := by decide +kernel
theorem dX12_keep_178 : decode cX12_keep 178 = .ok (.aload_n 0, 1) := by decide +kernel
theorem dX12_keep_179 : decode cX12_keep 179 = .ok (.getfield 44, 3) := by decide +kernel
theorem dX12_keep_182 : decode cX12_keep 182 = .ok (.iload_n 1, 1) := by decide +kernel
theorem dX12_keep_183 : decode cX12_keep 183 = .ok (.aload_n 0, 1) := by decide +kernel
theorem dX12_keep_184 : decode cX12_keep 184 = .ok (.getfield 44, 3) := by decide +kernel
theorem dX12_keep_187 : decode cX12_keep 187 = .ok (.iconst 5, 1) := by decide +kernel
theorem dX12_keep_188 : decode cX12_keep 188 = .ok (.iload_n 1, 1) := by decide +kernel
theorem dX12_keep_189 : decode cX12_keep 189 = .ok (.iadd, 1) := by decide +kernel
theorem dX12_keep_190 : decode cX12_keep 190 = .ok (.iaload, 1) := by decide +kernel
theorem dX12_keep_191 : decode cX12_keep 191 = .ok (.iastore, 1) := by decide +kernel
theorem dX12_keep_192 : decode cX12_keep 192 = .ok (.aload_n 0, 1) := by decide +kernel
theorem dX12_keep_193 : decode cX12_keep 193 = .ok (.getfield 47, 3) := by decide +kernel
theorem dX12_keep_196 : decode cX12_keep 196 = .ok (.iload_n 1, 1) := by decide +kernel
theorem dX12_keep_197 : decode cX12_keep 197 = .ok (.aload_n 0, 1) := by decide +kernel
theorem dX12_keep_198 : decode cX12_keep 198 = .ok (.getfield 47, 3) := by decide +kernel
theorem dX12_keep_201 : decode cX12_keep 201 = .ok (.iconst 5, 1) := by decide +kernel
theorem dX12_keep_202 : decode cX12_keep 202 = .ok (.iload_n 1, 1) := by decide +kernel
theorem dX12_keep_203 : decode cX12_keep 203 = .ok (.iadd, 1) := by decide +kernel
theorem dX12_keep_204 : decode cX12_keep 204 = .ok (.iaload, 1) := by decide +kernel
theorem dX12_keep_205 : decode cX12_keep 205 = .ok (.iastore, 1) := by decide +kernel
theorem dX12_keep_206 : decode cX12_keep 206 = .ok (.iinc 1 1, 3) := by decide +kernel
theorem dX12_keep_209 : decode cX12_keep 209 = .ok (.goto (-78), 3) := by decide +kernel
theorem dX12_keep_212 : decode cX12_keep 212 = .ok (.iconst 0, 1) := by decide +kernel
theorem dX12_keep_213 : decode cX12_keep 213 = .ok (.istore_n 1, 1) := by decide +kernel
theorem dX12_keep_214 : decode cX12_keep 214 = .ok (.iload_n 1, 1) := by decide +kernel
theorem dX12_keep_215 : decode cX12_keep 215 = .ok (.bipush 40, 2) := by decide +kernel
theorem dX12_keep_217 : decode cX12_keep 217 = .ok (.if_icmp .ge 18, 3) := by decide +kernel
theorem dX12_keep_220 : decode cX12_keep 220 = .ok (.aload_n 0, 1) := by decide +kernel
theorem dX12_keep_221 : decode cX12_keep 221 = .ok (.bipush 60, 2) := by decide +kernel
theorem dX12_keep_223 : decode cX12_keep 223 = .ok (.iload_n 1, 1) := by decide +kernel
theorem dX12_keep_224 : decode cX12_keep 224 = .ok (.iadd, 1) := by decide +kernel
theorem dX12_keep_225 : decode cX12_keep 225 = .ok (.iload_n 1, 1) := by decide +kernel
theorem dX12_keep_226 : decode cX12_keep 226 = .ok (.invokevirtual 207, 3) := by decide +kernel
theorem dX12_keep_229 : decode cX12_keep 229 = .ok (.iinc 1 1, 3) := by decide +kernel
theorem dX12_keep_232 : decode cX12_keep 232 = .ok (.goto (-18), 3) := by decide +kernel
theorem dX12_keep_235 : decode cX12_keep 235 = .ok (.iconst 0, 1) := by decide +kernel
theorem dX12_keep_236 : decode cX12_keep 236 = .ok (.istore_n 1, 1) := by decide +kernel
theorem dX12_keep_237 : decode cX12_keep 237 = .ok (.iload_n 1, 1) := by decide +kernel
theorem dX12_keep_238 : decode cX12_keep 238 = .ok (.bipush 20, 2) := by decide +kernel
theorem dX12_keep_240 : decode cX12_keep 240 = .ok (.if_icmp .ge 54, 3) := by decide +kernel
theorem dX12_keep_243 : decode cX12_keep 243 = .ok (.aload_n 0, 1) := by decide +kernel
theorem dX12_keep_244 : decode cX12_keep 244 = .ok (.getfield 66, 3) := by decide +kernel
theorem dX12_keep_247 : decode cX12_keep 247 = .ok (.iload_n 1, 1) := by decide +kernel
theorem dX12_keep_248 : decode cX12_keep 248 = .ok (.aload_n 0, 1) := by decide +kernel
theorem dX12_keep_249 : decode cX12_keep 249 = .ok (.getfield 66, 3) := by decide +kernel
theorem dX12_keep_252 : decode cX12_keep 252 = .ok (.bipush 20, 2) := by decide +kernel
theorem dX12_keep_254 : decode cX12_keep 254 = .ok (.iload_n 1, 1) := by decide +kernel
theorem dX12_keep_255 : decode cX12_keep 255 = .ok (.iadd, 1) := by decide +kernel
theorem dX12_keep_256 : decode cX12_keep 256 = .ok (.iaload, 1) := by decide +kernel
theorem dX12_keep_257 : decode cX12_keep 257 = .ok (.iastore, 1) := by decide +kernel
theorem dX12_keep_258 : decode cX12_keep 258 = .ok (.aload_n 0, 1) := by decide +kernel
theorem dX12_keep_259 : decode cX12_keep 259 = .ok (.getfield 69, 3) := by decide +kernel
theorem dX12_keep_262 : decode cX12_keep 262 = .ok (.iload_n 1, 1) := by decide +kernel
theorem dX12_keep_263 : decode cX12_keep 263 = .ok (.aload_n 0, 1) := by decide +kernel
theorem dX12_keep_264 : decode cX12_keep 264 = .ok (.getfield 69, 3) := by decide +kernel
theorem dX12_keep_267 : decode cX12_keep 267 = .ok (.bipush 20, 2) := by decide +kernel
theorem dX12_keep_269 : decode cX12_keep 269 = .ok (.iload_n 1, 1) := by decide +kernel
theorem dX12_keep_270 : decode cX12_keep 270 = .ok (.iadd, 1) := by decide +kernel
theorem dX12_keep_271 : decode cX12_keep 271 = .ok (.iaload, 1) := by decide +kernel
theorem dX12_keep_272 : decode cX12_keep 272 = .ok (.iastore, 1) := by decide +kernel
theorem dX12_keep_273 : decode cX12_keep 273 = .ok (.aload_n 0, 1) := by decide +kernel
theorem dX12_keep_274 : decode cX12_keep 274 = .ok (.getfield 72, 3) := by decide +kernel
theorem dX12_keep_277 : decode cX12_keep 277 = .ok (.iload_n 1, 1) := by decide +kernel
theorem dX12_keep_278 : decode cX12_keep 278 = .ok (.aload_n 0, 1) := by decide +kernel
theorem dX12_keep_279 : decode cX12_keep 279 = .ok (.getfield 72, 3) := by decide +kernel
theorem dX12_keep_282 : decode cX12_keep 282 = .ok (.bipush 20, 2) := by decide +kernel
theorem dX12_keep_284 : decode cX12_keep 284 = .ok (.iload_n 1, 1) := by decide +kernel
theorem dX12_keep_285 : decode cX12_keep 285 = .ok (.iadd, 1) := by decide +kernel
theorem dX12_keep_286 : decode cX12_keep 286 = .ok (.iaload, 1) := by decide +kernel
theorem dX12_keep_287 : decode cX12_keep 287 = .ok (.iastore, 1) := by decide +kernel
theorem dX12_keep_288 : decode cX12_keep 288 = .ok (.iinc 1 1, 3) := by decide +kernel
theorem dX12_keep_291 : decode cX12_keep 291 = .ok (.goto (-54), 3) := by decide +kernel
theorem dX12_keep_294 : decode cX12_keep 294 = .ok (.iconst 0, 1) := by decide +kernel
theorem dX12_keep_295 : decode cX12_keep 295 = .ok (.istore_n 1, 1) := by decide +kernel
theorem dX12_keep_296 : decode cX12_keep 296 = .ok (.iload_n 1, 1) := by decide +kernel
theorem dX12_keep_297 : decode cX12_keep 297 = .ok (.iconst 3, 1) := by decide +kernel
theorem dX12_keep_298 : decode cX12_keep 298 = .ok (.if_icmp .ge 37, 3) := by decide +kernel
theorem dX12_keep_301 : decode cX12_keep 301 = .ok (.aload_n 0, 1) := by decide +kernel
theorem dX12_keep_302 : decode cX12_keep 302 = .ok (.getfield 75, 3) := by decide +kernel
theorem dX12_keep_305 : decode cX12_keep 305 = .ok (.iload_n 1, 1) := by decide +kernel
theorem dX12_keep_306 : decode cX12_keep 306 = .ok (.aload_n 0, 1) := by decide +kernel
theorem dX12_keep_307 : decode cX12_keep 307 = .ok (.getfield 75, 3) := by decide +kernel
theorem dX12_keep_310 : decode cX12_keep 310 = .ok (.iconst 3, 1) := by decide +kernel
theorem dX12_keep_311 : decode cX12_keep 311 = .ok (.iload_n 1, 1) := by decide +kernel
theorem dX12_keep_312 : decode cX12_keep 312 = .ok (.iadd, 1) := by decide +kernel
theorem dX12_keep_313 : decode cX12_keep 313 = .ok (.iaload, 1) := by decide +kernel
theorem dX12_keep_314 : decode cX12_keep 314 = .ok (.iastore, 1) := by decide +kernel
theorem dX12_keep_315 : decode cX12_keep 315 = .ok (.aload_n 0, 1) := by decide +kernel
theorem dX12_keep_316 : decode cX12_keep 316 = .ok (.getfield 78, 3) := by decide +kernel
theorem dX12_keep_319 : decode cX12_keep 319 = .ok (.iload_n 1, 1) := by decide +kernel
theorem dX12_keep_320 : decode cX12_keep 320 = .ok (.aload_n 0, 1) := by decide +kernel
theorem dX12_keep_321 : decode cX12_keep 321 = .ok (.getfield 78, 3) := by decide +kernel
theorem dX12_keep_324 : decode cX12_keep 324 = .ok (.iconst 3, 1) := by decide +kernel
theorem dX12_keep_325 : decode cX12_keep 325 = .ok (.iload_n 1, 1) := by decide +kernel
theorem dX12_keep_326 : decode cX12_keep 326 = .ok (.iadd, 1) := by decide +kernel
theorem dX12_keep_327 : decode cX12_keep 327 = .ok (.iaload, 1) := by decide +kernel
theorem dX12_keep_328 : decode cX12_keep 328 = .ok (.iastore, 1) := by decide +kernel
theorem dX12_keep_329 : decode cX12_keep 329 = .ok (.iinc 1 1, 3) := by decide +kernel
theorem dX12_keep_332 : decode cX12_keep 332 = .ok (.goto (-36), 3) := by decide +kernel
theorem dX12_keep_335 : decode cX12_keep 335 = .ok (.iconst 0, 1) := by decide +kernel
theorem dX12_keep_336 : decode cX12_keep 336 = .ok (.istore_n 1, 1) := by decide +kernel
theorem dX12_keep_337 : decode cX12_keep 337 = .ok (.iload_n 1, 1) := by decide +kernel
theorem dX12_keep_338 : decode cX12_keep 338 = .ok (.bipush 64, 2) := by decide +kernel
theorem dX12_keep_340 : decode cX12_keep 340 = .ok (.if_icmp .ge 54, 3) := by decide +kernel
theorem dX12_keep_343 : decode cX12_keep 343 = .ok (.aload_n 0, 1) := by decide +kernel
theorem dX12_keep_344 : decode cX12_keep 344 = .ok (.getfield 81, 3) := by decide +kernel
theorem dX12_keep_347 : decode cX12_keep 347 = .ok (.iload_n 1, 1) := by decide +kernel
theorem dX12_keep_348 : decode cX12_keep 348 = .ok (.aload_n 0, 1) := by decide +kernel
theorem dX12_keep_349 : decode cX12_keep 349 = .ok (.getfield 81, 3) := by decide +kernel
theorem dX12_keep_352 : decode cX12_keep 352 = .ok (.bipush 64, 2) := by decide +kernel
theorem dX12_keep_354 : decode cX12_keep 354 = .ok (.iload_n 1, 1) := by decide +kernel
theorem dX12_keep_355 : decode cX12_keep 355 = .ok (.iadd, 1) := by decide +kernel
theorem dX12_keep_356 : decode cX12_keep 356 = .ok (.iaload, 1) := by decide +kernel
theorem dX12_keep_357 : decode cX12_keep 357 = .ok (.iastore, 1) := by decide +kernel
theorem dX12_keep_358 : decode cX12_keep 358 = .ok (.aload_n 0, 1) := by decide +kernel
theorem dX12_keep_359 : decode cX12_keep 359 = .ok (.getfield 84, 3) := by decide +kernel
theorem dX12_keep_362 : decode cX12_keep 362 = .ok (.iload_n 1, 1) := by decide +kernel
theorem dX12_keep_363 : decode cX12_keep 363 = .ok (.aload_n 0, 1) := by decide +kernel
theorem dX12_keep_364 : decode cX12_keep 364 = .ok (.getfield 84, 3) := by decide +kernel
theorem dX12_keep_367 : decode cX12_keep 367 = .ok (.bipush 64, 2) := by decide +kernel
theorem dX12_keep_369 : decode cX12_keep 369 = .ok (.iload_n 1, 1) := by decide +kernel
theorem dX12_keep_370 : decode cX12_keep 370 = .ok (.iadd, 1) := by decide +kernel
theorem dX12_keep_371 : decode cX12_keep 371 = .ok (.iaload, 1) := by decide +kernel
theorem dX12_keep_372 : decode cX12_keep 372 = .ok (.iastore, 1) := by decide +kernel
theorem dX12_keep_373 : decode cX12_keep 373 = .ok (.aload_n 0, 1) := by decide +kernel
theorem dX12_keep_374 : decode cX12_keep 374 = .ok (.getfield 87, 3) := by decide +kernel
theorem dX12_keep_377 : decode cX12_keep 377 = .ok (.iload_n 1, 1) := by decide +kernel
theorem dX12_keep_378 : decode cX12_keep 378 = .ok (.aload_n 0, 1) := by decide +kernel
theorem dX12_keep_379 : decode cX12_keep 379 = .ok (.getfield 87, 3) := by decide +kernel
theorem dX12_keep_382 : decode cX12_keep 382 = .ok (.bipush 64, 2) := by decide +kernel
theorem dX12_keep_384 : decode cX12_keep 384 = .ok (.iload_n 1, 1) := by decide +kernel
theorem dX12_keep_385 : decode cX12_keep 385 = .ok (.iadd, 1) := by decide +kernel
theorem dX12_keep_386 : decode cX12_keep 386 = .ok (.iaload, 1) := by decide +kernel
theorem dX12_keep_387 : decode cX12_keep 387 = .ok (.iastore, 1) := by decide +kernel
theorem dX12_keep_388 : decode cX12_keep 388 = .ok (.iinc 1 1, 3) := by decide +kernel
theorem dX12_keep_391 : decode cX12_keep 391 = .ok (.goto (-54), 3) := by decide +kernel
theorem dX12_keep_394 : decode cX12_keep 394 = .ok (.aload_n 0, 1) := by decide +kernel
theorem dX12_keep_395 : decode cX12_keep 395 = .ok (.iconst 0, 1) := by decide +kernel
theorem dX12_keep_396 : decode cX12_keep 396 = .ok (.putfield 211, 3) := by decide +kernel
theorem dX12_keep_399 : decode cX12_keep 399 = .ok (.aload_n 0, 1) := by decide +kernel
theorem dX12_keep_400 : decode cX12_keep 400 = .ok (.sipush 199, 3) := by decide +kernel
theorem dX12_keep_403 : decode cX12_keep 403 = .ok (.putfield 214, 3) := by decide +kernel
theorem dX12_keep_406 : decode cX12_keep 406 = .ok (.aload_n 0, 1) := by decide +kernel
theorem dX12_keep_407 : decode cX12_keep 407 = .ok (.iconst 0, 1) := by decide +kernel
theorem dX12_keep_408 : decode cX12_keep 408 = .ok (.putfield 217, 3) := by decide +kernel
theorem dX12_keep_411 : decode cX12_keep 411 = .ok (.return_, 1) := by decide +kernel
theorem dX12_copies_0 : decode cX12_copies 0 = .ok (.aload_n 0, 1) := by decide +kernel
theorem dX12_copies_1 : decode cX12_copies 1 = .ok (.getfield 50, 3) := by decide +kernel
theorem dX12_copies_4 : decode cX12_copies 4 = .ok (.iload_n 2, 1) := by decide +kernel
theorem dX12_copies_5 : decode cX12_copies 5 = .ok (.aload_n 0, 1) := by decide +kernel
theorem dX12_copies_6 : decode cX12_copies 6 = .ok (.getfield 50, 3) := by decide +kernel
theorem dX12_copies_9 : decode cX12_copies 9 = .ok (.iload_n 1, 1) := by decide +kernel
theorem dX12_copies_10 : decode cX12_copies 10 = .ok (.baload, 1) := by decide +kernel
theorem dX12_copies_11 : decode cX12_copies 11 = .ok (.bastore, 1) := by decide +kernel
theorem dX12_copies_12 : decode cX12_copies 12 = .ok (.aload_n 0, 1) := by decide +kernel
theorem dX12_copies_13 : decode cX12_copies 13 = .ok (.getfield 54, 3) := by decide +kernel
theorem dX12_copies_16 : decode cX12_copies 16 = .ok (.iload_n 2, 1) := by decide +kernel
theorem dX12_copies_17 : decode cX12_copies 17 = .ok (.aload_n 0, 1) := by decide +kernel
theorem dX12_copies_18 : decode cX12_copies 18 = .ok (.getfield 54, 3) := by decide +kernel
theorem dX12_copies_21 : decode cX12_copies 21 = .ok (.iload_n 1, 1) := by decide +kernel
theorem dX12_copies_22 : decode cX12_copies 22 = .ok (.iaload, 1) := by decide +kernel
theorem dX12_copies_23 : decode cX12_copies 23 = .ok (.iastore, 1) := by decide +kernel
theorem dX12_copies_24 : decode cX12_copies 24 = .ok (.aload_n 0, 1) := by decide +kernel
theorem dX12_copies_25 : decode cX12_copies 25 = .ok (.getfield 57, 3) := by decide +kernel
theorem dX12_copies_28 : decode cX12_copies 28 = .ok (.iload_n 2, 1) := by decide +kernel
theorem dX12_copies_29 : decode cX12_copies 29 = .ok (.aload_n 0, 1) := by decide +kernel
theorem dX12_copies_30 : decode cX12_copies 30 = .ok (.getfield 57, 3) := by decide +kernel
theorem dX12_copies_33 : decode cX12_copies 33 = .ok (.iload_n 1, 1) := by decide +kernel
theorem dX12_copies_34 : decode cX12_copies 34 = .ok (.iaload, 1) := by decide +kernel
theorem dX12_copies_35 : decode cX12_copies 35 = .ok (.iastore, 1) := by decide +kernel
theorem dX12_copies_36 : decode cX12_copies 36 = .ok (.aload_n 0, 1) := by decide +kernel
theorem dX12_copies_37 : decode cX12_copies 37 = .ok (.getfield 60, 3) := by decide +kernel
theorem dX12_copies_40 : decode cX12_copies 40 = .ok (.iload_n 2, 1) := by decide +kernel
theorem dX12_copies_41 : decode cX12_copies 41 = .ok (.aload_n 0, 1) := by decide +kernel
theorem dX12_copies_42 : decode cX12_copies 42 = .ok (.getfield 60, 3) := by decide +kernel
theorem dX12_copies_45 : decode cX12_copies 45 = .ok (.iload_n 1, 1) := by decide +kernel
theorem dX12_copies_46 : decode cX12_copies 46 = .ok (.iaload, 1) := by decide +kernel
theorem dX12_copies_47 : decode cX12_copies 47 = .ok (.iastore, 1) := by decide +kernel
theorem dX12_copies_48 : decode cX12_copies 48 = .ok (.aload_n 0, 1) := by decide +kernel
theorem dX12_copies_49 : decode cX12_copies 49 = .ok (.getfield 63, 3) := by decide +kernel
theorem dX12_copies_52 : decode cX12_copies 52 = .ok (.iload_n 2, 1) := by decide +kernel
theorem dX12_copies_53 : decode cX12_copies 53 = .ok (.aload_n 0, 1) := by decide +kernel
theorem dX12_copies_54 : decode cX12_copies 54 = .ok (.getfield 63, 3) := by decide +kernel
theorem dX12_copies_57 : decode cX12_copies 57 = .ok (.iload_n 1, 1) := by decide +kernel
theorem dX12_copies_58 : decode cX12_copies 58 = .ok (.iaload, 1) := by decide +kernel
theorem dX12_copies_59 : decode cX12_copies 59 = .ok (.iastore, 1) := by decide +kernel
theorem dX12_copies_60 : decode cX12_copies 60 = .ok (.return_, 1) := by decide +kernel
theorem dX12_find_0 : decode cX12_find 0 = .ok (.iconst 0, 1) := by decide +kernel
theorem dX12_find_1 : decode cX12_find 1 = .ok (.istore 5, 2) := by decide +kernel
theorem dX12_find_3 : decode cX12_find 3 = .ok (.iload 5, 2) := by decide +kernel
theorem dX12_find_5 : decode cX12_find 5 = .ok (.iload_n 3, 1) := by decide +kernel
theorem dX12_find_6 : decode cX12_find 6 = .ok (.if_icmp .ge 23, 3) := by decide +kernel
theorem dX12_find_9 : decode cX12_find 9 = .ok (.aload_n 1, 1) := by decide +kernel
theorem dX12_find_10 : decode cX12_find 10 = .ok (.iload_n 2, 1) := by decide +kernel
theorem dX12_find_11 : decode cX12_find 11 = .ok (.iload 5, 2) := by decide +kernel
theorem dX12_find_13 : decode cX12_find 13 = .ok (.iadd, 1) := by decide +kernel
theorem dX12_find_14 : decode cX12_find 14 = .ok (.iaload, 1) := by decide +kernel
theorem dX12_find_15 : decode cX12_find 15 = .ok (.iload 4, 2) := by decide +kernel
theorem dX12_find_17 : decode cX12_find 17 = .ok (.if_icmp .ne 6, 3) := by decide +kernel
theorem dX12_find_20 : decode cX12_find 20 = .ok (.iload 5, 2) := by decide +kernel
theorem dX12_find_22 : decode cX12_find 22 = .ok (.ireturn, 1) := by decide +kernel
theorem dX12_find_23 : decode cX12_find 23 = .ok (.iinc 5 1, 3) := by decide +kernel
theorem dX12_find_26 : decode cX12_find 26 = .ok (.goto (-23), 3) := by decide +kernel
theorem dX12_find_29 : decode cX12_find 29 = .ok (.iconst (-1), 1) := by decide +kernel
theorem dX12_find_30 : decode cX12_find 30 = .ok (.ireturn, 1) := by decide +kernel
theorem dX12_newName_0 : decode cX12_newName 0 = .ok (.aload_n 0, 1) := by decide +kernel
theorem dX12_newName_1 : decode cX12_newName 1 = .ok (.getfield 142, 3) := by decide +kernel
theorem dX12_newName_4 : decode cX12_newName 4 = .ok (.iconst 2, 1) := by decide +kernel
theorem dX12_newName_5 : decode cX12_newName 5 = .ok (.if_icmp .eq 9, 3) := by decide +kernel
theorem dX12_newName_8 : decode cX12_newName 8 = .ok (.aload_n 0, 1) := by decide +kernel
theorem dX12_newName_9 : decode cX12_newName 9 = .ok (.iconst 1, 1) := by decide +kernel
theorem dX12_newName_10 : decode cX12_newName 10 = .ok (.invokevirtual 168, 3) := by decide +kernel
theorem dX12_newName_13 : decode cX12_newName 13 = .ok (.ireturn, 1) := by decide +kernel
theorem dX12_newName_14 : decode cX12_newName 14 = .ok (.aload_n 0, 1) := by decide +kernel
theorem dX12_newName_15 : decode cX12_newName 15 = .ok (.aload_n 1, 1) := by decide +kernel
theorem dX12_newName_16 : decode cX12_newName 16 = .ok (.iload_n 2, 1) := by decide +kernel
theorem dX12_newName_17 : decode cX12_newName 17 = .ok (.iload_n 3, 1) := by decide +kernel
theorem dX12_newName_18 : decode cX12_newName 18 = .ok (.aload_n 0, 1) := by decide +kernel
theorem dX12_newName_19 : decode cX12_newName 19 = .ok (.getfield 153, 3) := by decide +kernel
theorem dX12_newName_22 : decode cX12_newName 22 = .ok (.invokevirtual 220, 3) := by decide +kernel
theorem dX12_newName_25 : decode cX12_newName 25 = .ok (.ifCond .lt 11, 3) := by decide +kernel
theorem dX12_newName_28 : decode cX12_newName 28 = .ok (.aload_n 0, 1) := by decide +kernel
theorem dX12_newName_29 : decode cX12_newName 29 = .ok (.iconst 3, 1) := by decide +kernel
theorem dX12_newName_30 : decode cX12_newName 30 = .ok (.invokevirtual 168, 3) := by decide +kernel
theorem dX12_newName_33 : decode cX12_newName 33 = .ok (.ifCond .eq 7, 3) := by decide +kernel
theorem dX12_newName_36 : decode cX12_newName 36 = .ok (.iconst 1, 1) := by decide +kernel
theorem dX12_newName_37 : decode cX12_newName 37 = .ok (.goto 4, 3) := by decide +kernel
theorem dX12_newName_40 : decode cX12_newName 40 = .ok (.iconst 0, 1) := by decide +kernel
theorem dX12_newName_41 : decode cX12_newName 41 = .ok (.ireturn, 1) := by decide +kernel
theorem dX12_thingLine_0 : decode cX12_thingLine 0 = .ok (.aload_n 0, 1) := by decide +kernel
theorem dX12_thingLine_1 : decode cX12_thingLine 1 = .ok (.getfield 174, 3) := by decide +kernel
theorem dX12_thingLine_4 : decode cX12_thingLine 4 = .ok (.bipush 8, 2) := by decide +kernel
theorem dX12_thingLine_6 : decode cX12_thingLine 6 = .ok (.if_icmp .ne 9, 3) := by decide +kernel
theorem dX12_thingLine_9 : decode cX12_thingLine 9 = .ok (.aload_n 0, 1) := by decide +kernel
theorem dX12_thingLine_10 : decode cX12_thingLine 10 = .ok (.iconst 2, 1) := by decide +kernel
theorem dX12_thingLine_11 : decode cX12_thingLine 11 = .ok (.invokevirtual 168, 3) := by decide +kernel
theorem dX12_thingLine_14 : decode cX12_thingLine 14 = .ok (.ireturn, 1) := by decide +kernel
theorem dX12_thingLine_15 : decode cX12_thingLine 15 = .ok (.aload_n 0, 1) := by decide +kernel
theorem dX12_thingLine_16 : decode cX12_thingLine 16 = .ok (.invokevirtual 171, 3) := by decide +kernel
theorem dX12_thingLine_19 : decode cX12_thingLine 19 = .ok (.aload_n 0, 1) := by decide +kernel
theorem dX12_thingLine_20 : decode cX12_thingLine 20 = .ok (.aload_n 0, 1) := by decide +kernel
theorem dX12_thingLine_21 : decode cX12_thingLine 21 = .ok (.getfield 20, 3) := by decide +kernel
theorem dX12_thingLine_24 : decode cX12_thingLine 24 = .ok (.bipush 8, 2) := by decide +kernel
theorem dX12_thingLine_26 : decode cX12_thingLine 26 = .ok (.aload_n 0, 1) := by decide +kernel
theorem dX12_thingLine_27 : decode cX12_thingLine 27 = .ok (.getfield 174, 3) := by decide +kernel
theorem dX12_thingLine_30 : decode cX12_thingLine 30 = .ok (.invokevirtual 224, 3) := by decide +kernel
theorem dX12_thingLine_33 : decode cX12_thingLine 33 = .ok (.ifCond .ne 5, 3) := by decide +kernel
theorem dX12_thingLine_36 : decode cX12_thingLine 36 = .ok (.iconst 0, 1) := by decide +kernel
theorem dX12_thingLine_37 : decode cX12_thingLine 37 = .ok (.ireturn, 1) := by decide +kernel
theorem dX12_thingLine_38 : decode cX12_thingLine 38 = .ok (.bipush 8, 2) := by decide +kernel
theorem dX12_thingLine_40 : decode cX12_thingLine 40 = .ok (.aload_n 0, 1) := by decide +kernel
theorem dX12_thingLine_41 : decode cX12_thingLine 41 = .ok (.getfield 174, 3) := by decide +kernel
theorem dX12_thingLine_44 : decode cX12_thingLine 44 = .ok (.iadd, 1) := by decide +kernel
theorem dX12_thingLine_45 : decode cX12_thingLine 45 = .ok (.istore_n 1, 1) := by decide +kernel
theorem dX12_thingLine_46 : decode cX12_thingLine 46 = .ok (.aload_n 0, 1) := by decide +kernel
theorem dX12_thingLine_47 : decode cX12_thingLine 47 = .ok (.getfield 153, 3) := by decide +kernel
theorem dX12_thingLine_50 : decode cX12_thingLine 50 = .ok (.istore_n 2, 1) := by decide +kernel
theorem dX12_thingLine_51 : decode cX12_thingLine 51 = .ok (.aload_n 0, 1) := by decide +kernel
theorem dX12_thingLine_52 : decode cX12_thingLine 52 = .ok (.invokevirtual 171, 3) := by decide +kernel
theorem dX12_thingLine_55 : decode cX12_thingLine 55 = .ok (.aload_n 0, 1) := by decide +kernel
theorem dX12_thingLine_56 : decode cX12_thingLine 56 = .ok (.iconst 2, 1) := by decide +kernel
theorem dX12_thingLine_57 : decode cX12_thingLine 57 = .ok (.bipush 9, 2) := by decide +kernel
theorem dX12_thingLine_59 : decode cX12_thingLine 59 = .ok (.invokevirtual 228, 3) := by decide +kernel
theorem dX12_thingLine_62 : decode cX12_thingLine 62 = .ok (.ifCond .ne 5, 3) := by decide +kernel
theorem dX12_thingLine_65 : decode cX12_thingLine 65 = .ok (.iconst 0, 1) := by decide +kernel
theorem dX12_thingLine_66 : decode cX12_thingLine 66 = .ok (.ireturn, 1) := by decide +kernel
theorem dX12_thingLine_67 : decode cX12_thingLine 67 = .ok (.aload_n 0, 1) := by decide +kernel
theorem dX12_thingLine_68 : decode cX12_thingLine 68 = .ok (.getfield 23, 3) := by decide +kernel
theorem dX12_thingLine_71 : decode cX12_thingLine 71 = .ok (.iload_n 1, 1) := by decide +kernel
theorem dX12_thingLine_72 : decode cX12_thingLine 72 = .ok (.aload_n 0, 1) := by decide +kernel
theorem dX12_thingLine_73 : decode cX12_thingLine 73 = .ok (.getfield 153, 3) := by decide +kernel
theorem dX12_thingLine_76 : decode cX12_thingLine 76 = .ok (.iastore, 1) := by decide +kernel
theorem dX12_thingLine_77 : decode cX12_thingLine 77 = .ok (.aload_n 0, 1) := by decide +kernel
theorem dX12_thingLine_78 : decode cX12_thingLine 78 = .ok (.invokevirtual 171, 3) := by decide +kernel
theorem dX12_thingLine_81 : decode cX12_thingLine 81 = .ok (.aload_n 0, 1) := by decide +kernel
theorem dX12_thingLine_82 : decode cX12_thingLine 82 = .ok (.bipush 8, 2) := by decide +kernel
theorem dX12_thingLine_84 : decode cX12_thingLine 84 = .ok (.invokevirtual 232, 3) := by decide +kernel
theorem dX12_thingLine_87 : decode cX12_thingLine 87 = .ok (.ifCond .eq 19, 3) := by decide +kernel
theorem dX12_thingLine_90 : decode cX12_thingLine 90 = .ok (.aload_n 0, 1) := by decide +kernel
theorem dX12_thingLine_91 : decode cX12_thingLine 91 = .ok (.iconst 0, 1) := by decide +kernel
theorem dX12_thingLine_92 : decode cX12_thingLine 92 = .ok (.aload_n 0, 1) := by decide +kernel
theorem dX12_thingLine_93 : decode cX12_thingLine 93 = .ok (.getfield 23, 3) := by decide +kernel
theorem dX12_thingLine_96 : decode cX12_thingLine 96 = .ok (.iload_n 1, 1) := by decide +kernel
theorem dX12_thingLine_97 : decode cX12_thingLine 97 = .ok (.iaload, 1) := by decide +kernel
theorem dX12_thingLine_98 : decode cX12_thingLine 98 = .ok (.iconst 1, 1) := by decide +kernel
theorem dX12_thingLine_99 : decode cX12_thingLine 99 = .ok (.isub, 1) := by decide +kernel
theorem dX12_thingLine_100 : decode cX12_thingLine 100 = .ok (.invokevirtual 228, 3) := by decide +kernel
theorem dX12_thingLine_103 : decode cX12_thingLine 103 = .ok (.ifCond .ne 5, 3) := by decide +kernel
theorem dX12_thingLine_106 : decode cX12_thingLine 106 = .ok (.iconst 0, 1) := by decide +kernel
theorem dX12_thingLine_107 : decode cX12_thingLine 107 = .ok (.ireturn, 1) := by decide +kernel
theorem dX12_thingLine_108 : decode cX12_thingLine 108 = .ok (.aload_n 0, 1) := by decide +kernel
theorem dX12_thingLine_109 : decode cX12_thingLine 109 = .ok (.getfield 26, 3) := by decide +kernel
theorem dX12_thingLine_112 : decode cX12_thingLine 112 = .ok (.iload_n 1, 1) := by decide +kernel
theorem dX12_thingLine_113 : decode cX12_thingLine 113 = .ok (.aload_n 0, 1) := by decide +kernel
theorem dX12_thingLine_114 : decode cX12_thingLine 114 = .ok (.getfield 153, 3) := by decide +kernel
theorem dX12_thingLine_117 : decode cX12_thingLine 117 = .ok (.iastore, 1) := by decide +kernel
theorem dX12_thingLine_118 : decode cX12_thingLine 118 = .ok (.aload_n 0, 1) := by decide +kernel
theorem dX12_thingLine_119 : decode cX12_thingLine 119 = .ok (.getfield 29, 3) := by decide +kernel
theorem dX12_thingLine_122 : decode cX12_thingLine 122 = .ok (.iload_n 1, 1) := by decide +kernel
theorem dX12_thingLine_123 : decode cX12_thingLine 123 = .ok (.iconst (-1), 1) := by decide +kernel
theorem dX12_thingLine_124 : decode cX12_thingLine 124 = .ok (.iastore, 1) := by decide +kernel
theorem dX12_thingLine_125 : decode cX12_thingLine 125 = .ok (.aload_n 0, 1) := by decide +kernel
theorem dX12_thingLine_126 : decode cX12_thingLine 126 = .ok (.getfield 32, 3) := by decide +kernel
theorem dX12_thingLine_129 : decode cX12_thingLine 129 = .ok (.iload_n 1, 1) := by decide +kernel
theorem dX12_thingLine_130 : decode cX12_thingLine 130 = .ok (.iconst (-1), 1) := by decide +kernel
theorem dX12_thingLine_131 : decode cX12_thingLine 131 = .ok (.iastore, 1) := by decide +kernel
theorem dX12_thingLine_132 : decode cX12_thingLine 132 = .ok (.aload_n 0, 1) := by decide +kernel
theorem dX12_thingLine_133 : decode cX12_thingLine 133 = .ok (.invokevirtual 171, 3) := by decide +kernel
theorem dX12_thingLine_136 : decode cX12_thingLine 136 = .ok (.aload_n 0, 1) := by decide +kernel
theorem dX12_thingLine_137 : decode cX12_thingLine 137 = .ok (.bipush 9, 2) := by decide +kernel
theorem dX12_thingLine_139 : decode cX12_thingLine 139 = .ok (.invokevirtual 165, 3) := by decide +kernel
theorem dX12_thingLine_142 : decode cX12_thingLine 142 = .ok (.ifCond .ne 12, 3) := by decide +kernel
theorem dX12_thingLine_145 : decode cX12_thingLine 145 = .ok (.aload_n 0, 1) := by decide +kernel
theorem dX12_thingLine_146 : decode cX12_thingLine 146 = .ok (.bipush 10, 2) := by decide +kernel
theorem dX12_thingLine_148 : decode cX12_thingLine 148 = .ok (.invokevirtual 165, 3) := by decide +kernel
theorem dX12_thingLine_151 : decode cX12_thingLine 151 = .ok (.ifCond .eq 97, 3) := by decide +kernel
theorem dX12_thingLine_154 : decode cX12_thingLine 154 = .ok (.aload_n 0, 1) := by decide +kernel
theorem dX12_thingLine_155 : decode cX12_thingLine 155 = .ok (.getfield 153, 3) := by decide +kernel
theorem dX12_thingLine_158 : decode cX12_thingLine 158 = .ok (.bipush 9, 2) := by decide +kernel
theorem dX12_thingLine_160 : decode cX12_thingLine 160 = .ok (.if_icmp .ne 7, 3) := by decide +kernel
theorem dX12_thingLine_163 : decode cX12_thingLine 163 = .ok (.iconst 1, 1) := by decide +kernel
theorem dX12_thingLine_164 : decode cX12_thingLine 164 = .ok (.goto 4, 3) := by decide +kernel
theorem dX12_thingLine_167 : decode cX12_thingLine 167 = .ok (.iconst 0, 1) := by decide +kernel
theorem dX12_thingLine_168 : decode cX12_thingLine 168 = .ok (.istore_n 3, 1) := by decide +kernel
theorem dX12_thingLine_169 : decode cX12_thingLine 169 = .ok (.iload_n 3, 1) := by decide +kernel
theorem dX12_thingLine_170 : decode cX12_thingLine 170 = .ok (.ifCond .eq 12, 3) := by decide +kernel
theorem dX12_thingLine_173 : decode cX12_thingLine 173 = .ok (.aload_n 0, 1) := by decide +kernel
theorem dX12_thingLine_174 : decode cX12_thingLine 174 = .ok (.getfield 29, 3) := by decide +kernel
theorem dX12_thingLine_177 : decode cX12_thingLine 177 = .ok (.iload_n 1, 1) := by decide +kernel
theorem dX12_thingLine_178 : decode cX12_thingLine 178 = .ok (.iaload, 1) := by decide +kernel
theorem dX12_thingLine_179 : decode cX12_thingLine 179 = .ok (.goto 9, 3) := by decide +kernel
theorem dX12_thingLine_182 : decode cX12_thingLine 182 = .ok (.aload_n 0, 1) := by decide +kernel
theorem dX12_thingLine_183 : decode cX12_thingLine 183 = .ok (.getfield 32, 3) := by decide +kernel
theorem dX12_thingLine_186 : decode cX12_thingLine 186 = .ok (.iload_n 1, 1) := by decide +kernel
theorem dX12_thingLine_187 : decode cX12_thingLine 187 = .ok (.iaload, 1) := by decide +kernel
theorem dX12_thingLine_188 : decode cX12_thingLine 188 = .ok (.ifCond .lt 9, 3) := by decide +kernel
theorem dX12_thingLine_191 : decode cX12_thingLine 191 = .ok (.aload_n 0, 1) := by decide +kernel
theorem dX12_thingLine_192 : decode cX12_thingLine 192 = .ok (.iconst 3, 1) := by decide +kernel
theorem dX12_thingLine_193 : decode cX12_thingLine 193 = .ok (.invokevirtual 168, 3) := by decide +kernel
theorem dX12_thingLine_196 : decode cX12_thingLine 196 = .ok (.ireturn, 1) := by decide +kernel
theorem dX12_thingLine_197 : decode cX12_thingLine 197 = .ok (.aload_n 0, 1) := by decide +kernel
theorem dX12_thingLine_198 : decode cX12_thingLine 198 = .ok (.invokevirtual 171, 3) := by decide +kernel
theorem dX12_thingLine_201 : decode cX12_thingLine 201 = .ok (.aload_n 0, 1) := by decide +kernel
theorem dX12_thingLine_202 : decode cX12_thingLine 202 = .ok (.iconst 0, 1) := by decide +kernel
theorem dX12_thingLine_203 : decode cX12_thingLine 203 = .ok (.sipush 199, 3) := by decide +kernel
theorem dX12_thingLine_206 : decode cX12_thingLine 206 = .ok (.invokevirtual 228, 3) := by decide +kernel
theorem dX12_thingLine_209 : decode cX12_thingLine 209 = .ok (.ifCond .ne 5, 3) := by decide +kernel
theorem dX12_thingLine_212 : decode cX12_thingLine 212 = .ok (.iconst 0, 1) := by decide +kernel
theorem dX12_thingLine_213 : decode cX12_thingLine 213 = .ok (.ireturn, 1) := by decide +kernel
theorem dX12_thingLine_214 : decode cX12_thingLine 214 = .ok (.iload_n 3, 1) := by decide +kernel
theorem dX12_thingLine_215 : decode cX12_thingLine 215 = .ok (.ifCond .eq 16, 3) := by decide +kernel
theorem dX12_thingLine_218 : decode cX12_thingLine 218 = .ok (.aload_n 0, 1) := by decide +kernel
theorem dX12_thingLine_219 : decode cX12_thingLine 219 = .ok (.getfield 29, 3) := by decide +kernel
theorem dX12_thingLine_222 : decode cX12_thingLine 222 = .ok (.iload_n 1, 1) := by decide +kernel
theorem dX12_thingLine_223 : decode cX12_thingLine 223 = .ok (.aload_n 0, 1) := by decide +kernel
theorem dX12_thingLine_224 : decode cX12_thingLine 224 = .ok (.getfield 153, 3) := by decide +kernel
theorem dX12_thingLine_227 : decode cX12_thingLine 227 = .ok (.iastore, 1) := by decide +kernel
theorem dX12_thingLine_228 : decode cX12_thingLine 228 = .ok (.goto 13, 3) := by decide +kernel
theorem dX12_thingLine_231 : decode cX12_thingLine 231 = .ok (.aload_n 0, 1) := by decide +kernel
theorem dX12_thingLine_232 : decode cX12_thingLine 232 = .ok (.getfield 32, 3) := by decide +kernel
theorem dX12_thingLine_235 : decode cX12_thingLine 235 = .ok (.iload_n 1, 1) := by decide +kernel
theorem dX12_thingLine_236 : decode cX12_thingLine 236 = .ok (.aload_n 0, 1) := by decide +kernel
theorem dX12_thingLine_237 : decode cX12_thingLine 237 = .ok (.getfield 153, 3) := by decide +kernel
theorem dX12_thingLine_240 : decode cX12_thingLine 240 = .ok (.iastore, 1) := by decide +kernel
theorem dX12_thingLine_241 : decode cX12_thingLine 241 = .ok (.aload_n 0, 1) := by decide +kernel
theorem dX12_thingLine_242 : decode cX12_thingLine 242 = .ok (.invokevirtual 171, 3) := by decide +kernel
theorem dX12_thingLine_245 : decode cX12_thingLine 245 = .ok (.goto (-109), 3) := by decide +kernel
theorem dX12_thingLine_248 : decode cX12_thingLine 248 = .ok (.aload_n 0, 1) := by decide +kernel
theorem dX12_thingLine_249 : decode cX12_thingLine 249 = .ok (.getfield 20, 3) := by decide +kernel
theorem dX12_thingLine_252 : decode cX12_thingLine 252 = .ok (.iload_n 1, 1) := by decide +kernel
theorem dX12_thingLine_253 : decode cX12_thingLine 253 = .ok (.iload_n 2, 1) := by decide +kernel
theorem dX12_thingLine_254 : decode cX12_thingLine 254 = .ok (.iastore, 1) := by decide +kernel
theorem dX12_thingLine_255 : decode cX12_thingLine 255 = .ok (.aload_n 0, 1) := by decide +kernel
theorem dX12_thingLine_256 : decode cX12_thingLine 256 = .ok (.dup, 1) := by decide +kernel
theorem dX12_thingLine_257 : decode cX12_thingLine 257 = .ok (.getfield 174, 3) := by decide +kernel
theorem dX12_thingLine_260 : decode cX12_thingLine 260 = .ok (.iconst 1, 1) := by decide +kernel
theorem dX12_thingLine_261 : decode cX12_thingLine 261 = .ok (.iadd, 1) := by decide +kernel
theorem dX12_thingLine_262 : decode cX12_thingLine 262 = .ok (.putfield 174, 3) := by decide +kernel
theorem dX12_thingLine_265 : decode cX12_thingLine 265 = .ok (.iconst 1, 1) := by decide +kernel
theorem dX12_thingLine_266 : decode cX12_thingLine 266 = .ok (.ireturn, 1) := by decide +kernel
theorem dX12_tellerLine_0 : decode cX12_tellerLine 0 = .ok (.aload_n 0, 1) := by decide +kernel
theorem dX12_tellerLine_1 : decode cX12_tellerLine 1 = .ok (.getfield 177, 3) := by decide +kernel
theorem dX12_tellerLine_4 : decode cX12_tellerLine 4 = .ok (.iconst 5, 1) := by decide +kernel
theorem dX12_tellerLine_5 : decode cX12_tellerLine 5 = .ok (.if_icmp .ne 9, 3) := by decide +kernel
theorem dX12_tellerLine_8 : decode cX12_tellerLine 8 = .ok (.aload_n 0, 1) := by decide +kernel
theorem dX12_tellerLine_9 : decode cX12_tellerLine 9 = .ok (.iconst 2, 1) := by decide +kernel
theorem dX12_tellerLine_10 : decode cX12_tellerLine 10 = .ok (.invokevirtual 168, 3) := by decide +kernel
theorem dX12_tellerLine_13 : decode cX12_tellerLine 13 = .ok (.ireturn, 1) := by decide +kernel
theorem dX12_tellerLine_14 : decode cX12_tellerLine 14 = .ok (.aload_n 0, 1) := by decide +kernel
theorem dX12_tellerLine_15 : decode cX12_tellerLine 15 = .ok (.invokevirtual 171, 3) := by decide +kernel
theorem dX12_tellerLine_18 : decode cX12_tellerLine 18 = .ok (.aload_n 0, 1) := by decide +kernel
theorem dX12_tellerLine_19 : decode cX12_tellerLine 19 = .ok (.aload_n 0, 1) := by decide +kernel
theorem dX12_tellerLine_20 : decode cX12_tellerLine 20 = .ok (.getfield 35, 3) := by decide +kernel
theorem dX12_tellerLine_23 : decode cX12_tellerLine 23 = .ok (.iconst 5, 1) := by decide +kernel
theorem dX12_tellerLine_24 : decode cX12_tellerLine 24 = .ok (.aload_n 0, 1) := by decide +kernel
theorem dX12_tellerLine_25 : decode cX12_tellerLine 25 = .ok (.getfield 177, 3) := by decide +kernel
theorem dX12_tellerLine_28 : decode cX12_tellerLine 28 = .ok (.invokevirtual 224, 3) := by decide +kernel
theorem dX12_tellerLine_31 : decode cX12_tellerLine 31 = .ok (.ifCond .ne 5, 3) := by decide +kernel
theorem dX12_tellerLine_34 : decode cX12_tellerLine 34 = .ok (.iconst 0, 1) := by decide +kernel
theorem dX12_tellerLine_35 : decode cX12_tellerLine 35 = .ok (.ireturn, 1) := by decide +kernel
theorem dX12_tellerLine_36 : decode cX12_tellerLine 36 = .ok (.iconst 5, 1) := by decide +kernel
theorem dX12_tellerLine_37 : decode cX12_tellerLine 37 = .ok (.aload_n 0, 1) := by decide +kernel
theorem dX12_tellerLine_38 : decode cX12_tellerLine 38 = .ok (.getfield 177, 3) := by decide +kernel
theorem dX12_tellerLine_41 : decode cX12_tellerLine 41 = .ok (.iadd, 1) := by decide +kernel
theorem dX12_tellerLine_42 : decode cX12_tellerLine 42 = .ok (.istore_n 1, 1) := by decide +kernel
theorem dX12_tellerLine_43 : decode cX12_tellerLine 43 = .ok (.aload_n 0, 1) := by decide +kernel
theorem dX12_tellerLine_44 : decode cX12_tellerLine 44 = .ok (.getfield 153, 3) := by decide +kernel
theorem dX12_tellerLine_47 : decode cX12_tellerLine 47 = .ok (.istore_n 2, 1) := by decide +kernel
theorem dX12_tellerLine_48 : decode cX12_tellerLine 48 = .ok (.aload_n 0, 1) := by decide +kernel
theorem dX12_tellerLine_49 : decode cX12_tellerLine 49 = .ok (.invokevirtual 171, 3) := by decide +kernel
theorem dX12_tellerLine_52 : decode cX12_tellerLine 52 = .ok (.aload_n 0, 1) := by decide +kernel
theorem dX12_tellerLine_53 : decode cX12_tellerLine 53 = .ok (.iconst 1, 1) := by decide +kernel
theorem dX12_tellerLine_54 : decode cX12_tellerLine 54 = .ok (.bipush 99, 2) := by decide +kernel
theorem dX12_tellerLine_56 : decode cX12_tellerLine 56 = .ok (.invokevirtual 228, 3) := by decide +kernel
theorem dX12_tellerLine_59 : decode cX12_tellerLine 59 = .ok (.ifCond .ne 5, 3) := by decide +kernel
theorem dX12_tellerLine_62 : decode cX12_tellerLine 62 = .ok (.iconst 0, 1) := by decide +kernel
theorem dX12_tellerLine_63 : decode cX12_tellerLine 63 = .ok (.ireturn, 1) := by decide +kernel
theorem dX12_tellerLine_64 : decode cX12_tellerLine 64 = .ok (.aload_n 0, 1) := by decide +kernel
theorem dX12_tellerLine_65 : decode cX12_tellerLine 65 = .ok (.getfield 38, 3) := by decide +kernel
theorem dX12_tellerLine_68 : decode cX12_tellerLine 68 = .ok (.iload_n 1, 1) := by decide +kernel
theorem dX12_tellerLine_69 : decode cX12_tellerLine 69 = .ok (.aload_n 0, 1) := by decide +kernel
theorem dX12_tellerLine_70 : decode cX12_tellerLine 70 = .ok (.getfield 153, 3) := by decide +kernel
theorem dX12_tellerLine_73 : decode cX12_tellerLine 73 = .ok (.iastore, 1) := by decide +kernel
theorem dX12_tellerLine_74 : decode cX12_tellerLine 74 = .ok (.aload_n 0, 1) := by decide +kernel
theorem dX12_tellerLine_75 : decode cX12_tellerLine 75 = .ok (.invokevirtual 171, 3) := by decide +kernel
theorem dX12_tellerLine_78 : decode cX12_tellerLine 78 = .ok (.aload_n 0, 1) := by decide +kernel
theorem dX12_tellerLine_79 : decode cX12_tellerLine 79 = .ok (.bipush 11, 2) := by decide +kernel
theorem dX12_tellerLine_81 : decode cX12_tellerLine 81 = .ok (.invokevirtual 232, 3) := by decide +kernel
theorem dX12_tellerLine_84 : decode cX12_tellerLine 84 = .ok (.ifCond .eq 14, 3) := by decide +kernel
theorem dX12_tellerLine_87 : decode cX12_tellerLine 87 = .ok (.aload_n 0, 1) := by decide +kernel
theorem dX12_tellerLine_88 : decode cX12_tellerLine 88 = .ok (.iconst 0, 1) := by decide +kernel
theorem dX12_tellerLine_89 : decode cX12_tellerLine 89 = .ok (.sipush 199, 3) := by decide +kernel
theorem dX12_tellerLine_92 : decode cX12_tellerLine 92 = .ok (.invokevirtual 228, 3) := by decide +kernel
theorem dX12_tellerLine_95 : decode cX12_tellerLine 95 = .ok (.ifCond .ne 5, 3) := by decide +kernel
theorem dX12_tellerLine_98 : decode cX12_tellerLine 98 = .ok (.iconst 0, 1) := by decide +kernel
theorem dX12_tellerLine_99 : decode cX12_tellerLine 99 = .ok (.ireturn, 1) := by decide +kernel
theorem dX12_tellerLine_100 : decode cX12_tellerLine 100 = .ok (.aload_n 0, 1) := by decide +kernel
theorem dX12_tellerLine_101 : decode cX12_tellerLine 101 = .ok (.getfield 41, 3) := by decide +kernel
theorem dX12_tellerLine_104 : decode cX12_tellerLine 104 = .ok (.iload_n 1, 1) := by decide +kernel
theorem dX12_tellerLine_105 : decode cX12_tellerLine 105 = .ok (.aload_n 0, 1) := by decide +kernel
theorem dX12_tellerLine_106 : decode cX12_tellerLine 106 = .ok (.getfield 153, 3) := by decide +kernel
theorem dX12_tellerLine_109 : decode cX12_tellerLine 109 = .ok (.iastore, 1) := by decide +kernel
theorem dX12_tellerLine_110 : decode cX12_tellerLine 110 = .ok (.aload_n 0, 1) := by decide +kernel
theorem dX12_tellerLine_111 : decode cX12_tellerLine 111 = .ok (.invokevirtual 171, 3) := by decide +kernel
theorem dX12_tellerLine_114 : decode cX12_tellerLine 114 = .ok (.aload_n 0, 1) := by decide +kernel
theorem dX12_tellerLine_115 : decode cX12_tellerLine 115 = .ok (.bipush 12, 2) := by decide +kernel
theorem dX12_tellerLine_117 : decode cX12_tellerLine 117 = .ok (.invokevirtual 232, 3) := by decide +kernel
theorem dX12_tellerLine_120 : decode cX12_tellerLine 120 = .ok (.ifCond .eq 19, 3) := by decide +kernel
theorem dX12_tellerLine_123 : decode cX12_tellerLine 123 = .ok (.aload_n 0, 1) := by decide +kernel
theorem dX12_tellerLine_124 : decode cX12_tellerLine 124 = .ok (.aload_n 0, 1) := by decide +kernel
theorem dX12_tellerLine_125 : decode cX12_tellerLine 125 = .ok (.getfield 41, 3) := by decide +kernel
theorem dX12_tellerLine_128 : decode cX12_tellerLine 128 = .ok (.iload_n 1, 1) := by decide +kernel
theorem dX12_tellerLine_129 : decode cX12_tellerLine 129 = .ok (.iaload, 1) := by decide +kernel
theorem dX12_tellerLine_130 : decode cX12_tellerLine 130 = .ok (.sipush 199, 3) := by decide +kernel
theorem dX12_tellerLine_133 : decode cX12_tellerLine 133 = .ok (.invokevirtual 228, 3) := by decide +kernel
theorem dX12_tellerLine_136 : decode cX12_tellerLine 136 = .ok (.ifCond .ne 5, 3) := by decide +kernel
theorem dX12_tellerLine_139 : decode cX12_tellerLine 139 = .ok (.iconst 0, 1) := by decide +kernel
theorem dX12_tellerLine_140 : decode cX12_tellerLine 140 = .ok (.ireturn, 1) := by decide +kernel
theorem dX12_tellerLine_141 : decode cX12_tellerLine 141 = .ok (.aload_n 0, 1) := by decide +kernel
theorem dX12_tellerLine_142 : decode cX12_tellerLine 142 = .ok (.getfield 44, 3) := by decide +kernel
theorem dX12_tellerLine_145 : decode cX12_tellerLine 145 = .ok (.iload_n 1, 1) := by decide +kernel
theorem dX12_tellerLine_146 : decode cX12_tellerLine 146 = .ok (.aload_n 0, 1) := by decide +kernel
theorem dX12_tellerLine_147 : decode cX12_tellerLine 147 = .ok (.getfield 153, 3) := by decide +kernel
theorem dX12_tellerLine_150 : decode cX12_tellerLine 150 = .ok (.iastore, 1) := by decide +kernel
theorem dX12_tellerLine_151 : decode cX12_tellerLine 151 = .ok (.aload_n 0, 1) := by decide +kernel
theorem dX12_tellerLine_152 : decode cX12_tellerLine 152 = .ok (.getfield 47, 3) := by decide +kernel
theorem dX12_tellerLine_155 : decode cX12_tellerLine 155 = .ok (.iload_n 1, 1) := by decide +kernel
theorem dX12_tellerLine_156 : decode cX12_tellerLine 156 = .ok (.iconst (-1), 1) := by decide +kernel
theorem dX12_tellerLine_157 : decode cX12_tellerLine 157 = .ok (.iastore, 1) := by decide +kernel
theorem dX12_tellerLine_158 : decode cX12_tellerLine 158 = .ok (.aload_n 0, 1) := by decide +kernel
theorem dX12_tellerLine_159 : decode cX12_tellerLine 159 = .ok (.invokevirtual 171, 3) := by decide +kernel
theorem dX12_tellerLine_162 : decode cX12_tellerLine 162 = .ok (.aload_n 0, 1) := by decide +kernel
theorem dX12_tellerLine_163 : decode cX12_tellerLine 163 = .ok (.bipush 13, 2) := by decide +kernel
theorem dX12_tellerLine_165 : decode cX12_tellerLine 165 = .ok (.invokevirtual 165, 3) := by decide +kernel
theorem dX12_tellerLine_168 : decode cX12_tellerLine 168 = .ok (.ifCond .eq 42, 3) := by decide +kernel
theorem dX12_tellerLine_171 : decode cX12_tellerLine 171 = .ok (.aload_n 0, 1) := by decide +kernel
theorem dX12_tellerLine_172 : decode cX12_tellerLine 172 = .ok (.invokevirtual 171, 3) := by decide +kernel
theorem dX12_tellerLine_175 : decode cX12_tellerLine 175 = .ok (.aload_n 0, 1) := by decide +kernel
theorem dX12_tellerLine_176 : decode cX12_tellerLine 176 = .ok (.aload_n 0, 1) := by decide +kernel
theorem dX12_tellerLine_177 : decode cX12_tellerLine 177 = .ok (.getfield 41, 3) := by decide +kernel
theorem dX12_tellerLine_180 : decode cX12_tellerLine 180 = .ok (.iload_n 1, 1) := by decide +kernel
theorem dX12_tellerLine_181 : decode cX12_tellerLine 181 = .ok (.iaload, 1) := by decide +kernel
theorem dX12_tellerLine_182 : decode cX12_tellerLine 182 = .ok (.aload_n 0, 1) := by decide +kernel
theorem dX12_tellerLine_183 : decode cX12_tellerLine 183 = .ok (.getfield 44, 3) := by decide +kernel
theorem dX12_tellerLine_186 : decode cX12_tellerLine 186 = .ok (.iload_n 1, 1) := by decide +kernel
theorem dX12_tellerLine_187 : decode cX12_tellerLine 187 = .ok (.iaload, 1) := by decide +kernel
theorem dX12_tellerLine_188 : decode cX12_tellerLine 188 = .ok (.invokevirtual 228, 3) := by decide +kernel
theorem dX12_tellerLine_191 : decode cX12_tellerLine 191 = .ok (.ifCond .ne 5, 3) := by decide +kernel
theorem dX12_tellerLine_194 : decode cX12_tellerLine 194 = .ok (.iconst 0, 1) := by decide +kernel
theorem dX12_tellerLine_195 : decode cX12_tellerLine 195 = .ok (.ireturn, 1) := by decide +kernel
theorem dX12_tellerLine_196 : decode cX12_tellerLine 196 = .ok (.aload_n 0, 1) := by decide +kernel
theorem dX12_tellerLine_197 : decode cX12_tellerLine 197 = .ok (.getfield 47, 3) := by decide +kernel
theorem dX12_tellerLine_200 : decode cX12_tellerLine 200 = .ok (.iload_n 1, 1) := by decide +kernel
theorem dX12_tellerLine_201 : decode cX12_tellerLine 201 = .ok (.aload_n 0, 1) := by decide +kernel
theorem dX12_tellerLine_202 : decode cX12_tellerLine 202 = .ok (.getfield 153, 3) := by decide +kernel
theorem dX12_tellerLine_205 : decode cX12_tellerLine 205 = .ok (.iastore, 1) := by decide +kernel
theorem dX12_tellerLine_206 : decode cX12_tellerLine 206 = .ok (.aload_n 0, 1) := by decide +kernel
theorem dX12_tellerLine_207 : decode cX12_tellerLine 207 = .ok (.invokevirtual 171, 3) := by decide +kernel
theorem dX12_tellerLine_210 : decode cX12_tellerLine 210 = .ok (.aload_n 0, 1) := by decide +kernel
theorem dX12_tellerLine_211 : decode cX12_tellerLine 211 = .ok (.getfield 35, 3) := by decide +kernel
theorem dX12_tellerLine_214 : decode cX12_tellerLine 214 = .ok (.iload_n 1, 1) := by decide +kernel
theorem dX12_tellerLine_215 : decode cX12_tellerLine 215 = .ok (.iload_n 2, 1) := by decide +kernel
theorem dX12_tellerLine_216 : decode cX12_tellerLine 216 = .ok (.iastore, 1) := by decide +kernel
theorem dX12_tellerLine_217 : decode cX12_tellerLine 217 = .ok (.aload_n 0, 1) := by decide +kernel
theorem dX12_tellerLine_218 : decode cX12_tellerLine 218 = .ok (.dup, 1) := by decide +kernel
theorem dX12_tellerLine_219 : decode cX12_tellerLine 219 = .ok (.getfield 177, 3) := by decide +kernel
theorem dX12_tellerLine_222 : decode cX12_tellerLine 222 = .ok (.iconst 1, 1) := by decide +kernel
theorem dX12_tellerLine_223 : decode cX12_tellerLine 223 = .ok (.iadd, 1) := by decide +kernel
theorem dX12_tellerLine_224 : decode cX12_tellerLine 224 = .ok (.putfield 177, 3) := by decide +kernel
theorem dX12_tellerLine_227 : decode cX12_tellerLine 227 = .ok (.iconst 1, 1) := by decide +kernel
theorem dX12_tellerLine_228 : decode cX12_tellerLine 228 = .ok (.ireturn, 1) := by decide +kernel
theorem dX12_there_0 : decode cX12_there 0 = .ok (.aload_n 0, 1) := by decide +kernel
theorem dX12_there_1 : decode cX12_there 1 = .ok (.getfield 142, 3) := by decide +kernel
theorem dX12_there_4 : decode cX12_there 4 = .ok (.iconst 2, 1) := by decide +kernel
theorem dX12_there_5 : decode cX12_there 5 = .ok (.if_icmp .eq 9, 3) := by decide +kernel
theorem dX12_there_8 : decode cX12_there 8 = .ok (.aload_n 0, 1) := by decide +kernel
theorem dX12_there_9 : decode cX12_there 9 = .ok (.iconst 1, 1) := by decide +kernel
theorem dX12_there_10 : decode cX12_there 10 = .ok (.invokevirtual 168, 3) := by decide +kernel
theorem dX12_there_13 : decode cX12_there 13 = .ok (.ireturn, 1) := by decide +kernel
theorem dX12_there_14 : decode cX12_there 14 = .ok (.aload_n 0, 1) := by decide +kernel
theorem dX12_there_15 : decode cX12_there 15 = .ok (.aload_n 1, 1) := by decide +kernel
theorem dX12_there_16 : decode cX12_there 16 = .ok (.iload_n 2, 1) := by decide +kernel
theorem dX12_there_17 : decode cX12_there 17 = .ok (.iload_n 3, 1) := by decide +kernel
theorem dX12_there_18 : decode cX12_there 18 = .ok (.aload_n 0, 1) := by decide +kernel
theorem dX12_there_19 : decode cX12_there 19 = .ok (.getfield 153, 3) := by decide +kernel
theorem dX12_there_22 : decode cX12_there 22 = .ok (.invokevirtual 220, 3) := by decide +kernel
theorem dX12_there_25 : decode cX12_there 25 = .ok (.ifCond .ge 11, 3) := by decide +kernel
theorem dX12_there_28 : decode cX12_there 28 = .ok (.aload_n 0, 1) := by decide +kernel
theorem dX12_there_29 : decode cX12_there 29 = .ok (.iconst 4, 1) := by decide +kernel
theorem dX12_there_30 : decode cX12_there 30 = .ok (.invokevirtual 168, 3) := by decide +kernel
theorem dX12_there_33 : decode cX12_there 33 = .ok (.ifCond .eq 7, 3) := by decide +kernel
theorem dX12_there_36 : decode cX12_there 36 = .ok (.iconst 1, 1) := by decide +kernel
theorem dX12_there_37 : decode cX12_there 37 = .ok (.goto 4, 3) := by decide +kernel
theorem dX12_there_40 : decode cX12_there 40 = .ok (.iconst 0, 1) := by decide +kernel
theorem dX12_there_41 : decode cX12_there 41 = .ok (.ireturn, 1) := by decide +kernel
theorem dX12_latestHour_0 : decode cX12_latestHour 0 = .ok (.iconst (-1), 1) := by decide +kernel
theorem dX12_latestHour_1 : decode cX12_latestHour 1 = .ok (.istore 4, 2) := by decide +kernel
theorem dX12_latestHour_3 : decode cX12_latestHour 3 = .ok (.iload_n 1, 1) := by decide +kernel
theorem dX12_latestHour_4 : decode cX12_latestHour 4 = .ok (.istore 5, 2) := by decide +kernel
theorem dX12_latestHour_6 : decode cX12_latestHour 6 = .ok (.iload 5, 2) := by decide +kernel
theorem dX12_latestHour_8 : decode cX12_latestHour 8 = .ok (.iload_n 1, 1) := by decide +kernel
theorem dX12_latestHour_9 : decode cX12_latestHour 9 = .ok (.iload_n 2, 1) := by decide +kernel
theorem dX12_latestHour_10 : decode cX12_latestHour 10 = .ok (.iadd, 1) := by decide +kernel
theorem dX12_latestHour_11 : decode cX12_latestHour 11 = .ok (.if_icmp .ge 34, 3) := by decide +kernel
theorem dX12_latestHour_14 : decode cX12_latestHour 14 = .ok (.aload_n 0, 1) := by decide +kernel
theorem dX12_latestHour_15 : decode cX12_latestHour 15 = .ok (.getfield 54, 3) := by decide +kernel
theorem dX12_latestHour_18 : decode cX12_latestHour 18 = .ok (.iload 5, 2) := by decide +kernel
theorem dX12_latestHour_20 : decode cX12_latestHour 20 = .ok (.iaload, 1) := by decide +kernel
theorem dX12_latestHour_21 : decode cX12_latestHour 21 = .ok (.iload_n 3, 1) := by decide +kernel
theorem dX12_latestHour_22 : decode cX12_latestHour 22 = .ok (.if_icmp .ne 13, 3) := by decide +kernel
theorem dX12_latestHour_25 : decode cX12_latestHour 25 = .ok (.aload_n 0, 1) := by decide +kernel
theorem dX12_latestHour_26 : decode cX12_latestHour 26 = .ok (.getfield 57, 3) := by decide +kernel
theorem dX12_latestHour_29 : decode cX12_latestHour 29 = .ok (.iload 5, 2) := by decide +kernel
theorem dX12_latestHour_31 : decode cX12_latestHour 31 = .ok (.iaload, 1) := by decide +kernel
theorem dX12_latestHour_32 : decode cX12_latestHour 32 = .ok (.goto 5, 3) := by decide +kernel
theorem dX12_latestHour_35 : decode cX12_latestHour 35 = .ok (.iload 4, 2) := by decide +kernel
theorem dX12_latestHour_37 : decode cX12_latestHour 37 = .ok (.istore 4, 2) := by decide +kernel
theorem dX12_latestHour_39 : decode cX12_latestHour 39 = .ok (.iinc 5 1, 3) := by decide +kernel
theorem dX12_latestHour_42 : decode cX12_latestHour 42 = .ok (.goto (-36), 3) := by decide +kernel
theorem dX12_latestHour_45 : decode cX12_latestHour 45 = .ok (.iload 4, 2) := by decide +kernel
theorem dX12_latestHour_47 : decode cX12_latestHour 47 = .ok (.ireturn, 1) := by decide +kernel
theorem dX12_talkLine_0 : decode cX12_talkLine 0 = .ok (.aload_n 0, 1) := by decide +kernel
theorem dX12_talkLine_1 : decode cX12_talkLine 1 = .ok (.getfield 180, 3) := by decide +kernel
theorem dX12_talkLine_4 : decode cX12_talkLine 4 = .ok (.bipush 40, 2) := by decide +kernel
theorem dX12_talkLine_6 : decode cX12_talkLine 6 = .ok (.if_icmp .ne 9, 3) := by decide +kernel
theorem dX12_talkLine_9 : decode cX12_talkLine 9 = .ok (.aload_n 0, 1) := by decide +kernel
theorem dX12_talkLine_10 : decode cX12_talkLine 10 = .ok (.iconst 2, 1) := by decide +kernel
theorem dX12_talkLine_11 : decode cX12_talkLine 11 = .ok (.invokevirtual 168, 3) := by decide +kernel
theorem dX12_talkLine_14 : decode cX12_talkLine 14 = .ok (.ireturn, 1) := by decide +kernel
theorem dX12_talkLine_15 : decode cX12_talkLine 15 = .ok (.aload_n 0, 1) := by decide +kernel
theorem dX12_talkLine_16 : decode cX12_talkLine 16 = .ok (.invokevirtual 171, 3) := by decide +kernel
theorem dX12_talkLine_19 : decode cX12_talkLine 19 = .ok (.aload_n 0, 1) := by decide +kernel
theorem dX12_talkLine_20 : decode cX12_talkLine 20 = .ok (.aload_n 0, 1) := by decide +kernel
theorem dX12_talkLine_21 : decode cX12_talkLine 21 = .ok (.getfield 35, 3) := by decide +kernel
theorem dX12_talkLine_24 : decode cX12_talkLine 24 = .ok (.iconst 5, 1) := by decide +kernel
theorem dX12_talkLine_25 : decode cX12_talkLine 25 = .ok (.aload_n 0, 1) := by decide +kernel
theorem dX12_talkLine_26 : decode cX12_talkLine 26 = .ok (.getfield 177, 3) := by decide +kernel
theorem dX12_talkLine_29 : decode cX12_talkLine 29 = .ok (.invokevirtual 235, 3) := by decide +kernel
theorem dX12_talkLine_32 : decode cX12_talkLine 32 = .ok (.ifCond .ne 5, 3) := by decide +kernel
theorem dX12_talkLine_35 : decode cX12_talkLine 35 = .ok (.iconst 0, 1) := by decide +kernel
theorem dX12_talkLine_36 : decode cX12_talkLine 36 = .ok (.ireturn, 1) := by decide +kernel
theorem dX12_talkLine_37 : decode cX12_talkLine 37 = .ok (.bipush 60, 2) := by decide +kernel
theorem dX12_talkLine_39 : decode cX12_talkLine 39 = .ok (.aload_n 0, 1) := by decide +kernel
theorem dX12_talkLine_40 : decode cX12_talkLine 40 = .ok (.getfield 180, 3) := by decide +kernel
theorem dX12_talkLine_43 : decode cX12_talkLine 43 = .ok (.iadd, 1) := by decide +kernel
theorem dX12_talkLine_44 : decode cX12_talkLine 44 = .ok (.istore_n 2, 1) := by decide +kernel
theorem dX12_talkLine_45 : decode cX12_talkLine 45 = .ok (.aload_n 0, 1) := by decide +kernel
theorem dX12_talkLine_46 : decode cX12_talkLine 46 = .ok (.aload_n 0, 1) := by decide +kernel
theorem dX12_talkLine_47 : decode cX12_talkLine 47 = .ok (.getfield 35, 3) := by decide +kernel
theorem dX12_talkLine_50 : decode cX12_talkLine 50 = .ok (.iconst 5, 1) := by decide +kernel
theorem dX12_talkLine_51 : decode cX12_talkLine 51 = .ok (.aload_n 0, 1) := by decide +kernel
theorem dX12_talkLine_52 : decode cX12_talkLine 52 = .ok (.getfield 177, 3) := by decide +kernel
theorem dX12_talkLine_55 : decode cX12_talkLine 55 = .ok (.aload_n 0, 1) := by decide +kernel
theorem dX12_talkLine_56 : decode cX12_talkLine 56 = .ok (.getfield 153, 3) := by decide +kernel
theorem dX12_talkLine_59 : decode cX12_talkLine 59 = .ok (.invokevirtual 220, 3) := by decide +kernel
theorem dX12_talkLine_62 : decode cX12_talkLine 62 = .ok (.istore_n 3, 1) := by decide +kernel
theorem dX12_talkLine_63 : decode cX12_talkLine 63 = .ok (.aload_n 0, 1) := by decide +kernel
theorem dX12_talkLine_64 : decode cX12_talkLine 64 = .ok (.invokevirtual 171, 3) := by decide +kernel
theorem dX12_talkLine_67 : decode cX12_talkLine 67 = .ok (.aload_n 0, 1) := by decide +kernel
theorem dX12_talkLine_68 : decode cX12_talkLine 68 = .ok (.aload_n 0, 1) := by decide +kernel
theorem dX12_talkLine_69 : decode cX12_talkLine 69 = .ok (.getfield 41, 3) := by decide +kernel
theorem dX12_talkLine_72 : decode cX12_talkLine 72 = .ok (.iconst 5, 1) := by decide +kernel
theorem dX12_talkLine_73 : decode cX12_talkLine 73 = .ok (.iload_n 3, 1) := by decide +kernel
theorem dX12_talkLine_74 : decode cX12_talkLine 74 = .ok (.iadd, 1) := by decide +kernel
theorem dX12_talkLine_75 : decode cX12_talkLine 75 = .ok (.iaload, 1) := by decide +kernel
theorem dX12_talkLine_76 : decode cX12_talkLine 76 = .ok (.aload_n 0, 1) := by decide +kernel
theorem dX12_talkLine_77 : decode cX12_talkLine 77 = .ok (.getfield 44, 3) := by decide +kernel
theorem dX12_talkLine_80 : decode cX12_talkLine 80 = .ok (.iconst 5, 1) := by decide +kernel
theorem dX12_talkLine_81 : decode cX12_talkLine 81 = .ok (.iload_n 3, 1) := by decide +kernel
theorem dX12_talkLine_82 : decode cX12_talkLine 82 = .ok (.iadd, 1) := by decide +kernel
theorem dX12_talkLine_83 : decode cX12_talkLine 83 = .ok (.iaload, 1) := by decide +kernel
theorem dX12_talkLine_84 : decode cX12_talkLine 84 = .ok (.invokevirtual 228, 3) := by decide +kernel
theorem dX12_talkLine_87 : decode cX12_talkLine 87 = .ok (.ifCond .ne 5, 3) := by decide +kernel
theorem dX12_talkLine_90 : decode cX12_talkLine 90 = .ok (.iconst 0, 1) := by decide +kernel
theorem dX12_talkLine_91 : decode cX12_talkLine 91 = .ok (.ireturn, 1) := by decide +kernel
theorem dX12_talkLine_92 : decode cX12_talkLine 92 = .ok (.aload_n 0, 1) := by decide +kernel
theorem dX12_talkLine_93 : decode cX12_talkLine 93 = .ok (.getfield 153, 3) := by decide +kernel
theorem dX12_talkLine_96 : decode cX12_talkLine 96 = .ok (.aload_n 0, 1) := by decide +kernel
theorem dX12_talkLine_97 : decode cX12_talkLine 97 = .ok (.bipush 60, 2) := by decide +kernel
theorem dX12_talkLine_99 : decode cX12_talkLine 99 = .ok (.aload_n 0, 1) := by decide +kernel
theorem dX12_talkLine_100 : decode cX12_talkLine 100 = .ok (.getfield 180, 3) := by decide +kernel
theorem dX12_talkLine_103 : decode cX12_talkLine 103 = .ok (.iload_n 3, 1) := by decide +kernel
theorem dX12_talkLine_104 : decode cX12_talkLine 104 = .ok (.invokevirtual 238, 3) := by decide +kernel
theorem dX12_talkLine_107 : decode cX12_talkLine 107 = .ok (.if_icmp .ge 9, 3) := by decide +kernel
theorem dX12_talkLine_110 : decode cX12_talkLine 110 = .ok (.aload_n 0, 1) := by decide +kernel
theorem dX12_talkLine_111 : decode cX12_talkLine 111 = .ok (.iconst 5, 1) := by decide +kernel
theorem dX12_talkLine_112 : decode cX12_talkLine 112 = .ok (.invokevirtual 168, 3) := by decide +kernel
theorem dX12_talkLine_115 : decode cX12_talkLine 115 = .ok (.ireturn, 1) := by decide +kernel
theorem dX12_talkLine_116 : decode cX12_talkLine 116 = .ok (.aload_n 0, 1) := by decide +kernel
theorem dX12_talkLine_117 : decode cX12_talkLine 117 = .ok (.getfield 153, 3) := by decide +kernel
theorem dX12_talkLine_120 : decode cX12_talkLine 120 = .ok (.istore 4, 2) := by decide +kernel
theorem dX12_talkLine_122 : decode cX12_talkLine 122 = .ok (.aload_n 0, 1) := by decide +kernel
theorem dX12_talkLine_123 : decode cX12_talkLine 123 = .ok (.invokevirtual 171, 3) := by decide +kernel
theorem dX12_talkLine_126 : decode cX12_talkLine 126 = .ok (.aload_n 0, 1) := by decide +kernel
theorem dX12_talkLine_127 : decode cX12_talkLine 127 = .ok (.aload_n 0, 1) := by decide +kernel
theorem dX12_talkLine_128 : decode cX12_talkLine 128 = .ok (.getfield 20, 3) := by decide +kernel
theorem dX12_talkLine_131 : decode cX12_talkLine 131 = .ok (.bipush 8, 2) := by decide +kernel
theorem dX12_talkLine_133 : decode cX12_talkLine 133 = .ok (.aload_n 0, 1) := by decide +kernel
theorem dX12_talkLine_134 : decode cX12_talkLine 134 = .ok (.getfield 174, 3) := by decide +kernel
theorem dX12_talkLine_137 : decode cX12_talkLine 137 = .ok (.invokevirtual 235, 3) := by decide +kernel
theorem dX12_talkLine_140 : decode cX12_talkLine 140 = .ok (.ifCond .ne 5, 3) := by decide +kernel
theorem dX12_talkLine_143 : decode cX12_talkLine 143 = .ok (.iconst 0, 1) := by decide +kernel
theorem dX12_talkLine_144 : decode cX12_talkLine 144 = .ok (.ireturn, 1) := by decide +kernel
theorem dX12_talkLine_145 : decode cX12_talkLine 145 = .ok (.aload_n 0, 1) := by decide +kernel
theorem dX12_talkLine_146 : decode cX12_talkLine 146 = .ok (.aload_n 0, 1) := by decide +kernel
theorem dX12_talkLine_147 : decode cX12_talkLine 147 = .ok (.getfield 20, 3) := by decide +kernel
theorem dX12_talkLine_150 : decode cX12_talkLine 150 = .ok (.bipush 8, 2) := by decide +kernel
theorem dX12_talkLine_152 : decode cX12_talkLine 152 = .ok (.aload_n 0, 1) := by decide +kernel
theorem dX12_talkLine_153 : decode cX12_talkLine 153 = .ok (.getfield 174, 3) := by decide +kernel
theorem dX12_talkLine_156 : decode cX12_talkLine 156 = .ok (.aload_n 0, 1) := by decide +kernel
theorem dX12_talkLine_157 : decode cX12_talkLine 157 = .ok (.getfield 153, 3) := by decide +kernel
theorem dX12_talkLine_160 : decode cX12_talkLine 160 = .ok (.invokevirtual 220, 3) := by decide +kernel
theorem dX12_talkLine_163 : decode cX12_talkLine 163 = .ok (.istore 5, 2) := by decide +kernel
theorem dX12_talkLine_165 : decode cX12_talkLine 165 = .ok (.aload_n 0, 1) := by decide +kernel
theorem dX12_talkLine_166 : decode cX12_talkLine 166 = .ok (.invokevirtual 171, 3) := by decide +kernel
theorem dX12_talkLine_169 : decode cX12_talkLine 169 = .ok (.iconst (-1), 1) := by decide +kernel
theorem dX12_talkLine_170 : decode cX12_talkLine 170 = .ok (.istore 6, 2) := by decide +kernel
theorem dX12_talkLine_172 : decode cX12_talkLine 172 = .ok (.iload_n 1, 1) := by decide +kernel
theorem dX12_talkLine_173 : decode cX12_talkLine 173 = .ok (.ifCond .ne 11, 3) := by decide +kernel
theorem dX12_talkLine_176 : decode cX12_talkLine 176 = .ok (.aload_n 0, 1) := by decide +kernel
theorem dX12_talkLine_177 : decode cX12_talkLine 177 = .ok (.getfield 142, 3) := by decide +kernel
theorem dX12_talkLine_180 : decode cX12_talkLine 180 = .ok (.iconst 3, 1) := by decide +kernel
theorem dX12_talkLine_181 : decode cX12_talkLine 181 = .ok (.if_icmp .ne 35, 3) := by decide +kernel
theorem dX12_talkLine_184 : decode cX12_talkLine 184 = .ok (.aload_n 0, 1) := by decide +kernel
theorem dX12_talkLine_185 : decode cX12_talkLine 185 = .ok (.iconst 0, 1) := by decide +kernel
theorem dX12_talkLine_186 : decode cX12_talkLine 186 = .ok (.aload_n 0, 1) := by decide +kernel
theorem dX12_talkLine_187 : decode cX12_talkLine 187 = .ok (.getfield 23, 3) := by decide +kernel
theorem dX12_talkLine_190 : decode cX12_talkLine 190 = .ok (.bipush 8, 2) := by decide +kernel
theorem dX12_talkLine_192 : decode cX12_talkLine 192 = .ok (.iload 5, 2) := by decide +kernel
theorem dX12_talkLine_194 : decode cX12_talkLine 194 = .ok (.iadd, 1) := by decide +kernel
theorem dX12_talkLine_195 : decode cX12_talkLine 195 = .ok (.iaload, 1) := by decide +kernel
theorem dX12_talkLine_196 : decode cX12_talkLine 196 = .ok (.iconst 1, 1) := by decide +kernel
theorem dX12_talkLine_197 : decode cX12_talkLine 197 = .ok (.isub, 1) := by decide +kernel
theorem dX12_talkLine_198 : decode cX12_talkLine 198 = .ok (.invokevirtual 228, 3) := by decide +kernel
theorem dX12_talkLine_201 : decode cX12_talkLine 201 = .ok (.ifCond .ne 5, 3) := by decide +kernel
theorem dX12_talkLine_204 : decode cX12_talkLine 204 = .ok (.iconst 0, 1) := by decide +kernel
theorem dX12_talkLine_205 : decode cX12_talkLine 205 = .ok (.ireturn, 1) := by decide +kernel
theorem dX12_talkLine_206 : decode cX12_talkLine 206 = .ok (.aload_n 0, 1) := by decide +kernel
theorem dX12_talkLine_207 : decode cX12_talkLine 207 = .ok (.getfield 153, 3) := by decide +kernel
theorem dX12_talkLine_210 : decode cX12_talkLine 210 = .ok (.istore 6, 2) := by decide +kernel
theorem dX12_talkLine_212 : decode cX12_talkLine 212 = .ok (.aload_n 0, 1) := by decide +kernel
theorem dX12_talkLine_213 : decode cX12_talkLine 213 = .ok (.invokevirtual 171, 3) := by decide +kernel
theorem dX12_talkLine_216 : decode cX12_talkLine 216 = .ok (.aload_n 0, 1) := by decide +kernel
theorem dX12_talkLine_217 : decode cX12_talkLine 217 = .ok (.getfield 50, 3) := by decide +kernel
theorem dX12_talkLine_220 : decode cX12_talkLine 220 = .ok (.iload_n 2, 1) := by decide +kernel
theorem dX12_talkLine_221 : decode cX12_talkLine 221 = .ok (.iload_n 1, 1) := by decide +kernel
theorem dX12_talkLine_222 : decode cX12_talkLine 222 = .ok (.bastore, 1) := by decide +kernel
theorem dX12_talkLine_223 : decode cX12_talkLine 223 = .ok (.aload_n 0, 1) := by decide +kernel
theorem dX12_talkLine_224 : decode cX12_talkLine 224 = .ok (.getfield 54, 3) := by decide +kernel
theorem dX12_talkLine_227 : decode cX12_talkLine 227 = .ok (.iload_n 2, 1) := by decide +kernel
theorem dX12_talkLine_228 : decode cX12_talkLine 228 = .ok (.iload_n 3, 1) := by decide +kernel
theorem dX12_talkLine_229 : decode cX12_talkLine 229 = .ok (.iastore, 1) := by decide +kernel
theorem dX12_talkLine_230 : decode cX12_talkLine 230 = .ok (.aload_n 0, 1) := by decide +kernel
theorem dX12_talkLine_231 : decode cX12_talkLine 231 = .ok (.getfield 57, 3) := by decide +kernel
theorem dX12_talkLine_234 : decode cX12_talkLine 234 = .ok (.iload_n 2, 1) := by decide +kernel
theorem dX12_talkLine_235 : decode cX12_talkLine 235 = .ok (.iload 4, 2) := by decide +kernel
theorem dX12_talkLine_237 : decode cX12_talkLine 237 = .ok (.iastore, 1) := by decide +kernel
theorem dX12_talkLine_238 : decode cX12_talkLine 238 = .ok (.aload_n 0, 1) := by decide +kernel
theorem dX12_talkLine_239 : decode cX12_talkLine 239 = .ok (.getfield 60, 3) := by decide +kernel
theorem dX12_talkLine_242 : decode cX12_talkLine 242 = .ok (.iload_n 2, 1) := by decide +kernel
theorem dX12_talkLine_243 : decode cX12_talkLine 243 = .ok (.iload 5, 2) := by decide +kernel
theorem dX12_talkLine_245 : decode cX12_talkLine 245 = .ok (.iastore, 1) := by decide +kernel
theorem dX12_talkLine_246 : decode cX12_talkLine 246 = .ok (.aload_n 0, 1) := by decide +kernel
theorem dX12_talkLine_247 : decode cX12_talkLine 247 = .ok (.getfield 63, 3) := by decide +kernel
theorem dX12_talkLine_250 : decode cX12_talkLine 250 = .ok (.iload_n 2, 1) := by decide +kernel
theorem dX12_talkLine_251 : decode cX12_talkLine 251 = .ok (.iload 6, 2) := by decide +kernel
theorem dX12_talkLine_253 : decode cX12_talkLine 253 = .ok (.iastore, 1) := by decide +kernel
theorem dX12_talkLine_254 : decode cX12_talkLine 254 = .ok (.aload_n 0, 1) := by decide +kernel
theorem dX12_talkLine_255 : decode cX12_talkLine 255 = .ok (.dup, 1) := by decide +kernel
theorem dX12_talkLine_256 : decode cX12_talkLine 256 = .ok (.getfield 180, 3) := by decide +kernel
theorem dX12_talkLine_259 : decode cX12_talkLine 259 = .ok (.iconst 1, 1) := by decide +kernel
theorem dX12_talkLine_260 : decode cX12_talkLine 260 = .ok (.iadd, 1) := by decide +kernel
theorem dX12_talkLine_261 : decode cX12_talkLine 261 = .ok (.putfield 180, 3) := by decide +kernel
theorem dX12_talkLine_264 : decode cX12_talkLine 264 = .ok (.iconst 1, 1) := by decide +kernel
theorem dX12_talkLine_265 : decode cX12_talkLine 265 = .ok (.ireturn, 1) := by decide +kernel
theorem dX12_pageLine_0 : decode cX12_pageLine 0 = .ok (.aload_n 0, 1) := by decide +kernel
theorem dX12_pageLine_1 : decode cX12_pageLine 1 = .ok (.getfield 183, 3) := by decide +kernel
theorem dX12_pageLine_4 : decode cX12_pageLine 4 = .ok (.bipush 20, 2) := by decide +kernel
theorem dX12_pageLine_6 : decode cX12_pageLine 6 = .ok (.if_icmp .ne 9, 3) := by decide +kernel
theorem dX12_pageLine_9 : decode cX12_pageLine 9 = .ok (.aload_n 0, 1) := by decide +kernel
theorem dX12_pageLine_10 : decode cX12_pageLine 10 = .ok (.iconst 2, 1) := by decide +kernel
theorem dX12_pageLine_11 : decode cX12_pageLine 11 = .ok (.invokevirtual 168, 3) := by decide +kernel
theorem dX12_pageLine_14 : decode cX12_pageLine 14 = .ok (.ireturn, 1) := by decide +kernel
theorem dX12_pageLine_15 : decode cX12_pageLine 15 = .ok (.aload_n 0, 1) := by decide +kernel
theorem dX12_pageLine_16 : decode cX12_pageLine 16 = .ok (.invokevirtual 171, 3) := by decide +kernel
theorem dX12_pageLine_19 : decode cX12_pageLine 19 = .ok (.aload_n 0, 1) := by decide +kernel
theorem dX12_pageLine_20 : decode cX12_pageLine 20 = .ok (.aload_n 0, 1) := by decide +kernel
theorem dX12_pageLine_21 : decode cX12_pageLine 21 = .ok (.getfield 35, 3) := by decide +kernel
theorem dX12_pageLine_24 : decode cX12_pageLine 24 = .ok (.iconst 5, 1) := by decide +kernel
theorem dX12_pageLine_25 : decode cX12_pageLine 25 = .ok (.aload_n 0, 1) := by decide +kernel
theorem dX12_pageLine_26 : decode cX12_pageLine 26 = .ok (.getfield 177, 3) := by decide +kernel
theorem dX12_pageLine_29 : decode cX12_pageLine 29 = .ok (.invokevirtual 235, 3) := by decide +kernel
theorem dX12_pageLine_32 : decode cX12_pageLine 32 = .ok (.ifCond .ne 5, 3) := by decide +kernel
theorem dX12_pageLine_35 : decode cX12_pageLine 35 = .ok (.iconst 0, 1) := by decide +kernel
theorem dX12_pageLine_36 : decode cX12_pageLine 36 = .ok (.ireturn, 1) := by decide +kernel
theorem dX12_pageLine_37 : decode cX12_pageLine 37 = .ok (.bipush 20, 2) := by decide +kernel
theorem dX12_pageLine_39 : decode cX12_pageLine 39 = .ok (.aload_n 0, 1) := by decide +kernel
theorem dX12_pageLine_40 : decode cX12_pageLine 40 = .ok (.getfield 183, 3) := by decide +kernel
theorem dX12_pageLine_43 : decode cX12_pageLine 43 = .ok (.iadd, 1) := by decide +kernel
theorem dX12_pageLine_44 : decode cX12_pageLine 44 = .ok (.istore_n 1, 1) := by decide +kernel
theorem dX12_pageLine_45 : decode cX12_pageLine 45 = .ok (.aload_n 0, 1) := by decide +kernel
theorem dX12_pageLine_46 : decode cX12_pageLine 46 = .ok (.getfield 66, 3) := by decide +kernel
theorem dX12_pageLine_49 : decode cX12_pageLine 49 = .ok (.iload_n 1, 1) := by decide +kernel
theorem dX12_pageLine_50 : decode cX12_pageLine 50 = .ok (.aload_n 0, 1) := by decide +kernel
theorem dX12_pageLine_51 : decode cX12_pageLine 51 = .ok (.aload_n 0, 1) := by decide +kernel
theorem dX12_pageLine_52 : decode cX12_pageLine 52 = .ok (.getfield 35, 3) := by decide +kernel
theorem dX12_pageLine_55 : decode cX12_pageLine 55 = .ok (.iconst 5, 1) := by decide +kernel
theorem dX12_pageLine_56 : decode cX12_pageLine 56 = .ok (.aload_n 0, 1) := by decide +kernel
theorem dX12_pageLine_57 : decode cX12_pageLine 57 = .ok (.getfield 177, 3) := by decide +kernel
theorem dX12_pageLine_60 : decode cX12_pageLine 60 = .ok (.aload_n 0, 1) := by decide +kernel
theorem dX12_pageLine_61 : decode cX12_pageLine 61 = .ok (.getfield 153, 3) := by decide +kernel
theorem dX12_pageLine_64 : decode cX12_pageLine 64 = .ok (.invokevirtual 220, 3) := by decide +kernel
theorem dX12_pageLine_67 : decode cX12_pageLine 67 = .ok (.iastore, 1) := by decide +kernel
theorem dX12_pageLine_68 : decode cX12_pageLine 68 = .ok (.aload_n 0, 1) := by decide +kernel
theorem dX12_pageLine_69 : decode cX12_pageLine 69 = .ok (.invokevirtual 171, 3) := by decide +kernel
theorem dX12_pageLine_72 : decode cX12_pageLine 72 = .ok (.aload_n 0, 1) := by decide +kernel
theorem dX12_pageLine_73 : decode cX12_pageLine 73 = .ok (.aload_n 0, 1) := by decide +kernel
theorem dX12_pageLine_74 : decode cX12_pageLine 74 = .ok (.getfield 20, 3) := by decide +kernel
