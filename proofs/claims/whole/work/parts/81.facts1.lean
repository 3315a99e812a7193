theorem zd_X6_isFirstOf : yX6_isFirstOf.cls ≠ "java/lang/invoke/MethodHandle" ∧ yX6_isFirstOf.cls ≠ "java/lang/invoke/VarHandle" ∧ (parseMethodDescriptor yX6_isFirstOf.desc).map (fun d => d.parameters.length) = some 2 := ⟨by decide +kernel, by decide +kernel, by decide +kernel⟩
theorem zn_X6_isFirstOf : Cond.instanceMethod yX6_isFirstOf ∈ z_tbl := z_in (i := 1048) (by decide +kernel) rfl
theorem ze_X6_isFirstOf : Cond.selects yX6_isFirstOf.cls yX6_isFirstOf yX6_isFirstOf ∈ z_tbl := z_in (i := 61) (by decide +kernel) rfl
theorem zl_X4_135 : Cond.methodLink RX4 135 yX6_isFirstOf ∈ z_tbl ∨ ∃ host, Cond.methodLinkNest RX4 135 yX6_isFirstOf host ∈ z_nst := Or.inr ⟨"SaidSo", z_inN (i := 1300) (by decide +kernel) rfl⟩
theorem zf_X4_132 : z_Fl RX4 132 8 5 RX8 TX8 6 := ⟨rfl, z_inX8, by decide, by decide, Or.inr ⟨"SaidSo", z_inN (i := 394) (by decide +kernel) rfl⟩⟩
theorem zf_X4_64 : z_Fl RX4 64 0 6 RX0 TX0 13 := ⟨rfl, z_inX0, by decide, by decide, Or.inr ⟨"SaidSo", z_inN (i := 546) (by decide +kernel) rfl⟩⟩
theorem zk_X4_setTape : Cond.code yX4_setTape cX4_setTape 4 (none) ∈ z_tbl := z_in (i := 1304) (by decide +kernel) rfl
theorem zd_X4_setTape : yX4_setTape.cls ≠ "java/lang/invoke/MethodHandle" ∧ yX4_setTape.cls ≠ "java/lang/invoke/VarHandle" ∧ (parseMethodDescriptor yX4_setTape.desc).map (fun d => d.parameters.length) = some 2 := ⟨by decide +kernel, by decide +kernel, by decide +kernel⟩
theorem zn_X4_setTape : Cond.instanceMethod yX4_setTape ∈ z_tbl := z_in (i := 1303) (by decide +kernel) rfl
theorem ze_X4_setTape : Cond.selects yX4_setTape.cls yX4_setTape yX4_setTape ∈ z_tbl := z_in (i := 97) (by decide +kernel) rfl
theorem zl_X4_61 : Cond.methodLink RX4 61 yX4_setTape ∈ z_tbl ∨ ∃ host, Cond.methodLinkNest RX4 61 yX4_setTape host ∈ z_nst := Or.inl (z_in (i := 1301) (by decide +kernel) rfl)
theorem zk_X4_setPage : Cond.code yX4_setPage cX4_setPage 5 (none) ∈ z_tbl := z_in (i := 1299) (by decide +kernel) rfl
theorem zd_X4_setPage : yX4_setPage.cls ≠ "java/lang/invoke/MethodHandle" ∧ yX4_setPage.cls ≠ "java/lang/invoke/VarHandle" ∧ (parseMethodDescriptor yX4_setPage.desc).map (fun d => d.parameters.length) = some 2 := ⟨by decide +kernel, by decide +kernel, by decide +kernel⟩
theorem zn_X4_setPage : Cond.instanceMethod yX4_setPage ∈ z_tbl := z_in (i := 1298) (by decide +kernel) rfl
theorem ze_X4_setPage : Cond.selects yX4_setPage.cls yX4_setPage yX4_setPage ∈ z_tbl := z_in (i := 96) (by decide +kernel) rfl
theorem zl_X4_58 : Cond.methodLink RX4 58 yX4_setPage ∈ z_tbl ∨ ∃ host, Cond.methodLinkNest RX4 58 yX4_setPage host ∈ z_nst := Or.inl (z_in (i := 1296) (by decide +kernel) rfl)
theorem zf_X5_9 : z_Fl RX5 9 5 0 RX5 TX5 3 := ⟨rfl, z_inX5, by decide, by decide, Or.inl (z_in (i := 629) (by decide +kernel) rfl)⟩
theorem zf_X5_15 : z_Fl RX5 15 5 1 RX5 TX5 3 := ⟨rfl, z_inX5, by decide, by decide, Or.inl (z_in (i := 631) (by decide +kernel) rfl)⟩
theorem zf_X5_18 : z_Fl RX5 18 5 2 RX5 TX5 3 := ⟨rfl, z_inX5, by decide, by decide, Or.inl (z_in (i := 633) (by decide +kernel) rfl)⟩
theorem zk_X5_shorten : Cond.code yX5_shorten cX5_shorten 8 (none) ∈ z_tbl := z_in (i := 1041) (by decide +kernel) rfl
theorem zi_X5 : Cond.initialized RX5 ∈ z_tbl := z_in (i := 189) (by decide +kernel) rfl
theorem zd_X5_shorten : yX5_shorten.cls ≠ "java/lang/invoke/MethodHandle" ∧ yX5_shorten.cls ≠ "java/lang/invoke/VarHandle" ∧ (parseMethodDescriptor yX5_shorten.desc).map (fun d => d.parameters.length) = some 0 := ⟨by decide +kernel, by decide +kernel, by decide +kernel⟩
theorem zn_X5_shorten : Cond.instanceMethod yX5_shorten ∈ z_tbl := z_in (i := 1040) (by decide +kernel) rfl
theorem ze_X5_shorten : Cond.selects yX5_shorten.cls yX5_shorten yX5_shorten ∈ z_tbl := z_in (i := 59) (by decide +kernel) rfl
theorem zl_X5_22 : Cond.methodLink RX5 22 yX5_shorten ∈ z_tbl ∨ ∃ host, Cond.methodLinkNest RX5 22 yX5_shorten host ∈ z_nst := Or.inl (z_in (i := 1038) (by decide +kernel) rfl)
theorem zcsl_X5_82 : Cond.constantLong RX5 82 (10) ∈ z_tbl := z_in (i := 1054) (by decide +kernel) rfl
theorem zf_X5_48 : z_Fl RX5 48 0 0 RX0 TX0 13 := ⟨rfl, z_inX0, by decide, by decide, Or.inr ⟨"SaidSo", z_inN (i := 519) (by decide +kernel) rfl⟩⟩
theorem zf_X5_52 : z_Fl RX5 52 9 2 RX9 TX9 6 := ⟨rfl, z_inX9, by decide, by decide, Or.inr ⟨"SaidSo", z_inN (i := 337) (by decide +kernel) rfl⟩⟩
theorem zk_X5_takeOne : Cond.code yX5_takeOne cX5_takeOne 3 (none) ∈ z_tbl := z_in (i := 1053) (by decide +kernel) rfl
theorem zd_X5_takeOne : yX5_takeOne.cls ≠ "java/lang/invoke/MethodHandle" ∧ yX5_takeOne.cls ≠ "java/lang/invoke/VarHandle" ∧ (parseMethodDescriptor yX5_takeOne.desc).map (fun d => d.parameters.length) = some 2 := ⟨by decide +kernel, by decide +kernel, by decide +kernel⟩
theorem zn_X5_takeOne : Cond.instanceMethod yX5_takeOne ∈ z_tbl := z_in (i := 1052) (by decide +kernel) rfl
theorem ze_X5_takeOne : Cond.selects yX5_takeOne.cls yX5_takeOne yX5_takeOne ∈ z_tbl := z_in (i := 62) (by decide +kernel) rfl
theorem zl_X5_61 : Cond.methodLink RX5 61 yX5_takeOne ∈ z_tbl ∨ ∃ host, Cond.methodLinkNest RX5 61 yX5_takeOne host ∈ z_nst := Or.inl (z_in (i := 1050) (by decide +kernel) rfl)
theorem zf_X5_75 : z_Fl RX5 75 6 2 RX6 TX6 6 := ⟨rfl, z_inX6, by decide, by decide, Or.inr ⟨"SaidSo", z_inN (i := 480) (by decide +kernel) rfl⟩⟩
theorem zf_X5_76 : z_Fl RX5 76 6 3 RX6 TX6 6 := ⟨rfl, z_inX6, by decide, by decide, Or.inr ⟨"SaidSo", z_inN (i := 484) (by decide +kernel) rfl⟩⟩
theorem zf_X5_79 : z_Fl RX5 79 9 3 RX9 TX9 6 := ⟨rfl, z_inX9, by decide, by decide, Or.inr ⟨"SaidSo", z_inN (i := 343) (by decide +kernel) rfl⟩⟩
theorem zl_X5_72 : Cond.methodLink RX5 72 yX6_isFirstOf ∈ z_tbl ∨ ∃ host, Cond.methodLinkNest RX5 72 yX6_isFirstOf host ∈ z_nst := Or.inr ⟨"SaidSo", z_inN (i := 1046) (by decide +kernel) rfl⟩
theorem zf_X5_69 : z_Fl RX5 69 6 0 RX6 TX6 6 := ⟨rfl, z_inX6, by decide, by decide, Or.inr ⟨"SaidSo", z_inN (i := 472) (by decide +kernel) rfl⟩⟩
theorem zf_X5_65 : z_Fl RX5 65 0 3 RX0 TX0 13 := ⟨rfl, z_inX0, by decide, by decide, Or.inr ⟨"SaidSo", z_inN (i := 534) (by decide +kernel) rfl⟩⟩
theorem zl_X5_44 : Cond.methodLink RX5 44 yX0_isRight ∈ z_tbl ∨ ∃ host, Cond.methodLinkNest RX5 44 yX0_isRight host ∈ z_nst := Or.inr ⟨"SaidSo", z_inN (i := 1061) (by decide +kernel) rfl⟩
theorem zf_X5_25 : z_Fl RX5 25 0 2 RX0 TX0 13 := ⟨rfl, z_inX0, by decide, by decide, Or.inr ⟨"SaidSo", z_inN (i := 530) (by decide +kernel) rfl⟩⟩
theorem zf_X5_58 : z_Fl RX5 58 3 5 RX3 TX3 7 := ⟨rfl, z_inX3, by decide, by decide, Or.inr ⟨"SaidSo", z_inN (i := 441) (by decide +kernel) rfl⟩⟩
theorem zk_X0_bitsOf : Cond.code yX0_bitsOf cX0_bitsOf 3 (some .int) ∈ z_tbl := z_in (i := 975) (by decide +kernel) rfl
theorem zd_X0_bitsOf : yX0_bitsOf.cls ≠ "java/lang/invoke/MethodHandle" ∧ yX0_bitsOf.cls ≠ "java/lang/invoke/VarHandle" ∧ (parseMethodDescriptor yX0_bitsOf.desc).map (fun d => d.parameters.length) = some 1 := ⟨by decide +kernel, by decide +kernel, by decide +kernel⟩
theorem zn_X0_bitsOf : Cond.instanceMethod yX0_bitsOf ∈ z_tbl := z_in (i := 974) (by decide +kernel) rfl
theorem ze_X0_bitsOf : Cond.selects yX0_bitsOf.cls yX0_bitsOf yX0_bitsOf ∈ z_tbl := z_in (i := 49) (by decide +kernel) rfl
theorem zl_X5_40 : Cond.methodLink RX5 40 yX0_bitsOf ∈ z_tbl ∨ ∃ host, Cond.methodLinkNest RX5 40 yX0_bitsOf host ∈ z_nst := Or.inr ⟨"SaidSo", z_inN (i := 1060) (by decide +kernel) rfl⟩
theorem zl_X5_36 : Cond.methodLink RX5 36 yX0_isHeardWordOf ∈ z_tbl ∨ ∃ host, Cond.methodLinkNest RX5 36 yX0_isHeardWordOf host ∈ z_nst := Or.inr ⟨"SaidSo", z_inN (i := 1059) (by decide +kernel) rfl⟩
theorem zf_X5_31 : z_Fl RX5 31 3 0 RX3 TX3 7 := ⟨rfl, z_inX3, by decide, by decide, Or.inr ⟨"SaidSo", z_inN (i := 420) (by decide +kernel) rfl⟩⟩
theorem zf_X6_28 : z_Fl RX6 28 6 5 RX6 TX6 6 := ⟨rfl, z_inX6, by decide, by decide, Or.inl (z_in (i := 488) (by decide +kernel) rfl)⟩
theorem zml_X6_40 : Cond.methodLink RX6 40 Lib.Math.max.name ∈ z_tbl := z_in (i := 1108) (by decide +kernel) rfl
theorem zf_X6_25 : z_Fl RX6 25 6 4 RX6 TX6 6 := ⟨rfl, z_inX6, by decide, by decide, Or.inl (z_in (i := 487) (by decide +kernel) rfl)⟩
theorem zk_X6_longestAhead : Cond.code yX6_longestAhead cX6_longestAhead 4 (some .int) ∈ z_tbl := z_in (i := 1107) (by decide +kernel) rfl
theorem zd_X6_longestAhead : yX6_longestAhead.cls ≠ "java/lang/invoke/MethodHandle" ∧ yX6_longestAhead.cls ≠ "java/lang/invoke/VarHandle" ∧ (parseMethodDescriptor yX6_longestAhead.desc).map (fun d => d.parameters.length) = some 1 := ⟨by decide +kernel, by decide +kernel, by decide +kernel⟩
theorem zn_X6_longestAhead : Cond.instanceMethod yX6_longestAhead ∈ z_tbl := z_in (i := 1106) (by decide +kernel) rfl
theorem ze_X6_longestAhead : Cond.selects yX6_longestAhead.cls yX6_longestAhead yX6_longestAhead ∈ z_tbl := z_in (i := 71) (by decide +kernel) rfl
theorem zl_X6_37 : Cond.methodLink RX6 37 yX6_longestAhead ∈ z_tbl ∨ ∃ host, Cond.methodLinkNest RX6 37 yX6_longestAhead host ∈ z_nst := Or.inl (z_in (i := 1104) (by decide +kernel) rfl)
theorem zl_X6_31 : Cond.methodLink RX6 31 yX0_firstSaid ∈ z_tbl ∨ ∃ host, Cond.methodLinkNest RX6 31 yX0_firstSaid host ∈ z_nst := Or.inr ⟨"SaidSo", z_inN (i := 1103) (by decide +kernel) rfl⟩
theorem zf_X7_25 : z_Fl RX7 25 7 2 RX7 TX7 10 := ⟨rfl, z_inX7, by decide, by decide, Or.inl (z_in (i := 590) (by decide +kernel) rfl)⟩
theorem zf_X7_12 : z_Fl RX7 12 7 0 RX7 TX7 10 := ⟨rfl, z_inX7, by decide, by decide, Or.inl (z_in (i := 586) (by decide +kernel) rfl)⟩
theorem zf_X7_111 : z_Fl RX7 111 10 12 RX10 TX10 13 := ⟨rfl, z_inX10, by decide, by decide, Or.inr ⟨"SaidSo", z_inN (i := 288) (by decide +kernel) rfl⟩⟩
theorem zf_X7_29 : z_Fl RX7 29 7 3 RX7 TX7 10 := ⟨rfl, z_inX7, by decide, by decide, Or.inl (z_in (i := 592) (by decide +kernel) rfl)⟩
theorem zf_X7_21 : z_Fl RX7 21 7 1 RX7 TX7 10 := ⟨rfl, z_inX7, by decide, by decide, Or.inl (z_in (i := 588) (by decide +kernel) rfl)⟩
theorem zf_X7_242 : z_Fl RX7 242 0 8 RX0 TX0 13 := ⟨rfl, z_inX0, by decide, by decide, Or.inr ⟨"SaidSo", z_inN (i := 551) (by decide +kernel) rfl⟩⟩
theorem zk_X7_wrong : Cond.code yX7_wrong cX7_wrong 2 (some .boolean) ∈ z_tbl := z_in (i := 779) (by decide +kernel) rfl
theorem zi_X7 : Cond.initialized RX7 ∈ z_tbl := z_in (i := 177) (by decide +kernel) rfl
theorem zd_X7_wrong : yX7_wrong.cls ≠ "java/lang/invoke/MethodHandle" ∧ yX7_wrong.cls ≠ "java/lang/invoke/VarHandle" ∧ (parseMethodDescriptor yX7_wrong.desc).map (fun d => d.parameters.length) = some 1 := ⟨by decide +kernel, by decide +kernel, by decide +kernel⟩
theorem zn_X7_wrong : Cond.instanceMethod yX7_wrong ∈ z_tbl := z_in (i := 778) (by decide +kernel) rfl
theorem ze_X7_wrong : Cond.selects yX7_wrong.cls yX7_wrong yX7_wrong ∈ z_tbl := z_in (i := 12) (by decide +kernel) rfl
theorem zl_X7_108 : Cond.methodLink RX7 108 yX7_wrong ∈ z_tbl ∨ ∃ host, Cond.methodLinkNest RX7 108 yX7_wrong host ∈ z_nst := Or.inl (z_in (i := 776) (by decide +kernel) rfl)
theorem zf_X7_55 : z_Fl RX7 55 10 10 RX10 TX10 13 := ⟨rfl, z_inX10, by decide, by decide, Or.inr ⟨"SaidSo", z_inN (i := 284) (by decide +kernel) rfl⟩⟩
theorem zf_X7_42 : z_Fl RX7 42 7 7 RX7 TX7 10 := ⟨rfl, z_inX7, by decide, by decide, Or.inl (z_in (i := 597) (by decide +kernel) rfl)⟩
theorem zf_X7_45 : z_Fl RX7 45 7 8 RX7 TX7 10 := ⟨rfl, z_inX7, by decide, by decide, Or.inl (z_in (i := 598) (by decide +kernel) rfl)⟩
theorem zf_X10_40 : z_Fl RX10 40 10 9 RX10 TX10 13 := ⟨rfl, z_inX10, by decide, by decide, Or.inl (z_in (i := 282) (by decide +kernel) rfl)⟩
theorem zf_X10_31 : z_Fl RX10 31 10 6 RX10 TX10 13 := ⟨rfl, z_inX10, by decide, by decide, Or.inl (z_in (i := 279) (by decide +kernel) rfl)⟩
theorem zf_X10_43 : z_Fl RX10 43 10 10 RX10 TX10 13 := ⟨rfl, z_inX10, by decide, by decide, Or.inl (z_in (i := 283) (by decide +kernel) rfl)⟩
theorem zf_X10_34 : z_Fl RX10 34 10 7 RX10 TX10 13 := ⟨rfl, z_inX10, by decide, by decide, Or.inl (z_in (i := 280) (by decide +kernel) rfl)⟩
theorem zf_X10_46 : z_Fl RX10 46 10 11 RX10 TX10 13 := ⟨rfl, z_inX10, by decide, by decide, Or.inl (z_in (i := 285) (by decide +kernel) rfl)⟩
theorem zf_X10_37 : z_Fl RX10 37 10 8 RX10 TX10 13 := ⟨rfl, z_inX10, by decide, by decide, Or.inl (z_in (i := 281) (by decide +kernel) rfl)⟩
theorem zf_X10_49 : z_Fl RX10 49 10 12 RX10 TX10 13 := ⟨rfl, z_inX10, by decide, by decide, Or.inl (z_in (i := 287) (by decide +kernel) rfl)⟩
theorem zf_X10_28 : z_Fl RX10 28 10 5 RX10 TX10 13 := ⟨rfl, z_inX10, by decide, by decide, Or.inl (z_in (i := 278) (by decide +kernel) rfl)⟩
theorem zf_X7_35 : z_Fl RX7 35 7 5 RX7 TX7 10 := ⟨rfl, z_inX7, by decide, by decide, Or.inl (z_in (i := 595) (by decide +kernel) rfl)⟩
theorem zf_X7_39 : z_Fl RX7 39 7 6 RX7 TX7 10 := ⟨rfl, z_inX7, by decide, by decide, Or.inl (z_in (i := 596) (by decide +kernel) rfl)⟩
theorem zk_X10_step : Cond.code yX10_step cX10_step 1 (none) ∈ z_tbl := z_in (i := 759) (by decide +kernel) rfl
theorem zd_X10_step : yX10_step.cls ≠ "java/lang/invoke/MethodHandle" ∧ yX10_step.cls ≠ "java/lang/invoke/VarHandle" ∧ (parseMethodDescriptor yX10_step.desc).map (fun d => d.parameters.length) = some 0 := ⟨by decide +kernel, by decide +kernel, by decide +kernel⟩
theorem zn_X10_step : Cond.instanceMethod yX10_step ∈ z_tbl := z_in (i := 758) (by decide +kernel) rfl
theorem ze_X10_step : Cond.selects yX10_step.cls yX10_step yX10_step ∈ z_tbl := z_in (i := 7) (by decide +kernel) rfl
theorem zl_X7_115 : Cond.methodLink RX7 115 yX10_step ∈ z_tbl ∨ ∃ host, Cond.methodLinkNest RX7 115 yX10_step host ∈ z_nst := Or.inr ⟨"SaidSo", z_inN (i := 780) (by decide +kernel) rfl⟩
theorem zk_X2_add : Cond.code yX2_add cX2_add 2 (none) ∈ z_tbl := z_in (i := 893) (by decide +kernel) rfl
theorem zd_X2_add : yX2_add.cls ≠ "java/lang/invoke/MethodHandle" ∧ yX2_add.cls ≠ "java/lang/invoke/VarHandle" ∧ (parseMethodDescriptor yX2_add.desc).map (fun d => d.parameters.length) = some 1 := ⟨by decide +kernel, by decide +kernel, by decide +kernel⟩
theorem zn_X2_add : Cond.instanceMethod yX2_add ∈ z_tbl := z_in (i := 892) (by decide +kernel) rfl
theorem ze_X2_add : Cond.selects yX2_add.cls yX2_add yX2_add ∈ z_tbl := z_in (i := 39) (by decide +kernel) rfl
theorem zl_X7_236 : Cond.methodLink RX7 236 yX2_add ∈ z_tbl ∨ ∃ host, Cond.methodLinkNest RX7 236 yX2_add host ∈ z_nst := Or.inr ⟨"SaidSo", z_inN (i := 890) (by decide +kernel) rfl⟩
theorem zk_X7_rankOf : Cond.code yX7_rankOf cX7_rankOf 1 (some .int) ∈ z_tbl := z_in (i := 904) (by decide +kernel) rfl
theorem zd_X7_rankOf : yX7_rankOf.cls ≠ "java/lang/invoke/MethodHandle" ∧ yX7_rankOf.cls ≠ "java/lang/invoke/VarHandle" ∧ (parseMethodDescriptor yX7_rankOf.desc).map (fun d => d.parameters.length) = some 1 := ⟨by decide +kernel, by decide +kernel, by decide +kernel⟩
theorem zq_X7_rankOf : Cond.static yX7_rankOf ∈ z_tbl := z_in (i := 903) (by decide +kernel) rfl
theorem zl_X7_239 : Cond.methodLink RX7 239 yX7_rankOf ∈ z_tbl ∨ ∃ host, Cond.methodLinkNest RX7 239 yX7_rankOf host ∈ z_nst := Or.inl (z_in (i := 902) (by decide +kernel) rfl)
theorem zk_X7_release : Cond.code yX7_release cX7_release 3 (none) ∈ z_tbl := z_in (i := 901) (by decide +kernel) rfl
theorem zd_X7_release : yX7_release.cls ≠ "java/lang/invoke/MethodHandle" ∧ yX7_release.cls ≠ "java/lang/invoke/VarHandle" ∧ (parseMethodDescriptor yX7_release.desc).map (fun d => d.parameters.length) = some 2 := ⟨by decide +kernel, by decide +kernel, by decide +kernel⟩
theorem zn_X7_release : Cond.instanceMethod yX7_release ∈ z_tbl := z_in (i := 900) (by decide +kernel) rfl
theorem ze_X7_release : Cond.selects yX7_release.cls yX7_release yX7_release ∈ z_tbl := z_in (i := 41) (by decide +kernel) rfl
theorem zl_X7_220 : Cond.methodLink RX7 220 yX7_release ∈ z_tbl ∨ ∃ host, Cond.methodLinkNest RX7 220 yX7_release host ∈ z_nst := Or.inl (z_in (i := 898) (by decide +kernel) rfl)
theorem zk_X7_hold : Cond.code yX7_hold cX7_hold 2 (some .boolean) ∈ z_tbl := z_in (i := 882) (by decide +kernel) rfl
theorem zd_X7_hold : yX7_hold.cls ≠ "java/lang/invoke/MethodHandle" ∧ yX7_hold.cls ≠ "java/lang/invoke/VarHandle" ∧ (parseMethodDescriptor yX7_hold.desc).map (fun d => d.parameters.length) = some 1 := ⟨by decide +kernel, by decide +kernel, by decide +kernel⟩
theorem zn_X7_hold : Cond.instanceMethod yX7_hold ∈ z_tbl := z_in (i := 881) (by decide +kernel) rfl
theorem ze_X7_hold : Cond.selects yX7_hold.cls yX7_hold yX7_hold ∈ z_tbl := z_in (i := 37) (by decide +kernel) rfl
theorem zl_X7_230 : Cond.methodLink RX7 230 yX7_hold ∈ z_tbl ∨ ∃ host, Cond.methodLinkNest RX7 230 yX7_hold host ∈ z_nst := Or.inl (z_in (i := 879) (by decide +kernel) rfl)
theorem zf_X7_49 : z_Fl RX7 49 7 9 RX7 TX7 10 := ⟨rfl, z_inX7, by decide, by decide, Or.inl (z_in (i := 599) (by decide +kernel) rfl)⟩
theorem zk_X7_addKnot : Cond.code yX7_addKnot cX7_addKnot 1 (some .boolean) ∈ z_tbl := z_in (i := 886) (by decide +kernel) rfl
theorem zd_X7_addKnot : yX7_addKnot.cls ≠ "java/lang/invoke/MethodHandle" ∧ yX7_addKnot.cls ≠ "java/lang/invoke/VarHandle" ∧ (parseMethodDescriptor yX7_addKnot.desc).map (fun d => d.parameters.length) = some 0 := ⟨by decide +kernel, by decide +kernel, by decide +kernel⟩
theorem zn_X7_addKnot : Cond.instanceMethod yX7_addKnot ∈ z_tbl := z_in (i := 885) (by decide +kernel) rfl
theorem ze_X7_addKnot : Cond.selects yX7_addKnot.cls yX7_addKnot yX7_addKnot ∈ z_tbl := z_in (i := 38) (by decide +kernel) rfl
theorem zl_X7_227 : Cond.methodLink RX7 227 yX7_addKnot ∈ z_tbl ∨ ∃ host, Cond.methodLinkNest RX7 227 yX7_addKnot host ∈ z_nst := Or.inl (z_in (i := 883) (by decide +kernel) rfl)
theorem zf_X7_112 : z_Fl RX7 112 10 11 RX10 TX10 13 := ⟨rfl, z_inX10, by decide, by decide, Or.inr ⟨"SaidSo", z_inN (i := 286) (by decide +kernel) rfl⟩⟩
theorem zl_X7_233 : Cond.methodLink RX7 233 yX10_isName ∈ z_tbl ∨ ∃ host, Cond.methodLinkNest RX7 233 yX10_isName host ∈ z_nst := Or.inr ⟨"SaidSo", z_inN (i := 887) (by decide +kernel) rfl⟩
theorem zk_X7_readOpen : Cond.code yX7_readOpen cX7_readOpen 1 (some .boolean) ∈ z_tbl := z_in (i := 878) (by decide +kernel) rfl
theorem zd_X7_readOpen : yX7_readOpen.cls ≠ "java/lang/invoke/MethodHandle" ∧ yX7_readOpen.cls ≠ "java/lang/invoke/VarHandle" ∧ (parseMethodDescriptor yX7_readOpen.desc).map (fun d => d.parameters.length) = some 0 := ⟨by decide +kernel, by decide +kernel, by decide +kernel⟩
theorem zn_X7_readOpen : Cond.instanceMethod yX7_readOpen ∈ z_tbl := z_in (i := 877) (by decide +kernel) rfl
theorem ze_X7_readOpen : Cond.selects yX7_readOpen.cls yX7_readOpen yX7_readOpen ∈ z_tbl := z_in (i := 36) (by decide +kernel) rfl
theorem zl_X7_224 : Cond.methodLink RX7 224 yX7_readOpen ∈ z_tbl ∨ ∃ host, Cond.methodLinkNest RX7 224 yX7_readOpen host ∈ z_nst := Or.inl (z_in (i := 875) (by decide +kernel) rfl)
theorem zk_X7_readSign : Cond.code yX7_readSign cX7_readSign 4 (some .boolean) ∈ z_tbl := z_in (i := 908) (by decide +kernel) rfl
theorem zd_X7_readSign : yX7_readSign.cls ≠ "java/lang/invoke/MethodHandle" ∧ yX7_readSign.cls ≠ "java/lang/invoke/VarHandle" ∧ (parseMethodDescriptor yX7_readSign.desc).map (fun d => d.parameters.length) = some 1 := ⟨by decide +kernel, by decide +kernel, by decide +kernel⟩
theorem zn_X7_readSign : Cond.instanceMethod yX7_readSign ∈ z_tbl := z_in (i := 907) (by decide +kernel) rfl
theorem ze_X7_readSign : Cond.selects yX7_readSign.cls yX7_readSign yX7_readSign ∈ z_tbl := z_in (i := 42) (by decide +kernel) rfl
theorem zl_X7_217 : Cond.methodLink RX7 217 yX7_readSign ∈ z_tbl ∨ ∃ host, Cond.methodLinkNest RX7 217 yX7_readSign host ∈ z_nst := Or.inl (z_in (i := 905) (by decide +kernel) rfl)
theorem zk_X7_readClose : Cond.code yX7_readClose cX7_readClose 2 (some .boolean) ∈ z_tbl := z_in (i := 897) (by decide +kernel) rfl
theorem zd_X7_readClose : yX7_readClose.cls ≠ "java/lang/invoke/MethodHandle" ∧ yX7_readClose.cls ≠ "java/lang/invoke/VarHandle" ∧ (parseMethodDescriptor yX7_readClose.desc).map (fun d => d.parameters.length) = some 1 := ⟨by decide +kernel, by decide +kernel, by decide +kernel⟩
theorem zn_X7_readClose : Cond.instanceMethod yX7_readClose ∈ z_tbl := z_in (i := 896) (by decide +kernel) rfl
theorem ze_X7_readClose : Cond.selects yX7_readClose.cls yX7_readClose yX7_readClose ∈ z_tbl := z_in (i := 40) (by decide +kernel) rfl
theorem zl_X7_214 : Cond.methodLink RX7 214 yX7_readClose ∈ z_tbl ∨ ∃ host, Cond.methodLinkNest RX7 214 yX7_readClose host ∈ z_nst := Or.inl (z_in (i := 894) (by decide +kernel) rfl)
theorem zk_X7_readValue : Cond.code yX7_readValue cX7_readValue 3 (some .boolean) ∈ z_tbl := z_in (i := 874) (by decide +kernel) rfl
theorem zd_X7_readValue : yX7_readValue.cls ≠ "java/lang/invoke/MethodHandle" ∧ yX7_readValue.cls ≠ "java/lang/invoke/VarHandle" ∧ (parseMethodDescriptor yX7_readValue.desc).map (fun d => d.parameters.length) = some 1 := ⟨by decide +kernel, by decide +kernel, by decide +kernel⟩
theorem zn_X7_readValue : Cond.instanceMethod yX7_readValue ∈ z_tbl := z_in (i := 873) (by decide +kernel) rfl
theorem ze_X7_readValue : Cond.selects yX7_readValue.cls yX7_readValue yX7_readValue ∈ z_tbl := z_in (i := 35) (by decide +kernel) rfl
theorem zl_X7_211 : Cond.methodLink RX7 211 yX7_readValue ∈ z_tbl ∨ ∃ host, Cond.methodLinkNest RX7 211 yX7_readValue host ∈ z_nst := Or.inl (z_in (i := 871) (by decide +kernel) rfl)
theorem zk_X7_formulaEnds : Cond.code yX7_formulaEnds cX7_formulaEnds 1 (some .boolean) ∈ z_tbl := z_in (i := 870) (by decide +kernel) rfl
theorem zd_X7_formulaEnds : yX7_formulaEnds.cls ≠ "java/lang/invoke/MethodHandle" ∧ yX7_formulaEnds.cls ≠ "java/lang/invoke/VarHandle" ∧ (parseMethodDescriptor yX7_formulaEnds.desc).map (fun d => d.parameters.length) = some 0 := ⟨by decide +kernel, by decide +kernel, by decide +kernel⟩
theorem zn_X7_formulaEnds : Cond.instanceMethod yX7_formulaEnds ∈ z_tbl := z_in (i := 869) (by decide +kernel) rfl
theorem ze_X7_formulaEnds : Cond.selects yX7_formulaEnds.cls yX7_formulaEnds yX7_formulaEnds ∈ z_tbl := z_in (i := 34) (by decide +kernel) rfl
theorem zl_X7_208 : Cond.methodLink RX7 208 yX7_formulaEnds ∈ z_tbl ∨ ∃ host, Cond.methodLinkNest RX7 208 yX7_formulaEnds host ∈ z_nst := Or.inl (z_in (i := 867) (by decide +kernel) rfl)
theorem zf_X7_205 : z_Fl RX7 205 2 0 RX2 TX2 2 := ⟨rfl, z_inX2, by decide, by decide, Or.inr ⟨"SaidSo", z_inN (i := 510) (by decide +kernel) rfl⟩⟩
theorem zf_X7_32 : z_Fl RX7 32 7 4 RX7 TX7 10 := ⟨rfl, z_inX7, by decide, by decide, Or.inl (z_in (i := 594) (by decide +kernel) rfl)⟩
theorem zk_X7_take : Cond.code yX7_take cX7_take 2 (some .boolean) ∈ z_tbl := z_in (i := 793) (by decide +kernel) rfl
theorem zd_X7_take : yX7_take.cls ≠ "java/lang/invoke/MethodHandle" ∧ yX7_take.cls ≠ "java/lang/invoke/VarHandle" ∧ (parseMethodDescriptor yX7_take.desc).map (fun d => d.parameters.length) = some 1 := ⟨by decide +kernel, by decide +kernel, by decide +kernel⟩
theorem zn_X7_take : Cond.instanceMethod yX7_take ∈ z_tbl := z_in (i := 792) (by decide +kernel) rfl
theorem ze_X7_take : Cond.selects yX7_take.cls yX7_take yX7_take ∈ z_tbl := z_in (i := 15) (by decide +kernel) rfl
theorem zl_X7_62 : Cond.methodLink RX7 62 yX7_take ∈ z_tbl ∨ ∃ host, Cond.methodLinkNest RX7 62 yX7_take host ∈ z_nst := Or.inl (z_in (i := 790) (by decide +kernel) rfl)
theorem zf_X8_15 : z_Fl RX8 15 8 1 RX8 TX8 6 := ⟨rfl, z_inX8, by decide, by decide, Or.inl (z_in (i := 378) (by decide +kernel) rfl)⟩
theorem zk_X11_find : Cond.code yX11_find cX11_find 4 (some .int) ∈ z_tbl := z_in (i := 740) (by decide +kernel) rfl
theorem zd_X11_find : yX11_find.cls ≠ "java/lang/invoke/MethodHandle" ∧ yX11_find.cls ≠ "java/lang/invoke/VarHandle" ∧ (parseMethodDescriptor yX11_find.desc).map (fun d => d.parameters.length) = some 3 := ⟨by decide +kernel, by decide +kernel, by decide +kernel⟩
theorem zq_X11_find : Cond.static yX11_find ∈ z_tbl := z_in (i := 739) (by decide +kernel) rfl
theorem zl_X8_31 : Cond.methodLink RX8 31 yX11_find ∈ z_tbl ∨ ∃ host, Cond.methodLinkNest RX8 31 yX11_find host ∈ z_nst := Or.inr ⟨"SaidSo", z_inN (i := 818) (by decide +kernel) rfl⟩
theorem zf_X7_118 : z_Fl RX7 118 0 1 RX0 TX0 13 := ⟨rfl, z_inX0, by decide, by decide, Or.inr ⟨"SaidSo", z_inN (i := 526) (by decide +kernel) rfl⟩⟩
theorem zk_X8_numberOf : Cond.code yX8_numberOf cX8_numberOf 2 (some .int) ∈ z_tbl := z_in (i := 817) (by decide +kernel) rfl
theorem zd_X8_numberOf : yX8_numberOf.cls ≠ "java/lang/invoke/MethodHandle" ∧ yX8_numberOf.cls ≠ "java/lang/invoke/VarHandle" ∧ (parseMethodDescriptor yX8_numberOf.desc).map (fun d => d.parameters.length) = some 1 := ⟨by decide +kernel, by decide +kernel, by decide +kernel⟩
theorem zn_X8_numberOf : Cond.instanceMethod yX8_numberOf ∈ z_tbl := z_in (i := 816) (by decide +kernel) rfl
theorem ze_X8_numberOf : Cond.selects yX8_numberOf.cls yX8_numberOf yX8_numberOf ∈ z_tbl := z_in (i := 21) (by decide +kernel) rfl
theorem zl_X7_138 : Cond.methodLink RX7 138 yX8_numberOf ∈ z_tbl ∨ ∃ host, Cond.methodLinkNest RX7 138 yX8_numberOf host ∈ z_nst := Or.inr ⟨"SaidSo", z_inN (i := 814) (by decide +kernel) rfl⟩
theorem zk_X7_takeOldName : Cond.code yX7_takeOldName cX7_takeOldName 3 (some .boolean) ∈ z_tbl := z_in (i := 834) (by decide +kernel) rfl
theorem zd_X7_takeOldName : yX7_takeOldName.cls ≠ "java/lang/invoke/MethodHandle" ∧ yX7_takeOldName.cls ≠ "java/lang/invoke/VarHandle" ∧ (parseMethodDescriptor yX7_takeOldName.desc).map (fun d => d.parameters.length) = some 1 := ⟨by decide +kernel, by decide +kernel, by decide +kernel⟩
theorem zn_X7_takeOldName : Cond.instanceMethod yX7_takeOldName ∈ z_tbl := z_in (i := 833) (by decide +kernel) rfl
theorem ze_X7_takeOldName : Cond.selects yX7_takeOldName.cls yX7_takeOldName yX7_takeOldName ∈ z_tbl := z_in (i := 25) (by decide +kernel) rfl
theorem zl_X7_141 : Cond.methodLink RX7 141 yX7_takeOldName ∈ z_tbl ∨ ∃ host, Cond.methodLinkNest RX7 141 yX7_takeOldName host ∈ z_nst := Or.inl (z_in (i := 831) (by decide +kernel) rfl)
theorem zf_X9_15 : z_Fl RX9 15 9 1 RX9 TX9 6 := ⟨rfl, z_inX9, by decide, by decide, Or.inl (z_in (i := 334) (by decide +kernel) rfl)⟩
theorem zl_X9_31 : Cond.methodLink RX9 31 yX11_find ∈ z_tbl ∨ ∃ host, Cond.methodLinkNest RX9 31 yX11_find host ∈ z_nst := Or.inr ⟨"SaidSo", z_inN (i := 785) (by decide +kernel) rfl⟩
theorem zf_X7_144 : z_Fl RX7 144 0 0 RX0 TX0 13 := ⟨rfl, z_inX0, by decide, by decide, Or.inr ⟨"SaidSo", z_inN (i := 522) (by decide +kernel) rfl⟩⟩
theorem zk_X9_numberOf : Cond.code yX9_numberOf cX9_numberOf 2 (some .int) ∈ z_tbl := z_in (i := 784) (by decide +kernel) rfl
theorem zd_X9_numberOf : yX9_numberOf.cls ≠ "java/lang/invoke/MethodHandle" ∧ yX9_numberOf.cls ≠ "java/lang/invoke/VarHandle" ∧ (parseMethodDescriptor yX9_numberOf.desc).map (fun d => d.parameters.length) = some 1 := ⟨by decide +kernel, by decide +kernel, by decide +kernel⟩
theorem zn_X9_numberOf : Cond.instanceMethod yX9_numberOf ∈ z_tbl := z_in (i := 783) (by decide +kernel) rfl
theorem ze_X9_numberOf : Cond.selects yX9_numberOf.cls yX9_numberOf yX9_numberOf ∈ z_tbl := z_in (i := 13) (by decide +kernel) rfl
theorem zl_X7_148 : Cond.methodLink RX7 148 yX9_numberOf ∈ z_tbl ∨ ∃ host, Cond.methodLinkNest RX7 148 yX9_numberOf host ∈ z_nst := Or.inr ⟨"SaidSo", z_inN (i := 781) (by decide +kernel) rfl⟩
theorem zf_X7_151 : z_Fl RX7 151 9 2 RX9 TX9 6 := ⟨rfl, z_inX9, by decide, by decide, Or.inr ⟨"SaidSo", z_inN (i := 340) (by decide +kernel) rfl⟩⟩
theorem zk_X7_takeNumber : Cond.code yX7_takeNumber cX7_takeNumber 3 (some .boolean) ∈ z_tbl := z_in (i := 797) (by decide +kernel) rfl
theorem zd_X7_takeNumber : yX7_takeNumber.cls ≠ "java/lang/invoke/MethodHandle" ∧ yX7_takeNumber.cls ≠ "java/lang/invoke/VarHandle" ∧ (parseMethodDescriptor yX7_takeNumber.desc).map (fun d => d.parameters.length) = some 2 := ⟨by decide +kernel, by decide +kernel, by decide +kernel⟩
theorem zn_X7_takeNumber : Cond.instanceMethod yX7_takeNumber ∈ z_tbl := z_in (i := 796) (by decide +kernel) rfl
theorem ze_X7_takeNumber : Cond.selects yX7_takeNumber.cls yX7_takeNumber yX7_takeNumber ∈ z_tbl := z_in (i := 16) (by decide +kernel) rfl
theorem zl_X7_134 : Cond.methodLink RX7 134 yX7_takeNumber ∈ z_tbl ∨ ∃ host, Cond.methodLinkNest RX7 134 yX7_takeNumber host ∈ z_nst := Or.inl (z_in (i := 794) (by decide +kernel) rfl)
theorem zf_X7_197 : z_Fl RX7 197 0 3 RX0 TX0 13 := ⟨rfl, z_inX0, by decide, by decide, Or.inr ⟨"SaidSo", z_inN (i := 536) (by decide +kernel) rfl⟩⟩
theorem zk_X6_add : Cond.code yX6_add cX6_add 4 (none) ∈ z_tbl := z_in (i := 862) (by decide +kernel) rfl
theorem zd_X6_add : yX6_add.cls ≠ "java/lang/invoke/MethodHandle" ∧ yX6_add.cls ≠ "java/lang/invoke/VarHandle" ∧ (parseMethodDescriptor yX6_add.desc).map (fun d => d.parameters.length) = some 3 := ⟨by decide +kernel, by decide +kernel, by decide +kernel⟩
theorem zn_X6_add : Cond.instanceMethod yX6_add ∈ z_tbl := z_in (i := 861) (by decide +kernel) rfl
theorem ze_X6_add : Cond.selects yX6_add.cls yX6_add yX6_add ∈ z_tbl := z_in (i := 32) (by decide +kernel) rfl
theorem zl_X7_204 : Cond.methodLink RX7 204 yX6_add ∈ z_tbl ∨ ∃ host, Cond.methodLinkNest RX7 204 yX6_add host ∈ z_nst := Or.inr ⟨"SaidSo", z_inN (i := 859) (by decide +kernel) rfl⟩
theorem zk_X7_takeValue : Cond.code yX7_takeValue cX7_takeValue 2 (some .boolean) ∈ z_tbl := z_in (i := 850) (by decide +kernel) rfl
theorem zd_X7_takeValue : yX7_takeValue.cls ≠ "java/lang/invoke/MethodHandle" ∧ yX7_takeValue.cls ≠ "java/lang/invoke/VarHandle" ∧ (parseMethodDescriptor yX7_takeValue.desc).map (fun d => d.parameters.length) = some 1 := ⟨by decide +kernel, by decide +kernel, by decide +kernel⟩
theorem zn_X7_takeValue : Cond.instanceMethod yX7_takeValue ∈ z_tbl := z_in (i := 849) (by decide +kernel) rfl
theorem ze_X7_takeValue : Cond.selects yX7_takeValue.cls yX7_takeValue yX7_takeValue ∈ z_tbl := z_in (i := 29) (by decide +kernel) rfl
theorem zl_X7_191 : Cond.methodLink RX7 191 yX7_takeValue ∈ z_tbl ∨ ∃ host, Cond.methodLinkNest RX7 191 yX7_takeValue host ∈ z_nst := Or.inl (z_in (i := 847) (by decide +kernel) rfl)
theorem zk_X7_takeThing : Cond.code yX7_takeThing cX7_takeThing 1 (some .boolean) ∈ z_tbl := z_in (i := 846) (by decide +kernel) rfl
theorem zd_X7_takeThing : yX7_takeThing.cls ≠ "java/lang/invoke/MethodHandle" ∧ yX7_takeThing.cls ≠ "java/lang/invoke/VarHandle" ∧ (parseMethodDescriptor yX7_takeThing.desc).map (fun d => d.parameters.length) = some 0 := ⟨by decide +kernel, by decide +kernel, by decide +kernel⟩
theorem zn_X7_takeThing : Cond.instanceMethod yX7_takeThing ∈ z_tbl := z_in (i := 845) (by decide +kernel) rfl
theorem ze_X7_takeThing : Cond.selects yX7_takeThing.cls yX7_takeThing yX7_takeThing ∈ z_tbl := z_in (i := 28) (by decide +kernel) rfl
theorem zl_X7_188 : Cond.methodLink RX7 188 yX7_takeThing ∈ z_tbl ∨ ∃ host, Cond.methodLinkNest RX7 188 yX7_takeThing host ∈ z_nst := Or.inl (z_in (i := 843) (by decide +kernel) rfl)
theorem zk_X7_takeTeller : Cond.code yX7_takeTeller cX7_takeTeller 1 (some .boolean) ∈ z_tbl := z_in (i := 830) (by decide +kernel) rfl
theorem zd_X7_takeTeller : yX7_takeTeller.cls ≠ "java/lang/invoke/MethodHandle" ∧ yX7_takeTeller.cls ≠ "java/lang/invoke/VarHandle" ∧ (parseMethodDescriptor yX7_takeTeller.desc).map (fun d => d.parameters.length) = some 0 := ⟨by decide +kernel, by decide +kernel, by decide +kernel⟩
theorem zn_X7_takeTeller : Cond.instanceMethod yX7_takeTeller ∈ z_tbl := z_in (i := 829) (by decide +kernel) rfl
theorem ze_X7_takeTeller : Cond.selects yX7_takeTeller.cls yX7_takeTeller yX7_takeTeller ∈ z_tbl := z_in (i := 24) (by decide +kernel) rfl
theorem zl_X7_182 : Cond.methodLink RX7 182 yX7_takeTeller ∈ z_tbl ∨ ∃ host, Cond.methodLinkNest RX7 182 yX7_takeTeller host ∈ z_nst := Or.inl (z_in (i := 827) (by decide +kernel) rfl)
theorem zf_X7_201 : z_Fl RX7 201 6 0 RX6 TX6 6 := ⟨rfl, z_inX6, by decide, by decide, Or.inr ⟨"SaidSo", z_inN (i := 474) (by decide +kernel) rfl⟩⟩
theorem zf_X7_122 : z_Fl RX7 122 8 3 RX8 TX8 6 := ⟨rfl, z_inX8, by decide, by decide, Or.inr ⟨"SaidSo", z_inN (i := 384) (by decide +kernel) rfl⟩⟩
theorem zf_X7_127 : z_Fl RX7 127 8 4 RX8 TX8 6 := ⟨rfl, z_inX8, by decide, by decide, Or.inr ⟨"SaidSo", z_inN (i := 389) (by decide +kernel) rfl⟩⟩
theorem zf_X7_69 : z_Fl RX7 69 0 2 RX0 TX0 13 := ⟨rfl, z_inX0, by decide, by decide, Or.inr ⟨"SaidSo", z_inN (i := 529) (by decide +kernel) rfl⟩⟩
theorem zl_X7_130 : Cond.methodLink RX7 130 yX3_latestHour ∈ z_tbl ∨ ∃ host, Cond.methodLinkNest RX7 130 yX3_latestHour host ∈ z_nst := Or.inr ⟨"SaidSo", z_inN (i := 839) (by decide +kernel) rfl⟩
theorem zk_X3_add : Cond.code yX3_add cX3_add 6 (none) ∈ z_tbl := z_in (i := 854) (by decide +kernel) rfl
theorem zd_X3_add : yX3_add.cls ≠ "java/lang/invoke/MethodHandle" ∧ yX3_add.cls ≠ "java/lang/invoke/VarHandle" ∧ (parseMethodDescriptor yX3_add.desc).map (fun d => d.parameters.length) = some 5 := ⟨by decide +kernel, by decide +kernel, by decide +kernel⟩
theorem zn_X3_add : Cond.instanceMethod yX3_add ∈ z_tbl := z_in (i := 853) (by decide +kernel) rfl
theorem ze_X3_add : Cond.selects yX3_add.cls yX3_add yX3_add ∈ z_tbl := z_in (i := 30) (by decide +kernel) rfl
theorem zl_X7_194 : Cond.methodLink RX7 194 yX3_add ∈ z_tbl ∨ ∃ host, Cond.methodLinkNest RX7 194 yX3_add host ∈ z_nst := Or.inr ⟨"SaidSo", z_inN (i := 851) (by decide +kernel) rfl⟩
theorem zk_X7_takeHour : Cond.code yX7_takeHour cX7_takeHour 4 (some .boolean) ∈ z_tbl := z_in (i := 838) (by decide +kernel) rfl
theorem zd_X7_takeHour : yX7_takeHour.cls ≠ "java/lang/invoke/MethodHandle" ∧ yX7_takeHour.cls ≠ "java/lang/invoke/VarHandle" ∧ (parseMethodDescriptor yX7_takeHour.desc).map (fun d => d.parameters.length) = some 1 := ⟨by decide +kernel, by decide +kernel, by decide +kernel⟩
theorem zn_X7_takeHour : Cond.instanceMethod yX7_takeHour ∈ z_tbl := z_in (i := 837) (by decide +kernel) rfl
theorem ze_X7_takeHour : Cond.selects yX7_takeHour.cls yX7_takeHour yX7_takeHour ∈ z_tbl := z_in (i := 26) (by decide +kernel) rfl
theorem zl_X7_185 : Cond.methodLink RX7 185 yX7_takeHour ∈ z_tbl ∨ ∃ host, Cond.methodLinkNest RX7 185 yX7_takeHour host ∈ z_nst := Or.inl (z_in (i := 835) (by decide +kernel) rfl)
theorem zf_X7_73 : z_Fl RX7 73 3 0 RX3 TX3 7 := ⟨rfl, z_inX3, by decide, by decide, Or.inr ⟨"SaidSo", z_inN (i := 419) (by decide +kernel) rfl⟩⟩
theorem zf_X8_19 : z_Fl RX8 19 8 2 RX8 TX8 6 := ⟨rfl, z_inX8, by decide, by decide, Or.inl (z_in (i := 379) (by decide +kernel) rfl)⟩
theorem zf_X8_25 : z_Fl RX8 25 8 4 RX8 TX8 6 := ⟨rfl, z_inX8, by decide, by decide, Or.inl (z_in (i := 387) (by decide +kernel) rfl)⟩
theorem zf_X7_179 : z_Fl RX7 179 8 5 RX8 TX8 6 := ⟨rfl, z_inX8, by decide, by decide, Or.inr ⟨"SaidSo", z_inN (i := 395) (by decide +kernel) rfl⟩⟩
theorem zf_X7_175 : z_Fl RX7 175 8 0 RX8 TX8 6 := ⟨rfl, z_inX8, by decide, by decide, Or.inr ⟨"SaidSo", z_inN (i := 376) (by decide +kernel) rfl⟩⟩
theorem zk_X8_add : Cond.code yX8_add cX8_add 5 (none) ∈ z_tbl := z_in (i := 822) (by decide +kernel) rfl
theorem zd_X8_add : yX8_add.cls ≠ "java/lang/invoke/MethodHandle" ∧ yX8_add.cls ≠ "java/lang/invoke/VarHandle" ∧ (parseMethodDescriptor yX8_add.desc).map (fun d => d.parameters.length) = some 4 := ⟨by decide +kernel, by decide +kernel, by decide +kernel⟩
theorem zn_X8_add : Cond.instanceMethod yX8_add ∈ z_tbl := z_in (i := 821) (by decide +kernel) rfl
theorem ze_X8_add : Cond.selects yX8_add.cls yX8_add yX8_add ∈ z_tbl := z_in (i := 22) (by decide +kernel) rfl
theorem zl_X7_176 : Cond.methodLink RX7 176 yX8_add ∈ z_tbl ∨ ∃ host, Cond.methodLinkNest RX7 176 yX8_add host ∈ z_nst := Or.inr ⟨"SaidSo", z_inN (i := 819) (by decide +kernel) rfl⟩
theorem zk_X7_takeNewName : Cond.code yX7_takeNewName cX7_takeNewName 2 (some .boolean) ∈ z_tbl := z_in (i := 789) (by decide +kernel) rfl
theorem zd_X7_takeNewName : yX7_takeNewName.cls ≠ "java/lang/invoke/MethodHandle" ∧ yX7_takeNewName.cls ≠ "java/lang/invoke/VarHandle" ∧ (parseMethodDescriptor yX7_takeNewName.desc).map (fun d => d.parameters.length) = some 1 := ⟨by decide +kernel, by decide +kernel, by decide +kernel⟩
theorem zn_X7_takeNewName : Cond.instanceMethod yX7_takeNewName ∈ z_tbl := z_in (i := 788) (by decide +kernel) rfl
theorem ze_X7_takeNewName : Cond.selects yX7_takeNewName.cls yX7_takeNewName yX7_takeNewName ∈ z_tbl := z_in (i := 14) (by decide +kernel) rfl
theorem zl_X7_155 : Cond.methodLink RX7 155 yX7_takeNewName ∈ z_tbl ∨ ∃ host, Cond.methodLinkNest RX7 155 yX7_takeNewName host ∈ z_nst := Or.inl (z_in (i := 786) (by decide +kernel) rfl)
theorem zf_X7_154 : z_Fl RX7 154 9 0 RX9 TX9 6 := ⟨rfl, z_inX9, by decide, by decide, Or.inr ⟨"SaidSo", z_inN (i := 332) (by decide +kernel) rfl⟩⟩
theorem zl_X7_172 : Cond.methodLink RX7 172 yX9_has ∈ z_tbl ∨ ∃ host, Cond.methodLinkNest RX7 172 yX9_has host ∈ z_nst := Or.inr ⟨"SaidSo", z_inN (i := 806) (by decide +kernel) rfl⟩
theorem zf_X9_19 : z_Fl RX9 19 9 2 RX9 TX9 6 := ⟨rfl, z_inX9, by decide, by decide, Or.inl (z_in (i := 335) (by decide +kernel) rfl)⟩
theorem zf_X9_22 : z_Fl RX9 22 9 3 RX9 TX9 6 := ⟨rfl, z_inX9, by decide, by decide, Or.inl (z_in (i := 341) (by decide +kernel) rfl)⟩
theorem zf_X9_25 : z_Fl RX9 25 9 4 RX9 TX9 6 := ⟨rfl, z_inX9, by decide, by decide, Or.inl (z_in (i := 347) (by decide +kernel) rfl)⟩
theorem zf_X9_28 : z_Fl RX9 28 9 5 RX9 TX9 6 := ⟨rfl, z_inX9, by decide, by decide, Or.inl (z_in (i := 351) (by decide +kernel) rfl)⟩
theorem zf_X7_169 : z_Fl RX7 169 9 5 RX9 TX9 6 := ⟨rfl, z_inX9, by decide, by decide, Or.inr ⟨"SaidSo", z_inN (i := 354) (by decide +kernel) rfl⟩⟩
theorem zk_X7_takeSince : Cond.code yX7_takeSince cX7_takeSince 3 (some .boolean) ∈ z_tbl := z_in (i := 805) (by decide +kernel) rfl
theorem zd_X7_takeSince : yX7_takeSince.cls ≠ "java/lang/invoke/MethodHandle" ∧ yX7_takeSince.cls ≠ "java/lang/invoke/VarHandle" ∧ (parseMethodDescriptor yX7_takeSince.desc).map (fun d => d.parameters.length) = some 1 := ⟨by decide +kernel, by decide +kernel, by decide +kernel⟩
theorem zn_X7_takeSince : Cond.instanceMethod yX7_takeSince ∈ z_tbl := z_in (i := 804) (by decide +kernel) rfl
theorem ze_X7_takeSince : Cond.selects yX7_takeSince.cls yX7_takeSince yX7_takeSince ∈ z_tbl := z_in (i := 18) (by decide +kernel) rfl
theorem zl_X7_165 : Cond.methodLink RX7 165 yX7_takeSince ∈ z_tbl ∨ ∃ host, Cond.methodLinkNest RX7 165 yX7_takeSince host ∈ z_nst := Or.inl (z_in (i := 802) (by decide +kernel) rfl)
theorem zf_X7_162 : z_Fl RX7 162 9 4 RX9 TX9 6 := ⟨rfl, z_inX9, by decide, by decide, Or.inr ⟨"SaidSo", z_inN (i := 350) (by decide +kernel) rfl⟩⟩
theorem zk_X9_add : Cond.code yX9_add cX9_add 4 (none) ∈ z_tbl := z_in (i := 801) (by decide +kernel) rfl
theorem zd_X9_add : yX9_add.cls ≠ "java/lang/invoke/MethodHandle" ∧ yX9_add.cls ≠ "java/lang/invoke/VarHandle" ∧ (parseMethodDescriptor yX9_add.desc).map (fun d => d.parameters.length) = some 3 := ⟨by decide +kernel, by decide +kernel, by decide +kernel⟩
theorem zn_X9_add : Cond.instanceMethod yX9_add ∈ z_tbl := z_in (i := 800) (by decide +kernel) rfl
theorem ze_X9_add : Cond.selects yX9_add.cls yX9_add yX9_add ∈ z_tbl := z_in (i := 17) (by decide +kernel) rfl
theorem zl_X7_158 : Cond.methodLink RX7 158 yX9_add ∈ z_tbl ∨ ∃ host, Cond.methodLinkNest RX7 158 yX9_add host ∈ z_nst := Or.inr ⟨"SaidSo", z_inN (i := 798) (by decide +kernel) rfl⟩
theorem zf_X7_105 : z_Fl RX7 105 0 6 RX0 TX0 13 := ⟨rfl, z_inX0, by decide, by decide, Or.inr ⟨"SaidSo", z_inN (i := 545) (by decide +kernel) rfl⟩⟩
theorem zk_X7_readFormula : Cond.code yX7_readFormula cX7_readFormula 4 (some .boolean) ∈ z_tbl := z_in (i := 866) (by decide +kernel) rfl
theorem zd_X7_readFormula : yX7_readFormula.cls ≠ "java/lang/invoke/MethodHandle" ∧ yX7_readFormula.cls ≠ "java/lang/invoke/VarHandle" ∧ (parseMethodDescriptor yX7_readFormula.desc).map (fun d => d.parameters.length) = some 1 := ⟨by decide +kernel, by decide +kernel, by decide +kernel⟩
theorem zn_X7_readFormula : Cond.instanceMethod yX7_readFormula ∈ z_tbl := z_in (i := 865) (by decide +kernel) rfl
theorem ze_X7_readFormula : Cond.selects yX7_readFormula.cls yX7_readFormula yX7_readFormula ∈ z_tbl := z_in (i := 33) (by decide +kernel) rfl
theorem zl_X7_98 : Cond.methodLink RX7 98 yX7_readFormula ∈ z_tbl ∨ ∃ host, Cond.methodLinkNest RX7 98 yX7_readFormula host ∈ z_nst := Or.inl (z_in (i := 863) (by decide +kernel) rfl)
theorem zf_X7_102 : z_Fl RX7 102 0 5 RX0 TX0 13 := ⟨rfl, z_inX0, by decide, by decide, Or.inr ⟨"SaidSo", z_inN (i := 543) (by decide +kernel) rfl⟩⟩
theorem zf_X7_94 : z_Fl RX7 94 0 4 RX0 TX0 13 := ⟨rfl, z_inX0, by decide, by decide, Or.inr ⟨"SaidSo", z_inN (i := 540) (by decide +kernel) rfl⟩⟩
theorem zk_X7_readPage : Cond.code yX7_readPage cX7_readPage 3 (some .boolean) ∈ z_tbl := z_in (i := 858) (by decide +kernel) rfl
theorem zd_X7_readPage : yX7_readPage.cls ≠ "java/lang/invoke/MethodHandle" ∧ yX7_readPage.cls ≠ "java/lang/invoke/VarHandle" ∧ (parseMethodDescriptor yX7_readPage.desc).map (fun d => d.parameters.length) = some 0 := ⟨by decide +kernel, by decide +kernel, by decide +kernel⟩
theorem zn_X7_readPage : Cond.instanceMethod yX7_readPage ∈ z_tbl := z_in (i := 857) (by decide +kernel) rfl
theorem ze_X7_readPage : Cond.selects yX7_readPage.cls yX7_readPage yX7_readPage ∈ z_tbl := z_in (i := 31) (by decide +kernel) rfl
theorem zl_X7_91 : Cond.methodLink RX7 91 yX7_readPage ∈ z_tbl ∨ ∃ host, Cond.methodLinkNest RX7 91 yX7_readPage host ∈ z_nst := Or.inl (z_in (i := 855) (by decide +kernel) rfl)
theorem zk_X7_readTalk : Cond.code yX7_readTalk cX7_readTalk 6 (some .boolean) ∈ z_tbl := z_in (i := 826) (by decide +kernel) rfl
theorem zd_X7_readTalk : yX7_readTalk.cls ≠ "java/lang/invoke/MethodHandle" ∧ yX7_readTalk.cls ≠ "java/lang/invoke/VarHandle" ∧ (parseMethodDescriptor yX7_readTalk.desc).map (fun d => d.parameters.length) = some 1 := ⟨by decide +kernel, by decide +kernel, by decide +kernel⟩
theorem zn_X7_readTalk : Cond.instanceMethod yX7_readTalk ∈ z_tbl := z_in (i := 825) (by decide +kernel) rfl
theorem ze_X7_readTalk : Cond.selects yX7_readTalk.cls yX7_readTalk yX7_readTalk ∈ z_tbl := z_in (i := 23) (by decide +kernel) rfl
theorem zl_X7_87 : Cond.methodLink RX7 87 yX7_readTalk ∈ z_tbl ∨ ∃ host, Cond.methodLinkNest RX7 87 yX7_readTalk host ∈ z_nst := Or.inl (z_in (i := 823) (by decide +kernel) rfl)
theorem zk_X7_readTeller : Cond.code yX7_readTeller cX7_readTeller 6 (some .boolean) ∈ z_tbl := z_in (i := 813) (by decide +kernel) rfl
theorem zd_X7_readTeller : yX7_readTeller.cls ≠ "java/lang/invoke/MethodHandle" ∧ yX7_readTeller.cls ≠ "java/lang/invoke/VarHandle" ∧ (parseMethodDescriptor yX7_readTeller.desc).map (fun d => d.parameters.length) = some 0 := ⟨by decide +kernel, by decide +kernel, by decide +kernel⟩
theorem zn_X7_readTeller : Cond.instanceMethod yX7_readTeller ∈ z_tbl := z_in (i := 812) (by decide +kernel) rfl
theorem ze_X7_readTeller : Cond.selects yX7_readTeller.cls yX7_readTeller yX7_readTeller ∈ z_tbl := z_in (i := 20) (by decide +kernel) rfl
theorem zl_X7_84 : Cond.methodLink RX7 84 yX7_readTeller ∈ z_tbl ∨ ∃ host, Cond.methodLinkNest RX7 84 yX7_readTeller host ∈ z_nst := Or.inl (z_in (i := 810) (by decide +kernel) rfl)
theorem zk_X7_readThing : Cond.code yX7_readThing cX7_readThing 6 (some .boolean) ∈ z_tbl := z_in (i := 775) (by decide +kernel) rfl
theorem zd_X7_readThing : yX7_readThing.cls ≠ "java/lang/invoke/MethodHandle" ∧ yX7_readThing.cls ≠ "java/lang/invoke/VarHandle" ∧ (parseMethodDescriptor yX7_readThing.desc).map (fun d => d.parameters.length) = some 0 := ⟨by decide +kernel, by decide +kernel, by decide +kernel⟩
theorem zn_X7_readThing : Cond.instanceMethod yX7_readThing ∈ z_tbl := z_in (i := 774) (by decide +kernel) rfl
theorem ze_X7_readThing : Cond.selects yX7_readThing.cls yX7_readThing yX7_readThing ∈ z_tbl := z_in (i := 11) (by decide +kernel) rfl
theorem zl_X7_81 : Cond.methodLink RX7 81 yX7_readThing ∈ z_tbl ∨ ∃ host, Cond.methodLinkNest RX7 81 yX7_readThing host ∈ z_nst := Or.inl (z_in (i := 772) (by decide +kernel) rfl)
theorem zf_X7_78 : z_Fl RX7 78 3 1 RX3 TX3 7 := ⟨rfl, z_inX3, by decide, by decide, Or.inr ⟨"SaidSo", z_inN (i := 425) (by decide +kernel) rfl⟩⟩
theorem zf_X7_66 : z_Fl RX7 66 0 7 RX0 TX0 13 := ⟨rfl, z_inX0, by decide, by decide, Or.inr ⟨"SaidSo", z_inN (i := 548) (by decide +kernel) rfl⟩⟩
theorem zk_X7_readLine : Cond.code yX7_readLine cX7_readLine 1 (some .boolean) ∈ z_tbl := z_in (i := 771) (by decide +kernel) rfl
theorem zd_X7_readLine : yX7_readLine.cls ≠ "java/lang/invoke/MethodHandle" ∧ yX7_readLine.cls ≠ "java/lang/invoke/VarHandle" ∧ (parseMethodDescriptor yX7_readLine.desc).map (fun d => d.parameters.length) = some 0 := ⟨by decide +kernel, by decide +kernel, by decide +kernel⟩
theorem zn_X7_readLine : Cond.instanceMethod yX7_readLine ∈ z_tbl := z_in (i := 770) (by decide +kernel) rfl
theorem ze_X7_readLine : Cond.selects yX7_readLine.cls yX7_readLine yX7_readLine ∈ z_tbl := z_in (i := 10) (by decide +kernel) rfl
theorem zl_X7_58 : Cond.methodLink RX7 58 yX7_readLine ∈ z_tbl ∨ ∃ host, Cond.methodLinkNest RX7 58 yX7_readLine host ∈ z_nst := Or.inl (z_in (i := 768) (by decide +kernel) rfl)
theorem zk_X0_clear : Cond.code yX0_clear cX0_clear 1 (none) ∈ z_tbl := z_in (i := 767) (by decide +kernel) rfl
theorem zd_X0_clear : yX0_clear.cls ≠ "java/lang/invoke/MethodHandle" ∧ yX0_clear.cls ≠ "java/lang/invoke/VarHandle" ∧ (parseMethodDescriptor yX0_clear.desc).map (fun d => d.parameters.length) = some 0 := ⟨by decide +kernel, by decide +kernel, by decide +kernel⟩
theorem zn_X0_clear : Cond.instanceMethod yX0_clear ∈ z_tbl := z_in (i := 766) (by decide +kernel) rfl
theorem ze_X0_clear : Cond.selects yX0_clear.cls yX0_clear yX0_clear ∈ z_tbl := z_in (i := 9) (by decide +kernel) rfl
theorem zl_X7_52 : Cond.methodLink RX7 52 yX0_clear ∈ z_tbl ∨ ∃ host, Cond.methodLinkNest RX7 52 yX0_clear host ∈ z_nst := Or.inr ⟨"SaidSo", z_inN (i := 764) (by decide +kernel) rfl⟩
theorem zf_X10_15 : z_Fl RX10 15 10 1 RX10 TX10 13 := ⟨rfl, z_inX10, by decide, by decide, Or.inl (z_in (i := 273) (by decide +kernel) rfl)⟩
theorem zf_X10_25 : z_Fl RX10 25 10 4 RX10 TX10 13 := ⟨rfl, z_inX10, by decide, by decide, Or.inl (z_in (i := 277) (by decide +kernel) rfl)⟩
theorem zml_X10_67 : Cond.methodLink RX10 67 Lib.Math.min.name ∈ z_tbl := z_in (i := 724) (by decide +kernel) rfl
theorem zk_X10_isDigit : Cond.code yX10_isDigit cX10_isDigit 1 (some .boolean) ∈ z_tbl := z_in (i := 743) (by decide +kernel) rfl
theorem zd_X10_isDigit : yX10_isDigit.cls ≠ "java/lang/invoke/MethodHandle" ∧ yX10_isDigit.cls ≠ "java/lang/invoke/VarHandle" ∧ (parseMethodDescriptor yX10_isDigit.desc).map (fun d => d.parameters.length) = some 1 := ⟨by decide +kernel, by decide +kernel, by decide +kernel⟩
theorem zq_X10_isDigit : Cond.static yX10_isDigit ∈ z_tbl := z_in (i := 742) (by decide +kernel) rfl
theorem zl_X10_85 : Cond.methodLink RX10 85 yX10_isDigit ∈ z_tbl ∨ ∃ host, Cond.methodLinkNest RX10 85 yX10_isDigit host ∈ z_nst := Or.inl (z_in (i := 741) (by decide +kernel) rfl)
theorem zf_X10_22 : z_Fl RX10 22 10 3 RX10 TX10 13 := ⟨rfl, z_inX10, by decide, by decide, Or.inl (z_in (i := 276) (by decide +kernel) rfl)⟩
theorem zk_X10_goesOn : Cond.code yX10_goesOn cX10_goesOn 2 (some .boolean) ∈ z_tbl := z_in (i := 755) (by decide +kernel) rfl
theorem zd_X10_goesOn : yX10_goesOn.cls ≠ "java/lang/invoke/MethodHandle" ∧ yX10_goesOn.cls ≠ "java/lang/invoke/VarHandle" ∧ (parseMethodDescriptor yX10_goesOn.desc).map (fun d => d.parameters.length) = some 1 := ⟨by decide +kernel, by decide +kernel, by decide +kernel⟩
theorem zn_X10_goesOn : Cond.instanceMethod yX10_goesOn ∈ z_tbl := z_in (i := 754) (by decide +kernel) rfl
theorem ze_X10_goesOn : Cond.selects yX10_goesOn.cls yX10_goesOn yX10_goesOn ∈ z_tbl := z_in (i := 6) (by decide +kernel) rfl
theorem zl_X10_98 : Cond.methodLink RX10 98 yX10_goesOn ∈ z_tbl ∨ ∃ host, Cond.methodLinkNest RX10 98 yX10_goesOn host ∈ z_nst := Or.inl (z_in (i := 752) (by decide +kernel) rfl)
theorem zf_X10_11 : z_Fl RX10 11 10 0 RX10 TX10 13 := ⟨rfl, z_inX10, by decide, by decide, Or.inl (z_in (i := 272) (by decide +kernel) rfl)⟩
theorem zl_X10_94 : Cond.methodLink RX10 94 yX11_find ∈ z_tbl ∨ ∃ host, Cond.methodLinkNest RX10 94 yX11_find host ∈ z_nst := Or.inr ⟨"SaidSo", z_inN (i := 738) (by decide +kernel) rfl⟩
theorem zk_X10_inPlace : Cond.code yX10_inPlace cX10_inPlace 2 (some .int) ∈ z_tbl := z_in (i := 271) (by decide +kernel) rfl
theorem zd_X10_inPlace : yX10_inPlace.cls ≠ "java/lang/invoke/MethodHandle" ∧ yX10_inPlace.cls ≠ "java/lang/invoke/VarHandle" ∧ (parseMethodDescriptor yX10_inPlace.desc).map (fun d => d.parameters.length) = some 2 := ⟨by decide +kernel, by decide +kernel, by decide +kernel⟩
theorem zq_X10_inPlace : Cond.static yX10_inPlace ∈ z_tbl := z_in (i := 270) (by decide +kernel) rfl
theorem zl_X10_63 : Cond.methodLink RX10 63 yX10_inPlace ∈ z_tbl ∨ ∃ host, Cond.methodLinkNest RX10 63 yX10_inPlace host ∈ z_nst := Or.inl (z_in (i := 269) (by decide +kernel) rfl)
theorem zk_X10_isLetter : Cond.code yX10_isLetter cX10_isLetter 1 (some .boolean) ∈ z_tbl := z_in (i := 733) (by decide +kernel) rfl
theorem zd_X10_isLetter : yX10_isLetter.cls ≠ "java/lang/invoke/MethodHandle" ∧ yX10_isLetter.cls ≠ "java/lang/invoke/VarHandle" ∧ (parseMethodDescriptor yX10_isLetter.desc).map (fun d => d.parameters.length) = some 1 := ⟨by decide +kernel, by decide +kernel, by decide +kernel⟩
theorem zq_X10_isLetter : Cond.static yX10_isLetter ∈ z_tbl := z_in (i := 732) (by decide +kernel) rfl
theorem zl_X10_78 : Cond.methodLink RX10 78 yX10_isLetter ∈ z_tbl ∨ ∃ host, Cond.methodLinkNest RX10 78 yX10_isLetter host ∈ z_nst := Or.inl (z_in (i := 731) (by decide +kernel) rfl)
theorem zk_X10_cutSign : Cond.code yX10_cutSign cX10_cutSign 2 (none) ∈ z_tbl := z_in (i := 751) (by decide +kernel) rfl
theorem zd_X10_cutSign : yX10_cutSign.cls ≠ "java/lang/invoke/MethodHandle" ∧ yX10_cutSign.cls ≠ "java/lang/invoke/VarHandle" ∧ (parseMethodDescriptor yX10_cutSign.desc).map (fun d => d.parameters.length) = some 0 := ⟨by decide +kernel, by decide +kernel, by decide +kernel⟩
theorem zn_X10_cutSign : Cond.instanceMethod yX10_cutSign ∈ z_tbl := z_in (i := 750) (by decide +kernel) rfl
theorem ze_X10_cutSign : Cond.selects yX10_cutSign.cls yX10_cutSign yX10_cutSign ∈ z_tbl := z_in (i := 5) (by decide +kernel) rfl
theorem zl_X10_91 : Cond.methodLink RX10 91 yX10_cutSign ∈ z_tbl ∨ ∃ host, Cond.methodLinkNest RX10 91 yX10_cutSign host ∈ z_nst := Or.inl (z_in (i := 748) (by decide +kernel) rfl)
theorem zk_X10_cutNumber : Cond.code yX10_cutNumber cX10_cutNumber 1 (none) ∈ z_tbl := z_in (i := 747) (by decide +kernel) rfl
theorem zd_X10_cutNumber : yX10_cutNumber.cls ≠ "java/lang/invoke/MethodHandle" ∧ yX10_cutNumber.cls ≠ "java/lang/invoke/VarHandle" ∧ (parseMethodDescriptor yX10_cutNumber.desc).map (fun d => d.parameters.length) = some 0 := ⟨by decide +kernel, by decide +kernel, by decide +kernel⟩
theorem zn_X10_cutNumber : Cond.instanceMethod yX10_cutNumber ∈ z_tbl := z_in (i := 746) (by decide +kernel) rfl
theorem ze_X10_cutNumber : Cond.selects yX10_cutNumber.cls yX10_cutNumber yX10_cutNumber ∈ z_tbl := z_in (i := 4) (by decide +kernel) rfl
theorem zl_X10_88 : Cond.methodLink RX10 88 yX10_cutNumber ∈ z_tbl ∨ ∃ host, Cond.methodLinkNest RX10 88 yX10_cutNumber host ∈ z_nst := Or.inl (z_in (i := 744) (by decide +kernel) rfl)
theorem zk_X10_cutWord : Cond.code yX10_cutWord cX10_cutWord 3 (none) ∈ z_tbl := z_in (i := 737) (by decide +kernel) rfl
theorem zd_X10_cutWord : yX10_cutWord.cls ≠ "java/lang/invoke/MethodHandle" ∧ yX10_cutWord.cls ≠ "java/lang/invoke/VarHandle" ∧ (parseMethodDescriptor yX10_cutWord.desc).map (fun d => d.parameters.length) = some 0 := ⟨by decide +kernel, by decide +kernel, by decide +kernel⟩
theorem zn_X10_cutWord : Cond.instanceMethod yX10_cutWord ∈ z_tbl := z_in (i := 736) (by decide +kernel) rfl
theorem ze_X10_cutWord : Cond.selects yX10_cutWord.cls yX10_cutWord yX10_cutWord ∈ z_tbl := z_in (i := 3) (by decide +kernel) rfl
theorem zl_X10_82 : Cond.methodLink RX10 82 yX10_cutWord ∈ z_tbl ∨ ∃ host, Cond.methodLinkNest RX10 82 yX10_cutWord host ∈ z_nst := Or.inl (z_in (i := 734) (by decide +kernel) rfl)
theorem zl_X10_75 : Cond.methodLink RX10 75 yX10_step ∈ z_tbl ∨ ∃ host, Cond.methodLinkNest RX10 75 yX10_step host ∈ z_nst := Or.inl (z_in (i := 756) (by decide +kernel) rfl)
theorem zk_X10_cutOne : Cond.code yX10_cutOne cX10_cutOne 1 (none) ∈ z_tbl := z_in (i := 730) (by decide +kernel) rfl
theorem zd_X10_cutOne : yX10_cutOne.cls ≠ "java/lang/invoke/MethodHandle" ∧ yX10_cutOne.cls ≠ "java/lang/invoke/VarHandle" ∧ (parseMethodDescriptor yX10_cutOne.desc).map (fun d => d.parameters.length) = some 0 := ⟨by decide +kernel, by decide +kernel, by decide +kernel⟩
theorem zn_X10_cutOne : Cond.instanceMethod yX10_cutOne ∈ z_tbl := z_in (i := 729) (by decide +kernel) rfl
