/-! ===== words of the tables that the rows take, by their places ===== -/
theorem z_inX0 : ∀ w ∈ u_ws RX0 TX0 13, w ∈ z_tbl := by decide +kernel
theorem z_inX1 : ∀ w ∈ u_ws RX1 TX1 7, w ∈ z_tbl := by decide +kernel
theorem z_inX2 : ∀ w ∈ u_ws RX2 TX2 2, w ∈ z_tbl := by decide +kernel
theorem z_inX3 : ∀ w ∈ u_ws RX3 TX3 7, w ∈ z_tbl := by decide +kernel
theorem z_inX4 : ∀ w ∈ u_ws RX4 TX4 2, w ∈ z_tbl := by decide +kernel
theorem z_inX5 : ∀ w ∈ u_ws RX5 TX5 3, w ∈ z_tbl := by decide +kernel
theorem z_inX6 : ∀ w ∈ u_ws RX6 TX6 6, w ∈ z_tbl := by decide +kernel
theorem z_inX7 : ∀ w ∈ u_ws RX7 TX7 10, w ∈ z_tbl := by decide +kernel
theorem z_inX8 : ∀ w ∈ u_ws RX8 TX8 6, w ∈ z_tbl := by decide +kernel
theorem z_inX9 : ∀ w ∈ u_ws RX9 TX9 6, w ∈ z_tbl := by decide +kernel
theorem z_inX10 : ∀ w ∈ u_ws RX10 TX10 13, w ∈ z_tbl := by decide +kernel
theorem z_inX11 : ∀ w ∈ u_ws RX11 TX11 8, w ∈ z_tbl := by decide +kernel
theorem z_inX12 : ∀ w ∈ u_ws RX12 TX12 66, w ∈ z_tbl := by decide +kernel
theorem zcst_J6_265 : Cond.constant RJ6 265 (1431655765) ∈ z_tbl := z_in (i := 1137) (by decide +kernel) rfl
theorem zcst_J6_266 : Cond.constant RJ6 266 (858993459) ∈ z_tbl := z_in (i := 1138) (by decide +kernel) rfl
theorem zcst_J6_267 : Cond.constant RJ6 267 (252645135) ∈ z_tbl := z_in (i := 1139) (by decide +kernel) rfl
theorem zf_X3_29 : z_Fl RX3 29 3 5 RX3 TX3 7 := ⟨rfl, z_inX3, by decide, by decide, Or.inl (z_in (i := 439) (by decide +kernel) rfl)⟩
theorem zf_X3_22 : z_Fl RX3 22 3 3 RX3 TX3 7 := ⟨rfl, z_inX3, by decide, by decide, Or.inl (z_in (i := 431) (by decide +kernel) rfl)⟩
theorem zf_X0_28 : z_Fl RX0 28 0 2 RX0 TX0 13 := ⟨rfl, z_inX0, by decide, by decide, Or.inl (z_in (i := 527) (by decide +kernel) rfl)⟩
theorem zf_X0_100 : z_Fl RX0 100 3 4 RX3 TX3 7 := ⟨rfl, z_inX3, by decide, by decide, Or.inr ⟨"SaidSo", z_inN (i := 436) (by decide +kernel) rfl⟩⟩
theorem zk_X3_isSameTalk : Cond.code yX3_isSameTalk cX3_isSameTalk 3 (some .boolean) ∈ z_tbl := z_in (i := 987) (by decide +kernel) rfl
theorem zi_X3 : Cond.initialized RX3 ∈ z_tbl := z_in (i := 186) (by decide +kernel) rfl
theorem zd_X3_isSameTalk : yX3_isSameTalk.cls ≠ "java/lang/invoke/MethodHandle" ∧ yX3_isSameTalk.cls ≠ "java/lang/invoke/VarHandle" ∧ (parseMethodDescriptor yX3_isSameTalk.desc).map (fun d => d.parameters.length) = some 2 := ⟨by decide +kernel, by decide +kernel, by decide +kernel⟩
theorem zn_X3_isSameTalk : Cond.instanceMethod yX3_isSameTalk ∈ z_tbl := z_in (i := 986) (by decide +kernel) rfl
theorem ze_X3_isSameTalk : Cond.selects yX3_isSameTalk.cls yX3_isSameTalk yX3_isSameTalk ∈ z_tbl := z_in (i := 52) (by decide +kernel) rfl
theorem zl_X0_139 : Cond.methodLink RX0 139 yX3_isSameTalk ∈ z_tbl ∨ ∃ host, Cond.methodLinkNest RX0 139 yX3_isSameTalk host ∈ z_nst := Or.inr ⟨"SaidSo", z_inN (i := 984) (by decide +kernel) rfl⟩
theorem zf_X0_106 : z_Fl RX0 106 3 2 RX3 TX3 7 := ⟨rfl, z_inX3, by decide, by decide, Or.inr ⟨"SaidSo", z_inN (i := 428) (by decide +kernel) rfl⟩⟩
theorem zf_X0_113 : z_Fl RX0 113 3 6 RX3 TX3 7 := ⟨rfl, z_inX3, by decide, by decide, Or.inr ⟨"SaidSo", z_inN (i := 446) (by decide +kernel) rfl⟩⟩
theorem zf_X0_12 : z_Fl RX0 12 0 0 RX0 TX0 13 := ⟨rfl, z_inX0, by decide, by decide, Or.inl (z_in (i := 517) (by decide +kernel) rfl)⟩
theorem zf_X0_116 : z_Fl RX0 116 9 3 RX9 TX9 6 := ⟨rfl, z_inX9, by decide, by decide, Or.inr ⟨"SaidSo", z_inN (i := 345) (by decide +kernel) rfl⟩⟩
theorem zf_X0_119 : z_Fl RX0 119 3 5 RX3 TX3 7 := ⟨rfl, z_inX3, by decide, by decide, Or.inr ⟨"SaidSo", z_inN (i := 442) (by decide +kernel) rfl⟩⟩
theorem zf_X0_132 : z_Fl RX0 132 9 4 RX9 TX9 6 := ⟨rfl, z_inX9, by decide, by decide, Or.inr ⟨"SaidSo", z_inN (i := 349) (by decide +kernel) rfl⟩⟩
theorem zk_X11_hadBy : Cond.code yX11_hadBy cX11_hadBy 2 (some .boolean) ∈ z_tbl := z_in (i := 994) (by decide +kernel) rfl
theorem zi_X11 : Cond.initialized RX11 ∈ z_tbl := z_in (i := 176) (by decide +kernel) rfl
theorem zd_X11_hadBy : yX11_hadBy.cls ≠ "java/lang/invoke/MethodHandle" ∧ yX11_hadBy.cls ≠ "java/lang/invoke/VarHandle" ∧ (parseMethodDescriptor yX11_hadBy.desc).map (fun d => d.parameters.length) = some 2 := ⟨by decide +kernel, by decide +kernel, by decide +kernel⟩
theorem zq_X11_hadBy : Cond.static yX11_hadBy ∈ z_tbl := z_in (i := 993) (by decide +kernel) rfl
theorem zl_X0_128 : Cond.methodLink RX0 128 yX11_hadBy ∈ z_tbl ∨ ∃ host, Cond.methodLinkNest RX0 128 yX11_hadBy host ∈ z_nst := Or.inr ⟨"SaidSo", z_inN (i := 992) (by decide +kernel) rfl⟩
theorem zf_X0_125 : z_Fl RX0 125 9 5 RX9 TX9 6 := ⟨rfl, z_inX9, by decide, by decide, Or.inr ⟨"SaidSo", z_inN (i := 353) (by decide +kernel) rfl⟩⟩
theorem zk_X0_isRight : Cond.code yX0_isRight cX0_isRight 2 (some .boolean) ∈ z_tbl := z_in (i := 979) (by decide +kernel) rfl
theorem zi_X0 : Cond.initialized RX0 ∈ z_tbl := z_in (i := 183) (by decide +kernel) rfl
theorem zd_X0_isRight : yX0_isRight.cls ≠ "java/lang/invoke/MethodHandle" ∧ yX0_isRight.cls ≠ "java/lang/invoke/VarHandle" ∧ (parseMethodDescriptor yX0_isRight.desc).map (fun d => d.parameters.length) = some 1 := ⟨by decide +kernel, by decide +kernel, by decide +kernel⟩
theorem zn_X0_isRight : Cond.instanceMethod yX0_isRight ∈ z_tbl := z_in (i := 978) (by decide +kernel) rfl
theorem ze_X0_isRight : Cond.selects yX0_isRight.cls yX0_isRight yX0_isRight ∈ z_tbl := z_in (i := 50) (by decide +kernel) rfl
theorem zl_X0_122 : Cond.methodLink RX0 122 yX0_isRight ∈ z_tbl ∨ ∃ host, Cond.methodLinkNest RX0 122 yX0_isRight host ∈ z_nst := Or.inl (z_in (i := 976) (by decide +kernel) rfl)
theorem zf_X8_28 : z_Fl RX8 28 8 5 RX8 TX8 6 := ⟨rfl, z_inX8, by decide, by decide, Or.inl (z_in (i := 392) (by decide +kernel) rfl)⟩
theorem zml_X8_35 : Cond.methodLink RX8 35 Lib.Math.min.name ∈ z_tbl := z_in (i := 1003) (by decide +kernel) rfl
theorem zmq_min : Cond.static Lib.Math.min.name ∈ z_tbl := z_in (i := 725) (by decide +kernel) rfl
theorem zmi : Cond.initialized "java/lang/Math" ∈ z_tbl := z_in (i := 193) (by decide +kernel) rfl
theorem zmk_min : Cond.code Lib.Math.min.name Lib.Math.min.code 2 (some .int) ∈ z_tbl := z_in (i := 726) (by decide +kernel) rfl
theorem zf_X0_21 : z_Fl RX0 21 0 1 RX0 TX0 13 := ⟨rfl, z_inX0, by decide, by decide, Or.inl (z_in (i := 523) (by decide +kernel) rfl)⟩
theorem zf_X0_87 : z_Fl RX0 87 8 3 RX8 TX8 6 := ⟨rfl, z_inX8, by decide, by decide, Or.inr ⟨"SaidSo", z_inN (i := 383) (by decide +kernel) rfl⟩⟩
theorem zf_X0_110 : z_Fl RX0 110 3 3 RX3 TX3 7 := ⟨rfl, z_inX3, by decide, by decide, Or.inr ⟨"SaidSo", z_inN (i := 432) (by decide +kernel) rfl⟩⟩
theorem zk_X8_lastOff : Cond.code yX8_lastOff cX8_lastOff 3 (some .int) ∈ z_tbl := z_in (i := 1002) (by decide +kernel) rfl
theorem zi_X8 : Cond.initialized RX8 ∈ z_tbl := z_in (i := 185) (by decide +kernel) rfl
theorem zd_X8_lastOff : yX8_lastOff.cls ≠ "java/lang/invoke/MethodHandle" ∧ yX8_lastOff.cls ≠ "java/lang/invoke/VarHandle" ∧ (parseMethodDescriptor yX8_lastOff.desc).map (fun d => d.parameters.length) = some 2 := ⟨by decide +kernel, by decide +kernel, by decide +kernel⟩
theorem zn_X8_lastOff : Cond.instanceMethod yX8_lastOff ∈ z_tbl := z_in (i := 1001) (by decide +kernel) rfl
theorem ze_X8_lastOff : Cond.selects yX8_lastOff.cls yX8_lastOff yX8_lastOff ∈ z_tbl := z_in (i := 55) (by decide +kernel) rfl
theorem zl_X0_135 : Cond.methodLink RX0 135 yX8_lastOff ∈ z_tbl ∨ ∃ host, Cond.methodLinkNest RX0 135 yX8_lastOff host ∈ z_nst := Or.inr ⟨"SaidSo", z_inN (i := 999) (by decide +kernel) rfl⟩
theorem zk_X0_isNew : Cond.code yX0_isNew cX0_isNew 4 (some .boolean) ∈ z_tbl := z_in (i := 1007) (by decide +kernel) rfl
theorem zd_X0_isNew : yX0_isNew.cls ≠ "java/lang/invoke/MethodHandle" ∧ yX0_isNew.cls ≠ "java/lang/invoke/VarHandle" ∧ (parseMethodDescriptor yX0_isNew.desc).map (fun d => d.parameters.length) = some 1 := ⟨by decide +kernel, by decide +kernel, by decide +kernel⟩
theorem zn_X0_isNew : Cond.instanceMethod yX0_isNew ∈ z_tbl := z_in (i := 1006) (by decide +kernel) rfl
theorem ze_X0_isNew : Cond.selects yX0_isNew.cls yX0_isNew yX0_isNew ∈ z_tbl := z_in (i := 56) (by decide +kernel) rfl
theorem zl_X0_151 : Cond.methodLink RX0 151 yX0_isNew ∈ z_tbl ∨ ∃ host, Cond.methodLinkNest RX0 151 yX0_isNew host ∈ z_nst := Or.inl (z_in (i := 1004) (by decide +kernel) rfl)
theorem zk_X0_isOff : Cond.code yX0_isOff cX0_isOff 4 (some .boolean) ∈ z_tbl := z_in (i := 998) (by decide +kernel) rfl
theorem zd_X0_isOff : yX0_isOff.cls ≠ "java/lang/invoke/MethodHandle" ∧ yX0_isOff.cls ≠ "java/lang/invoke/VarHandle" ∧ (parseMethodDescriptor yX0_isOff.desc).map (fun d => d.parameters.length) = some 1 := ⟨by decide +kernel, by decide +kernel, by decide +kernel⟩
theorem zn_X0_isOff : Cond.instanceMethod yX0_isOff ∈ z_tbl := z_in (i := 997) (by decide +kernel) rfl
theorem ze_X0_isOff : Cond.selects yX0_isOff.cls yX0_isOff yX0_isOff ∈ z_tbl := z_in (i := 54) (by decide +kernel) rfl
theorem zl_X0_148 : Cond.methodLink RX0 148 yX0_isOff ∈ z_tbl ∨ ∃ host, Cond.methodLinkNest RX0 148 yX0_isOff host ∈ z_nst := Or.inl (z_in (i := 995) (by decide +kernel) rfl)
theorem zk_X0_ledBy : Cond.code yX0_ledBy cX0_ledBy 3 (some .int) ∈ z_tbl := z_in (i := 991) (by decide +kernel) rfl
theorem zd_X0_ledBy : yX0_ledBy.cls ≠ "java/lang/invoke/MethodHandle" ∧ yX0_ledBy.cls ≠ "java/lang/invoke/VarHandle" ∧ (parseMethodDescriptor yX0_ledBy.desc).map (fun d => d.parameters.length) = some 1 := ⟨by decide +kernel, by decide +kernel, by decide +kernel⟩
theorem zn_X0_ledBy : Cond.instanceMethod yX0_ledBy ∈ z_tbl := z_in (i := 990) (by decide +kernel) rfl
theorem ze_X0_ledBy : Cond.selects yX0_ledBy.cls yX0_ledBy yX0_ledBy ∈ z_tbl := z_in (i := 53) (by decide +kernel) rfl
theorem zl_X0_145 : Cond.methodLink RX0 145 yX0_ledBy ∈ z_tbl ∨ ∃ host, Cond.methodLinkNest RX0 145 yX0_ledBy host ∈ z_nst := Or.inl (z_in (i := 988) (by decide +kernel) rfl)
theorem zk_X0_isFirst : Cond.code yX0_isFirst cX0_isFirst 4 (some .boolean) ∈ z_tbl := z_in (i := 983) (by decide +kernel) rfl
theorem zd_X0_isFirst : yX0_isFirst.cls ≠ "java/lang/invoke/MethodHandle" ∧ yX0_isFirst.cls ≠ "java/lang/invoke/VarHandle" ∧ (parseMethodDescriptor yX0_isFirst.desc).map (fun d => d.parameters.length) = some 2 := ⟨by decide +kernel, by decide +kernel, by decide +kernel⟩
theorem zn_X0_isFirst : Cond.instanceMethod yX0_isFirst ∈ z_tbl := z_in (i := 982) (by decide +kernel) rfl
theorem ze_X0_isFirst : Cond.selects yX0_isFirst.cls yX0_isFirst yX0_isFirst ∈ z_tbl := z_in (i := 51) (by decide +kernel) rfl
theorem zl_X0_142 : Cond.methodLink RX0 142 yX0_isFirst ∈ z_tbl ∨ ∃ host, Cond.methodLinkNest RX0 142 yX0_isFirst host ∈ z_nst := Or.inl (z_in (i := 980) (by decide +kernel) rfl)
theorem zf_X3_26 : z_Fl RX3 26 3 4 RX3 TX3 7 := ⟨rfl, z_inX3, by decide, by decide, Or.inl (z_in (i := 435) (by decide +kernel) rfl)⟩
theorem zf_X3_9 : z_Fl RX3 9 3 0 RX3 TX3 7 := ⟨rfl, z_inX3, by decide, by decide, Or.inl (z_in (i := 416) (by decide +kernel) rfl)⟩
theorem zf_X8_9 : z_Fl RX8 9 8 0 RX8 TX8 6 := ⟨rfl, z_inX8, by decide, by decide, Or.inl (z_in (i := 374) (by decide +kernel) rfl)⟩
theorem zf_X9_9 : z_Fl RX9 9 9 0 RX9 TX9 6 := ⟨rfl, z_inX9, by decide, by decide, Or.inl (z_in (i := 330) (by decide +kernel) rfl)⟩
theorem zf_X0_97 : z_Fl RX0 97 9 2 RX9 TX9 6 := ⟨rfl, z_inX9, by decide, by decide, Or.inr ⟨"SaidSo", z_inN (i := 338) (by decide +kernel) rfl⟩⟩
theorem zk_X3_latestHour : Cond.code yX3_latestHour cX3_latestHour 3 (some .int) ∈ z_tbl := z_in (i := 842) (by decide +kernel) rfl
theorem zd_X3_latestHour : yX3_latestHour.cls ≠ "java/lang/invoke/MethodHandle" ∧ yX3_latestHour.cls ≠ "java/lang/invoke/VarHandle" ∧ (parseMethodDescriptor yX3_latestHour.desc).map (fun d => d.parameters.length) = some 1 := ⟨by decide +kernel, by decide +kernel, by decide +kernel⟩
theorem zn_X3_latestHour : Cond.instanceMethod yX3_latestHour ∈ z_tbl := z_in (i := 841) (by decide +kernel) rfl
theorem ze_X3_latestHour : Cond.selects yX3_latestHour.cls yX3_latestHour yX3_latestHour ∈ z_tbl := z_in (i := 27) (by decide +kernel) rfl
theorem zl_X0_93 : Cond.methodLink RX0 93 yX3_latestHour ∈ z_tbl ∨ ∃ host, Cond.methodLinkNest RX0 93 yX3_latestHour host ∈ z_nst := Or.inr ⟨"SaidSo", z_inN (i := 945) (by decide +kernel) rfl⟩
theorem zf_X0_90 : z_Fl RX0 90 8 4 RX8 TX8 6 := ⟨rfl, z_inX8, by decide, by decide, Or.inr ⟨"SaidSo", z_inN (i := 388) (by decide +kernel) rfl⟩⟩
theorem zf_X0_76 : z_Fl RX0 76 3 0 RX3 TX3 7 := ⟨rfl, z_inX3, by decide, by decide, Or.inr ⟨"SaidSo", z_inN (i := 418) (by decide +kernel) rfl⟩⟩
theorem zk_X9_has : Cond.code yX9_has cX9_has 2 (some .boolean) ∈ z_tbl := z_in (i := 809) (by decide +kernel) rfl
theorem zi_X9 : Cond.initialized RX9 ∈ z_tbl := z_in (i := 184) (by decide +kernel) rfl
theorem zd_X9_has : yX9_has.cls ≠ "java/lang/invoke/MethodHandle" ∧ yX9_has.cls ≠ "java/lang/invoke/VarHandle" ∧ (parseMethodDescriptor yX9_has.desc).map (fun d => d.parameters.length) = some 1 := ⟨by decide +kernel, by decide +kernel, by decide +kernel⟩
theorem zn_X9_has : Cond.instanceMethod yX9_has ∈ z_tbl := z_in (i := 808) (by decide +kernel) rfl
theorem ze_X9_has : Cond.selects yX9_has.cls yX9_has yX9_has ∈ z_tbl := z_in (i := 19) (by decide +kernel) rfl
theorem zl_X0_86 : Cond.methodLink RX0 86 yX9_has ∈ z_tbl ∨ ∃ host, Cond.methodLinkNest RX0 86 yX9_has host ∈ z_nst := Or.inr ⟨"SaidSo", z_inN (i := 944) (by decide +kernel) rfl⟩
theorem zk_X8_has : Cond.code yX8_has cX8_has 2 (some .boolean) ∈ z_tbl := z_in (i := 926) (by decide +kernel) rfl
theorem zd_X8_has : yX8_has.cls ≠ "java/lang/invoke/MethodHandle" ∧ yX8_has.cls ≠ "java/lang/invoke/VarHandle" ∧ (parseMethodDescriptor yX8_has.desc).map (fun d => d.parameters.length) = some 1 := ⟨by decide +kernel, by decide +kernel, by decide +kernel⟩
theorem zn_X8_has : Cond.instanceMethod yX8_has ∈ z_tbl := z_in (i := 925) (by decide +kernel) rfl
theorem ze_X8_has : Cond.selects yX8_has.cls yX8_has yX8_has ∈ z_tbl := z_in (i := 43) (by decide +kernel) rfl
theorem zl_X0_82 : Cond.methodLink RX0 82 yX8_has ∈ z_tbl ∨ ∃ host, Cond.methodLinkNest RX0 82 yX8_has host ∈ z_nst := Or.inr ⟨"SaidSo", z_inN (i := 943) (by decide +kernel) rfl⟩
theorem zf_X0_59 : z_Fl RX0 59 0 9 RX0 TX0 13 := ⟨rfl, z_inX0, by decide, by decide, Or.inl (z_in (i := 553) (by decide +kernel) rfl)⟩
theorem zk_X0_isHeard : Cond.code yX0_isHeard cX0_isHeard 2 (some .boolean) ∈ z_tbl := z_in (i := 934) (by decide +kernel) rfl
theorem zd_X0_isHeard : yX0_isHeard.cls ≠ "java/lang/invoke/MethodHandle" ∧ yX0_isHeard.cls ≠ "java/lang/invoke/VarHandle" ∧ (parseMethodDescriptor yX0_isHeard.desc).map (fun d => d.parameters.length) = some 1 := ⟨by decide +kernel, by decide +kernel, by decide +kernel⟩
theorem zn_X0_isHeard : Cond.instanceMethod yX0_isHeard ∈ z_tbl := z_in (i := 933) (by decide +kernel) rfl
theorem ze_X0_isHeard : Cond.selects yX0_isHeard.cls yX0_isHeard yX0_isHeard ∈ z_tbl := z_in (i := 44) (by decide +kernel) rfl
theorem zl_X0_103 : Cond.methodLink RX0 103 yX0_isHeard ∈ z_tbl ∨ ∃ host, Cond.methodLinkNest RX0 103 yX0_isHeard host ∈ z_nst := Or.inl (z_in (i := 963) (by decide +kernel) rfl)
theorem zk_X0_isHeardWordOf : Cond.code yX0_isHeardWordOf cX0_isHeardWordOf 3 (some .boolean) ∈ z_tbl := z_in (i := 1020) (by decide +kernel) rfl
theorem zd_X0_isHeardWordOf : yX0_isHeardWordOf.cls ≠ "java/lang/invoke/MethodHandle" ∧ yX0_isHeardWordOf.cls ≠ "java/lang/invoke/VarHandle" ∧ (parseMethodDescriptor yX0_isHeardWordOf.desc).map (fun d => d.parameters.length) = some 2 := ⟨by decide +kernel, by decide +kernel, by decide +kernel⟩
theorem zn_X0_isHeardWordOf : Cond.instanceMethod yX0_isHeardWordOf ∈ z_tbl := z_in (i := 1019) (by decide +kernel) rfl
theorem ze_X0_isHeardWordOf : Cond.selects yX0_isHeardWordOf.cls yX0_isHeardWordOf yX0_isHeardWordOf ∈ z_tbl := z_in (i := 57) (by decide +kernel) rfl
theorem zl_X0_155 : Cond.methodLink RX0 155 yX0_isHeardWordOf ∈ z_tbl ∨ ∃ host, Cond.methodLinkNest RX0 155 yX0_isHeardWordOf host ∈ z_nst := Or.inl (z_in (i := 1078) (by decide +kernel) rfl)
theorem zk_X0_storyValue : Cond.code yX0_storyValue cX0_storyValue 4 (some .int) ∈ z_tbl := z_in (i := 1077) (by decide +kernel) rfl
theorem zd_X0_storyValue : yX0_storyValue.cls ≠ "java/lang/invoke/MethodHandle" ∧ yX0_storyValue.cls ≠ "java/lang/invoke/VarHandle" ∧ (parseMethodDescriptor yX0_storyValue.desc).map (fun d => d.parameters.length) = some 2 := ⟨by decide +kernel, by decide +kernel, by decide +kernel⟩
theorem zn_X0_storyValue : Cond.instanceMethod yX0_storyValue ∈ z_tbl := z_in (i := 1076) (by decide +kernel) rfl
theorem ze_X0_storyValue : Cond.selects yX0_storyValue.cls yX0_storyValue yX0_storyValue ∈ z_tbl := z_in (i := 66) (by decide +kernel) rfl
theorem zl_X0_160 : Cond.methodLink RX0 160 yX0_storyValue ∈ z_tbl ∨ ∃ host, Cond.methodLinkNest RX0 160 yX0_storyValue host ∈ z_nst := Or.inl (z_in (i := 1074) (by decide +kernel) rfl)
theorem zf_X0_72 : z_Fl RX0 72 9 0 RX9 TX9 6 := ⟨rfl, z_inX9, by decide, by decide, Or.inr ⟨"SaidSo", z_inN (i := 331) (by decide +kernel) rfl⟩⟩
theorem zf_X0_75 : z_Fl RX0 75 8 0 RX8 TX8 6 := ⟨rfl, z_inX8, by decide, by decide, Or.inr ⟨"SaidSo", z_inN (i := 375) (by decide +kernel) rfl⟩⟩
theorem zf_X0_77 : z_Fl RX0 77 3 1 RX3 TX3 7 := ⟨rfl, z_inX3, by decide, by decide, Or.inr ⟨"SaidSo", z_inN (i := 424) (by decide +kernel) rfl⟩⟩
theorem zf_X0_35 : z_Fl RX0 35 0 3 RX0 TX0 13 := ⟨rfl, z_inX0, by decide, by decide, Or.inl (z_in (i := 533) (by decide +kernel) rfl)⟩
theorem zf_X0_80 : z_Fl RX0 80 6 0 RX6 TX6 6 := ⟨rfl, z_inX6, by decide, by decide, Or.inr ⟨"SaidSo", z_inN (i := 471) (by decide +kernel) rfl⟩⟩
theorem zf_X0_42 : z_Fl RX0 42 0 4 RX0 TX0 13 := ⟨rfl, z_inX0, by decide, by decide, Or.inl (z_in (i := 538) (by decide +kernel) rfl)⟩
theorem zf_X0_81 : z_Fl RX0 81 2 0 RX2 TX2 2 := ⟨rfl, z_inX2, by decide, by decide, Or.inr ⟨"SaidSo", z_inN (i := 509) (by decide +kernel) rfl⟩⟩
theorem zf_X0_46 : z_Fl RX0 46 0 5 RX0 TX0 13 := ⟨rfl, z_inX0, by decide, by decide, Or.inl (z_in (i := 541) (by decide +kernel) rfl)⟩
theorem zf_X0_49 : z_Fl RX0 49 0 6 RX0 TX0 13 := ⟨rfl, z_inX0, by decide, by decide, Or.inl (z_in (i := 544) (by decide +kernel) rfl)⟩
theorem zf_X0_52 : z_Fl RX0 52 0 7 RX0 TX0 13 := ⟨rfl, z_inX0, by decide, by decide, Or.inl (z_in (i := 547) (by decide +kernel) rfl)⟩
theorem zf_X0_56 : z_Fl RX0 56 0 8 RX0 TX0 13 := ⟨rfl, z_inX0, by decide, by decide, Or.inl (z_in (i := 550) (by decide +kernel) rfl)⟩
theorem zf_X0_62 : z_Fl RX0 62 0 10 RX0 TX0 13 := ⟨rfl, z_inX0, by decide, by decide, Or.inl (z_in (i := 555) (by decide +kernel) rfl)⟩
theorem zf_X0_65 : z_Fl RX0 65 0 11 RX0 TX0 13 := ⟨rfl, z_inX0, by decide, by decide, Or.inl (z_in (i := 557) (by decide +kernel) rfl)⟩
theorem zk_X0_clashes : Cond.code yX0_clashes cX0_clashes 7 (some .int) ∈ z_tbl := z_in (i := 1124) (by decide +kernel) rfl
theorem zd_X0_clashes : yX0_clashes.cls ≠ "java/lang/invoke/MethodHandle" ∧ yX0_clashes.cls ≠ "java/lang/invoke/VarHandle" ∧ (parseMethodDescriptor yX0_clashes.desc).map (fun d => d.parameters.length) = some 2 := ⟨by decide +kernel, by decide +kernel, by decide +kernel⟩
theorem zn_X0_clashes : Cond.instanceMethod yX0_clashes ∈ z_tbl := z_in (i := 1123) (by decide +kernel) rfl
theorem ze_X0_clashes : Cond.selects yX0_clashes.cls yX0_clashes yX0_clashes ∈ z_tbl := z_in (i := 72) (by decide +kernel) rfl
theorem zl_X0_170 : Cond.methodLink RX0 170 yX0_clashes ∈ z_tbl ∨ ∃ host, Cond.methodLinkNest RX0 170 yX0_clashes host ∈ z_nst := Or.inl (z_in (i := 1133) (by decide +kernel) rfl)
theorem zf_X0_159 : z_Fl RX0 159 6 3 RX6 TX6 6 := ⟨rfl, z_inX6, by decide, by decide, Or.inr ⟨"SaidSo", z_inN (i := 486) (by decide +kernel) rfl⟩⟩
theorem zf_X0_158 : z_Fl RX0 158 6 2 RX6 TX6 6 := ⟨rfl, z_inX6, by decide, by decide, Or.inr ⟨"SaidSo", z_inN (i := 482) (by decide +kernel) rfl⟩⟩
theorem zf_X0_154 : z_Fl RX0 154 6 1 RX6 TX6 6 := ⟨rfl, z_inX6, by decide, by decide, Or.inr ⟨"SaidSo", z_inN (i := 478) (by decide +kernel) rfl⟩⟩
theorem zk_X11_isIn : Cond.code yX11_isIn cX11_isIn 2 (some .boolean) ∈ z_tbl := z_in (i := 1146) (by decide +kernel) rfl
theorem zd_X11_isIn : yX11_isIn.cls ≠ "java/lang/invoke/MethodHandle" ∧ yX11_isIn.cls ≠ "java/lang/invoke/VarHandle" ∧ (parseMethodDescriptor yX11_isIn.desc).map (fun d => d.parameters.length) = some 2 := ⟨by decide +kernel, by decide +kernel, by decide +kernel⟩
theorem zq_X11_isIn : Cond.static yX11_isIn ∈ z_tbl := z_in (i := 1145) (by decide +kernel) rfl
theorem zl_X0_173 : Cond.methodLink RX0 173 yX11_isIn ∈ z_tbl ∨ ∃ host, Cond.methodLinkNest RX0 173 yX11_isIn host ∈ z_nst := Or.inr ⟨"SaidSo", z_inN (i := 1144) (by decide +kernel) rfl⟩
theorem zf_X6_22 : z_Fl RX6 22 6 3 RX6 TX6 6 := ⟨rfl, z_inX6, by decide, by decide, Or.inl (z_in (i := 483) (by decide +kernel) rfl)⟩
theorem zf_X6_19 : z_Fl RX6 19 6 2 RX6 TX6 6 := ⟨rfl, z_inX6, by decide, by decide, Or.inl (z_in (i := 479) (by decide +kernel) rfl)⟩
theorem zf_X6_15 : z_Fl RX6 15 6 1 RX6 TX6 6 := ⟨rfl, z_inX6, by decide, by decide, Or.inl (z_in (i := 476) (by decide +kernel) rfl)⟩
theorem zf_X6_9 : z_Fl RX6 9 6 0 RX6 TX6 6 := ⟨rfl, z_inX6, by decide, by decide, Or.inl (z_in (i := 470) (by decide +kernel) rfl)⟩
theorem zk_X6_tells : Cond.code yX6_tells cX6_tells 5 (some .boolean) ∈ z_tbl := z_in (i := 1094) (by decide +kernel) rfl
theorem zi_X6 : Cond.initialized RX6 ∈ z_tbl := z_in (i := 187) (by decide +kernel) rfl
theorem zd_X6_tells : yX6_tells.cls ≠ "java/lang/invoke/MethodHandle" ∧ yX6_tells.cls ≠ "java/lang/invoke/VarHandle" ∧ (parseMethodDescriptor yX6_tells.desc).map (fun d => d.parameters.length) = some 3 := ⟨by decide +kernel, by decide +kernel, by decide +kernel⟩
theorem zn_X6_tells : Cond.instanceMethod yX6_tells ∈ z_tbl := z_in (i := 1093) (by decide +kernel) rfl
theorem ze_X6_tells : Cond.selects yX6_tells.cls yX6_tells yX6_tells ∈ z_tbl := z_in (i := 69) (by decide +kernel) rfl
theorem zl_X0_166 : Cond.methodLink RX0 166 yX6_tells ∈ z_tbl ∨ ∃ host, Cond.methodLinkNest RX0 166 yX6_tells host ∈ z_nst := Or.inr ⟨"SaidSo", z_inN (i := 1091) (by decide +kernel) rfl⟩
theorem zf_X0_69 : z_Fl RX0 69 0 12 RX0 TX0 13 := ⟨rfl, z_inX0, by decide, by decide, Or.inl (z_in (i := 558) (by decide +kernel) rfl)⟩
theorem zml_X0_176 : Cond.methodLink RX0 176 Lib.Math.max.name ∈ z_tbl := z_in (i := 1159) (by decide +kernel) rfl
theorem zmq_max : Cond.static Lib.Math.max.name ∈ z_tbl := z_in (i := 1109) (by decide +kernel) rfl
theorem zmk_max : Cond.code Lib.Math.max.name Lib.Math.max.code 2 (some .int) ∈ z_tbl := z_in (i := 1110) (by decide +kernel) rfl
theorem zk_X0_firstSaid : Cond.code yX0_firstSaid cX0_firstSaid 3 (some .int) ∈ z_tbl := z_in (i := 1082) (by decide +kernel) rfl
theorem zd_X0_firstSaid : yX0_firstSaid.cls ≠ "java/lang/invoke/MethodHandle" ∧ yX0_firstSaid.cls ≠ "java/lang/invoke/VarHandle" ∧ (parseMethodDescriptor yX0_firstSaid.desc).map (fun d => d.parameters.length) = some 1 := ⟨by decide +kernel, by decide +kernel, by decide +kernel⟩
theorem zn_X0_firstSaid : Cond.instanceMethod yX0_firstSaid ∈ z_tbl := z_in (i := 1081) (by decide +kernel) rfl
theorem ze_X0_firstSaid : Cond.selects yX0_firstSaid.cls yX0_firstSaid yX0_firstSaid ∈ z_tbl := z_in (i := 67) (by decide +kernel) rfl
theorem zl_X0_163 : Cond.methodLink RX0 163 yX0_firstSaid ∈ z_tbl ∨ ∃ host, Cond.methodLinkNest RX0 163 yX0_firstSaid host ∈ z_nst := Or.inl (z_in (i := 1079) (by decide +kernel) rfl)
theorem zf_X0_181 : z_Fl RX0 181 8 5 RX8 TX8 6 := ⟨rfl, z_inX8, by decide, by decide, Or.inr ⟨"SaidSo", z_inN (i := 396) (by decide +kernel) rfl⟩⟩
theorem zf_X1_18 : z_Fl RX1 18 1 2 RX1 TX1 7 := ⟨rfl, z_inX1, by decide, by decide, Or.inl (z_in (i := 663) (by decide +kernel) rfl)⟩
theorem zcst_X1_84 : Cond.constant RX1 84 (65536) ∈ z_tbl := z_in (i := 1254) (by decide +kernel) rfl
theorem zcst_X1_82 : Cond.constant RX1 82 (1103515245) ∈ z_tbl := z_in (i := 1252) (by decide +kernel) rfl
theorem zcst_X1_83 : Cond.constant RX1 83 (2147483647) ∈ z_tbl := z_in (i := 1253) (by decide +kernel) rfl
theorem zf_X1_25 : z_Fl RX1 25 1 4 RX1 TX1 7 := ⟨rfl, z_inX1, by decide, by decide, Or.inl (z_in (i := 665) (by decide +kernel) rfl)⟩
theorem zf_X1_21 : z_Fl RX1 21 1 3 RX1 TX1 7 := ⟨rfl, z_inX1, by decide, by decide, Or.inl (z_in (i := 664) (by decide +kernel) rfl)⟩
theorem zk_X1_drawBelow : Cond.code yX1_drawBelow cX1_drawBelow 2 (some .int) ∈ z_tbl := z_in (i := 1251) (by decide +kernel) rfl
theorem zi_X1 : Cond.initialized RX1 ∈ z_tbl := z_in (i := 191) (by decide +kernel) rfl
theorem zd_X1_drawBelow : yX1_drawBelow.cls ≠ "java/lang/invoke/MethodHandle" ∧ yX1_drawBelow.cls ≠ "java/lang/invoke/VarHandle" ∧ (parseMethodDescriptor yX1_drawBelow.desc).map (fun d => d.parameters.length) = some 1 := ⟨by decide +kernel, by decide +kernel, by decide +kernel⟩
theorem zn_X1_drawBelow : Cond.instanceMethod yX1_drawBelow ∈ z_tbl := z_in (i := 1250) (by decide +kernel) rfl
theorem ze_X1_drawBelow : Cond.selects yX1_drawBelow.cls yX1_drawBelow yX1_drawBelow ∈ z_tbl := z_in (i := 88) (by decide +kernel) rfl
theorem zl_X1_79 : Cond.methodLink RX1 79 yX1_drawBelow ∈ z_tbl ∨ ∃ host, Cond.methodLinkNest RX1 79 yX1_drawBelow host ∈ z_nst := Or.inl (z_in (i := 1248) (by decide +kernel) rfl)
theorem zf_X1_28 : z_Fl RX1 28 1 5 RX1 TX1 7 := ⟨rfl, z_inX1, by decide, by decide, Or.inl (z_in (i := 666) (by decide +kernel) rfl)⟩
theorem zf_X1_31 : z_Fl RX1 31 1 6 RX1 TX1 7 := ⟨rfl, z_inX1, by decide, by decide, Or.inl (z_in (i := 667) (by decide +kernel) rfl)⟩
theorem zf_X1_9 : z_Fl RX1 9 1 0 RX1 TX1 7 := ⟨rfl, z_inX1, by decide, by decide, Or.inl (z_in (i := 661) (by decide +kernel) rfl)⟩
theorem zk_X1_rightInOne : Cond.code yX1_rightInOne cX1_rightInOne 5 (some .int) ∈ z_tbl := z_in (i := 1247) (by decide +kernel) rfl
theorem zd_X1_rightInOne : yX1_rightInOne.cls ≠ "java/lang/invoke/MethodHandle" ∧ yX1_rightInOne.cls ≠ "java/lang/invoke/VarHandle" ∧ (parseMethodDescriptor yX1_rightInOne.desc).map (fun d => d.parameters.length) = some 0 := ⟨by decide +kernel, by decide +kernel, by decide +kernel⟩
theorem zn_X1_rightInOne : Cond.instanceMethod yX1_rightInOne ∈ z_tbl := z_in (i := 1246) (by decide +kernel) rfl
theorem ze_X1_rightInOne : Cond.selects yX1_rightInOne.cls yX1_rightInOne yX1_rightInOne ∈ z_tbl := z_in (i := 87) (by decide +kernel) rfl
theorem zl_X1_75 : Cond.methodLink RX1 75 yX1_rightInOne ∈ z_tbl ∨ ∃ host, Cond.methodLinkNest RX1 75 yX1_rightInOne host ∈ z_nst := Or.inl (z_in (i := 1244) (by decide +kernel) rfl)
theorem zf_X1_15 : z_Fl RX1 15 1 1 RX1 TX1 7 := ⟨rfl, z_inX1, by decide, by decide, Or.inl (z_in (i := 662) (by decide +kernel) rfl)⟩
theorem zcsl_X2_37 : Cond.constantLong RX2 37 (-1000000000000) ∈ z_tbl := z_in (i := 1215) (by decide +kernel) rfl
theorem zcsl_X2_35 : Cond.constantLong RX2 35 (1000000000000) ∈ z_tbl := z_in (i := 1208) (by decide +kernel) rfl
theorem zcsl_X2_25 : Cond.constantLong RX2 25 (-4000000000000000000) ∈ z_tbl := z_in (i := 1198) (by decide +kernel) rfl
theorem zml_X2_47 : Cond.methodLink RX2 47 Lib.MathLoose.abs_long.x ∈ z_tbl := z_in (i := 1205) (by decide +kernel) rfl
theorem zmq_labs : Cond.static Lib.MathLoose.abs_long.x ∈ z_tbl := z_in (i := 1206) (by decide +kernel) rfl
theorem zmk_labs : Cond.code Lib.MathLoose.abs_long.x Lib.MathLoose.abs_long.code 2 (some .long) ∈ z_tbl := z_in (i := 1207) (by decide +kernel) rfl
theorem zk_X2_holds : Cond.code yX2_holds cX2_holds 5 (some .boolean) ∈ z_tbl := z_in (i := 1211) (by decide +kernel) rfl
theorem zi_X2 : Cond.initialized RX2 ∈ z_tbl := z_in (i := 188) (by decide +kernel) rfl
theorem zd_X2_holds : yX2_holds.cls ≠ "java/lang/invoke/MethodHandle" ∧ yX2_holds.cls ≠ "java/lang/invoke/VarHandle" ∧ (parseMethodDescriptor yX2_holds.desc).map (fun d => d.parameters.length) = some 3 := ⟨by decide +kernel, by decide +kernel, by decide +kernel⟩
theorem zq_X2_holds : Cond.static yX2_holds ∈ z_tbl := z_in (i := 1210) (by decide +kernel) rfl
theorem zl_X2_43 : Cond.methodLink RX2 43 yX2_holds ∈ z_tbl ∨ ∃ host, Cond.methodLinkNest RX2 43 yX2_holds host ∈ z_nst := Or.inl (z_in (i := 1209) (by decide +kernel) rfl)
theorem zk_X2_product : Cond.code yX2_product cX2_product 4 (some .long) ∈ z_tbl := z_in (i := 1204) (by decide +kernel) rfl
theorem zd_X2_product : yX2_product.cls ≠ "java/lang/invoke/MethodHandle" ∧ yX2_product.cls ≠ "java/lang/invoke/VarHandle" ∧ (parseMethodDescriptor yX2_product.desc).map (fun d => d.parameters.length) = some 2 := ⟨by decide +kernel, by decide +kernel, by decide +kernel⟩
theorem zq_X2_product : Cond.static yX2_product ∈ z_tbl := z_in (i := 1203) (by decide +kernel) rfl
theorem zl_X2_39 : Cond.methodLink RX2 39 yX2_product ∈ z_tbl ∨ ∃ host, Cond.methodLinkNest RX2 39 yX2_product host ∈ z_nst := Or.inl (z_in (i := 1202) (by decide +kernel) rfl)
theorem zk_X2_isBeyond : Cond.code yX2_isBeyond cX2_isBeyond 2 (some .boolean) ∈ z_tbl := z_in (i := 1214) (by decide +kernel) rfl
theorem zd_X2_isBeyond : yX2_isBeyond.cls ≠ "java/lang/invoke/MethodHandle" ∧ yX2_isBeyond.cls ≠ "java/lang/invoke/VarHandle" ∧ (parseMethodDescriptor yX2_isBeyond.desc).map (fun d => d.parameters.length) = some 1 := ⟨by decide +kernel, by decide +kernel, by decide +kernel⟩
theorem zq_X2_isBeyond : Cond.static yX2_isBeyond ∈ z_tbl := z_in (i := 1213) (by decide +kernel) rfl
theorem zl_X2_31 : Cond.methodLink RX2 31 yX2_isBeyond ∈ z_tbl ∨ ∃ host, Cond.methodLinkNest RX2 31 yX2_isBeyond host ∈ z_nst := Or.inl (z_in (i := 1212) (by decide +kernel) rfl)
theorem zk_X2_join : Cond.code yX2_join cX2_join 5 (some .long) ∈ z_tbl := z_in (i := 1201) (by decide +kernel) rfl
theorem zd_X2_join : yX2_join.cls ≠ "java/lang/invoke/MethodHandle" ∧ yX2_join.cls ≠ "java/lang/invoke/VarHandle" ∧ (parseMethodDescriptor yX2_join.desc).map (fun d => d.parameters.length) = some 3 := ⟨by decide +kernel, by decide +kernel, by decide +kernel⟩
theorem zq_X2_join : Cond.static yX2_join ∈ z_tbl := z_in (i := 1200) (by decide +kernel) rfl
theorem zl_X2_27 : Cond.methodLink RX2 27 yX2_join ∈ z_tbl ∨ ∃ host, Cond.methodLinkNest RX2 27 yX2_join host ∈ z_nst := Or.inl (z_in (i := 1199) (by decide +kernel) rfl)
theorem zk_X10_isName : Cond.code yX10_isName cX10_isName 1 (some .boolean) ∈ z_tbl := z_in (i := 889) (by decide +kernel) rfl
theorem zi_X10 : Cond.initialized RX10 ∈ z_tbl := z_in (i := 178) (by decide +kernel) rfl
theorem zd_X10_isName : yX10_isName.cls ≠ "java/lang/invoke/MethodHandle" ∧ yX10_isName.cls ≠ "java/lang/invoke/VarHandle" ∧ (parseMethodDescriptor yX10_isName.desc).map (fun d => d.parameters.length) = some 1 := ⟨by decide +kernel, by decide +kernel, by decide +kernel⟩
theorem zq_X10_isName : Cond.static yX10_isName ∈ z_tbl := z_in (i := 888) (by decide +kernel) rfl
theorem zl_X2_19 : Cond.methodLink RX2 19 yX10_isName ∈ z_tbl ∨ ∃ host, Cond.methodLinkNest RX2 19 yX10_isName host ∈ z_nst := Or.inr ⟨"SaidSo", z_inN (i := 1197) (by decide +kernel) rfl⟩
theorem zf_X2_15 : z_Fl RX2 15 2 1 RX2 TX2 2 := ⟨rfl, z_inX2, by decide, by decide, Or.inl (z_in (i := 511) (by decide +kernel) rfl)⟩
theorem zf_X2_9 : z_Fl RX2 9 2 0 RX2 TX2 2 := ⟨rfl, z_inX2, by decide, by decide, Or.inl (z_in (i := 508) (by decide +kernel) rfl)⟩
theorem zf_X4_11 : z_Fl RX4 11 4 0 RX4 TX4 2 := ⟨rfl, z_inX4, by decide, by decide, Or.inl (z_in (i := 647) (by decide +kernel) rfl)⟩
theorem zf_X4_67 : z_Fl RX4 67 0 1 RX0 TX0 13 := ⟨rfl, z_inX0, by decide, by decide, Or.inr ⟨"SaidSo", z_inN (i := 525) (by decide +kernel) rfl⟩⟩
theorem zf_X4_71 : z_Fl RX4 71 8 2 RX8 TX8 6 := ⟨rfl, z_inX8, by decide, by decide, Or.inr ⟨"SaidSo", z_inN (i := 380) (by decide +kernel) rfl⟩⟩
theorem zl_X8_41 : Cond.methodLink RX8 41 yX8_lastOff ∈ z_tbl ∨ ∃ host, Cond.methodLinkNest RX8 41 yX8_lastOff host ∈ z_nst := Or.inl (z_in (i := 1188) (by decide +kernel) rfl)
theorem zf_X8_22 : z_Fl RX8 22 8 3 RX8 TX8 6 := ⟨rfl, z_inX8, by decide, by decide, Or.inl (z_in (i := 382) (by decide +kernel) rfl)⟩
theorem zf_X4_102 : z_Fl RX4 102 3 6 RX3 TX3 7 := ⟨rfl, z_inX3, by decide, by decide, Or.inr ⟨"SaidSo", z_inN (i := 445) (by decide +kernel) rfl⟩⟩
theorem zk_X4_addAsk : Cond.code yX4_addAsk cX4_addAsk 2 (none) ∈ z_tbl := z_in (i := 1192) (by decide +kernel) rfl
theorem zi_X4 : Cond.initialized RX4 ∈ z_tbl := z_in (i := 190) (by decide +kernel) rfl
theorem zd_X4_addAsk : yX4_addAsk.cls ≠ "java/lang/invoke/MethodHandle" ∧ yX4_addAsk.cls ≠ "java/lang/invoke/VarHandle" ∧ (parseMethodDescriptor yX4_addAsk.desc).map (fun d => d.parameters.length) = some 1 := ⟨by decide +kernel, by decide +kernel, by decide +kernel⟩
theorem zn_X4_addAsk : Cond.instanceMethod yX4_addAsk ∈ z_tbl := z_in (i := 1191) (by decide +kernel) rfl
theorem ze_X4_addAsk : Cond.selects yX4_addAsk.cls yX4_addAsk yX4_addAsk ∈ z_tbl := z_in (i := 82) (by decide +kernel) rfl
theorem zl_X4_103 : Cond.methodLink RX4 103 yX4_addAsk ∈ z_tbl ∨ ∃ host, Cond.methodLinkNest RX4 103 yX4_addAsk host ∈ z_nst := Or.inl (z_in (i := 1189) (by decide +kernel) rfl)
theorem zf_X4_98 : z_Fl RX4 98 3 2 RX3 TX3 7 := ⟨rfl, z_inX3, by decide, by decide, Or.inr ⟨"SaidSo", z_inN (i := 429) (by decide +kernel) rfl⟩⟩
theorem zf_X4_80 : z_Fl RX4 80 3 3 RX3 TX3 7 := ⟨rfl, z_inX3, by decide, by decide, Or.inr ⟨"SaidSo", z_inN (i := 433) (by decide +kernel) rfl⟩⟩
theorem zf_X4_76 : z_Fl RX4 76 0 2 RX0 TX0 13 := ⟨rfl, z_inX0, by decide, by decide, Or.inr ⟨"SaidSo", z_inN (i := 531) (by decide +kernel) rfl⟩⟩
theorem zk_X4_start : Cond.code yX4_start cX4_start 4 (none) ∈ z_tbl := z_in (i := 1183) (by decide +kernel) rfl
theorem zd_X4_start : yX4_start.cls ≠ "java/lang/invoke/MethodHandle" ∧ yX4_start.cls ≠ "java/lang/invoke/VarHandle" ∧ (parseMethodDescriptor yX4_start.desc).map (fun d => d.parameters.length) = some 2 := ⟨by decide +kernel, by decide +kernel, by decide +kernel⟩
theorem zn_X4_start : Cond.instanceMethod yX4_start ∈ z_tbl := z_in (i := 1182) (by decide +kernel) rfl
theorem ze_X4_start : Cond.selects yX4_start.cls yX4_start yX4_start ∈ z_tbl := z_in (i := 80) (by decide +kernel) rfl
theorem zl_X4_85 : Cond.methodLink RX4 85 yX4_start ∈ z_tbl ∨ ∃ host, Cond.methodLinkNest RX4 85 yX4_start host ∈ z_nst := Or.inl (z_in (i := 1180) (by decide +kernel) rfl)
theorem zf_X4_88 : z_Fl RX4 88 3 4 RX3 TX3 7 := ⟨rfl, z_inX3, by decide, by decide, Or.inr ⟨"SaidSo", z_inN (i := 437) (by decide +kernel) rfl⟩⟩
theorem zf_X4_91 : z_Fl RX4 91 8 3 RX8 TX8 6 := ⟨rfl, z_inX8, by decide, by decide, Or.inr ⟨"SaidSo", z_inN (i := 385) (by decide +kernel) rfl⟩⟩
theorem zk_X8_offHours : Cond.code yX8_offHours cX8_offHours 3 (some .int) ∈ z_tbl := z_in (i := 1187) (by decide +kernel) rfl
theorem zd_X8_offHours : yX8_offHours.cls ≠ "java/lang/invoke/MethodHandle" ∧ yX8_offHours.cls ≠ "java/lang/invoke/VarHandle" ∧ (parseMethodDescriptor yX8_offHours.desc).map (fun d => d.parameters.length) = some 2 := ⟨by decide +kernel, by decide +kernel, by decide +kernel⟩
theorem zn_X8_offHours : Cond.instanceMethod yX8_offHours ∈ z_tbl := z_in (i := 1186) (by decide +kernel) rfl
theorem ze_X8_offHours : Cond.selects yX8_offHours.cls yX8_offHours yX8_offHours ∈ z_tbl := z_in (i := 81) (by decide +kernel) rfl
theorem zl_X4_94 : Cond.methodLink RX4 94 yX8_offHours ∈ z_tbl ∨ ∃ host, Cond.methodLinkNest RX4 94 yX8_offHours host ∈ z_nst := Or.inr ⟨"SaidSo", z_inN (i := 1184) (by decide +kernel) rfl⟩
theorem zcsl_X4_37 : Cond.constantLong RX4 37 (100) ∈ z_tbl := z_in (i := 1217) (by decide +kernel) rfl
theorem zml_X4_39 : Cond.methodLink RX4 39 Lib.MathLoose.min_long.x ∈ z_tbl := z_in (i := 1218) (by decide +kernel) rfl
theorem zmq_lmin : Cond.static Lib.MathLoose.min_long.x ∈ z_tbl := z_in (i := 1219) (by decide +kernel) rfl
theorem zmk_lmin : Cond.code Lib.MathLoose.min_long.x Lib.MathLoose.min_long.code 4 (some .long) ∈ z_tbl := z_in (i := 1220) (by decide +kernel) rfl
theorem zml_X4_45 : Cond.methodLink RX4 45 Lib.MathLoose.max_long.x ∈ z_tbl := z_in (i := 1221) (by decide +kernel) rfl
theorem zmq_lmax : Cond.static Lib.MathLoose.max_long.x ∈ z_tbl := z_in (i := 1222) (by decide +kernel) rfl
theorem zmk_lmax : Cond.code Lib.MathLoose.max_long.x Lib.MathLoose.max_long.code 4 (some .long) ∈ z_tbl := z_in (i := 1223) (by decide +kernel) rfl
theorem zk_X4_setAtWord : Cond.code yX4_setAtWord cX4_setAtWord 6 (none) ∈ z_tbl := z_in (i := 1179) (by decide +kernel) rfl
theorem zd_X4_setAtWord : yX4_setAtWord.cls ≠ "java/lang/invoke/MethodHandle" ∧ yX4_setAtWord.cls ≠ "java/lang/invoke/VarHandle" ∧ (parseMethodDescriptor yX4_setAtWord.desc).map (fun d => d.parameters.length) = some 2 := ⟨by decide +kernel, by decide +kernel, by decide +kernel⟩
theorem zn_X4_setAtWord : Cond.instanceMethod yX4_setAtWord ∈ z_tbl := z_in (i := 1178) (by decide +kernel) rfl
theorem ze_X4_setAtWord : Cond.selects yX4_setAtWord.cls yX4_setAtWord yX4_setAtWord ∈ z_tbl := z_in (i := 79) (by decide +kernel) rfl
theorem zl_X4_19 : Cond.methodLink RX4 19 yX4_setAtWord ∈ z_tbl ∨ ∃ host, Cond.methodLinkNest RX4 19 yX4_setAtWord host ∈ z_nst := Or.inl (z_in (i := 1176) (by decide +kernel) rfl)
theorem zf_X4_23 : z_Fl RX4 23 0 4 RX0 TX0 13 := ⟨rfl, z_inX0, by decide, by decide, Or.inr ⟨"SaidSo", z_inN (i := 539) (by decide +kernel) rfl⟩⟩
theorem zf_X4_15 : z_Fl RX4 15 4 1 RX4 TX4 2 := ⟨rfl, z_inX4, by decide, by decide, Or.inl (z_in (i := 648) (by decide +kernel) rfl)⟩
theorem zk_X2_workOut : Cond.code yX2_workOut cX2_workOut 8 (some .long) ∈ z_tbl := z_in (i := 1196) (by decide +kernel) rfl
theorem zd_X2_workOut : yX2_workOut.cls ≠ "java/lang/invoke/MethodHandle" ∧ yX2_workOut.cls ≠ "java/lang/invoke/VarHandle" ∧ (parseMethodDescriptor yX2_workOut.desc).map (fun d => d.parameters.length) = some 2 := ⟨by decide +kernel, by decide +kernel, by decide +kernel⟩
theorem zn_X2_workOut : Cond.instanceMethod yX2_workOut ∈ z_tbl := z_in (i := 1195) (by decide +kernel) rfl
theorem ze_X2_workOut : Cond.selects yX2_workOut.cls yX2_workOut yX2_workOut ∈ z_tbl := z_in (i := 83) (by decide +kernel) rfl
theorem zl_X4_29 : Cond.methodLink RX4 29 yX2_workOut ∈ z_tbl ∨ ∃ host, Cond.methodLinkNest RX4 29 yX2_workOut host ∈ z_nst := Or.inr ⟨"SaidSo", z_inN (i := 1193) (by decide +kernel) rfl⟩
theorem zcsl_X4_35 : Cond.constantLong RX4 35 (-4000000000000000000) ∈ z_tbl := z_in (i := 1216) (by decide +kernel) rfl
theorem zf_X1_34 : z_Fl RX1 34 0 2 RX0 TX0 13 := ⟨rfl, z_inX0, by decide, by decide, Or.inr ⟨"SaidSo", z_inN (i := 528) (by decide +kernel) rfl⟩⟩
theorem zf_X1_50 : z_Fl RX1 50 3 5 RX3 TX3 7 := ⟨rfl, z_inX3, by decide, by decide, Or.inr ⟨"SaidSo", z_inN (i := 440) (by decide +kernel) rfl⟩⟩
theorem zf_X1_53 : z_Fl RX1 53 0 0 RX0 TX0 13 := ⟨rfl, z_inX0, by decide, by decide, Or.inr ⟨"SaidSo", z_inN (i := 518) (by decide +kernel) rfl⟩⟩
theorem zf_X1_57 : z_Fl RX1 57 9 2 RX9 TX9 6 := ⟨rfl, z_inX9, by decide, by decide, Or.inr ⟨"SaidSo", z_inN (i := 336) (by decide +kernel) rfl⟩⟩
theorem zf_X1_60 : z_Fl RX1 60 9 3 RX9 TX9 6 := ⟨rfl, z_inX9, by decide, by decide, Or.inr ⟨"SaidSo", z_inN (i := 342) (by decide +kernel) rfl⟩⟩
theorem zk_X0_latestPut : Cond.code yX0_latestPut cX0_latestPut 3 (some .int) ∈ z_tbl := z_in (i := 1237) (by decide +kernel) rfl
theorem zd_X0_latestPut : yX0_latestPut.cls ≠ "java/lang/invoke/MethodHandle" ∧ yX0_latestPut.cls ≠ "java/lang/invoke/VarHandle" ∧ (parseMethodDescriptor yX0_latestPut.desc).map (fun d => d.parameters.length) = some 1 := ⟨by decide +kernel, by decide +kernel, by decide +kernel⟩
theorem zn_X0_latestPut : Cond.instanceMethod yX0_latestPut ∈ z_tbl := z_in (i := 1236) (by decide +kernel) rfl
theorem ze_X0_latestPut : Cond.selects yX0_latestPut.cls yX0_latestPut yX0_latestPut ∈ z_tbl := z_in (i := 85) (by decide +kernel) rfl
theorem zl_X1_61 : Cond.methodLink RX1 61 yX0_latestPut ∈ z_tbl ∨ ∃ host, Cond.methodLinkNest RX1 61 yX0_latestPut host ∈ z_nst := Or.inr ⟨"SaidSo", z_inN (i := 1234) (by decide +kernel) rfl⟩
theorem zk_X4_lawAt : Cond.code yX4_lawAt cX4_lawAt 5 (some .int) ∈ z_tbl := z_in (i := 1175) (by decide +kernel) rfl
theorem zd_X4_lawAt : yX4_lawAt.cls ≠ "java/lang/invoke/MethodHandle" ∧ yX4_lawAt.cls ≠ "java/lang/invoke/VarHandle" ∧ (parseMethodDescriptor yX4_lawAt.desc).map (fun d => d.parameters.length) = some 2 := ⟨by decide +kernel, by decide +kernel, by decide +kernel⟩
theorem zn_X4_lawAt : Cond.instanceMethod yX4_lawAt ∈ z_tbl := z_in (i := 1174) (by decide +kernel) rfl
theorem ze_X4_lawAt : Cond.selects yX4_lawAt.cls yX4_lawAt yX4_lawAt ∈ z_tbl := z_in (i := 78) (by decide +kernel) rfl
theorem zl_X1_65 : Cond.methodLink RX1 65 yX4_lawAt ∈ z_tbl ∨ ∃ host, Cond.methodLinkNest RX1 65 yX4_lawAt host ∈ z_nst := Or.inr ⟨"SaidSo", z_inN (i := 1238) (by decide +kernel) rfl⟩
theorem zl_X1_71 : Cond.methodLink RX1 71 yX0_isRight ∈ z_tbl ∨ ∃ host, Cond.methodLinkNest RX1 71 yX0_isRight host ∈ z_nst := Or.inr ⟨"SaidSo", z_inN (i := 1239) (by decide +kernel) rfl⟩
theorem zl_X1_47 : Cond.methodLink RX1 47 yX0_isFirst ∈ z_tbl ∨ ∃ host, Cond.methodLinkNest RX1 47 yX0_isFirst host ∈ z_nst := Or.inr ⟨"SaidSo", z_inN (i := 1233) (by decide +kernel) rfl⟩
theorem zl_X1_43 : Cond.methodLink RX1 43 yX0_isHeardWordOf ∈ z_tbl ∨ ∃ host, Cond.methodLinkNest RX1 43 yX0_isHeardWordOf host ∈ z_nst := Or.inr ⟨"SaidSo", z_inN (i := 1232) (by decide +kernel) rfl⟩
theorem zf_X1_40 : z_Fl RX1 40 3 0 RX3 TX3 7 := ⟨rfl, z_inX3, by decide, by decide, Or.inr ⟨"SaidSo", z_inN (i := 417) (by decide +kernel) rfl⟩⟩
theorem zf_X3_18 : z_Fl RX3 18 3 2 RX3 TX3 7 := ⟨rfl, z_inX3, by decide, by decide, Or.inl (z_in (i := 427) (by decide +kernel) rfl)⟩
theorem zf_X3_32 : z_Fl RX3 32 3 6 RX3 TX3 7 := ⟨rfl, z_inX3, by decide, by decide, Or.inl (z_in (i := 444) (by decide +kernel) rfl)⟩
theorem zf_X3_15 : z_Fl RX3 15 3 1 RX3 TX3 7 := ⟨rfl, z_inX3, by decide, by decide, Or.inl (z_in (i := 423) (by decide +kernel) rfl)⟩
theorem zl_X4_160 : Cond.methodLink RX4 160 yX0_isRight ∈ z_tbl ∨ ∃ host, Cond.methodLinkNest RX4 160 yX0_isRight host ∈ z_nst := Or.inr ⟨"SaidSo", z_inN (i := 1273) (by decide +kernel) rfl⟩
theorem zl_X4_163 : Cond.methodLink RX4 163 yX0_isNew ∈ z_tbl ∨ ∃ host, Cond.methodLinkNest RX4 163 yX0_isNew host ∈ z_nst := Or.inr ⟨"SaidSo", z_inN (i := 1274) (by decide +kernel) rfl⟩
theorem zk_X4_addFirst : Cond.code yX4_addFirst cX4_addFirst 3 (none) ∈ z_tbl := z_in (i := 1278) (by decide +kernel) rfl
theorem zd_X4_addFirst : yX4_addFirst.cls ≠ "java/lang/invoke/MethodHandle" ∧ yX4_addFirst.cls ≠ "java/lang/invoke/VarHandle" ∧ (parseMethodDescriptor yX4_addFirst.desc).map (fun d => d.parameters.length) = some 2 := ⟨by decide +kernel, by decide +kernel, by decide +kernel⟩
theorem zn_X4_addFirst : Cond.instanceMethod yX4_addFirst ∈ z_tbl := z_in (i := 1277) (by decide +kernel) rfl
theorem ze_X4_addFirst : Cond.selects yX4_addFirst.cls yX4_addFirst yX4_addFirst ∈ z_tbl := z_in (i := 92) (by decide +kernel) rfl
theorem zl_X4_166 : Cond.methodLink RX4 166 yX4_addFirst ∈ z_tbl ∨ ∃ host, Cond.methodLinkNest RX4 166 yX4_addFirst host ∈ z_nst := Or.inl (z_in (i := 1275) (by decide +kernel) rfl)
theorem zl_X4_157 : Cond.methodLink RX4 157 yX0_isFirst ∈ z_tbl ∨ ∃ host, Cond.methodLinkNest RX4 157 yX0_isFirst host ∈ z_nst := Or.inr ⟨"SaidSo", z_inN (i := 1272) (by decide +kernel) rfl⟩
theorem zl_X4_153 : Cond.methodLink RX4 153 yX0_isHeard ∈ z_tbl ∨ ∃ host, Cond.methodLinkNest RX4 153 yX0_isHeard host ∈ z_nst := Or.inr ⟨"SaidSo", z_inN (i := 1271) (by decide +kernel) rfl⟩
theorem zf_X4_152 : z_Fl RX4 152 3 0 RX3 TX3 7 := ⟨rfl, z_inX3, by decide, by decide, Or.inr ⟨"SaidSo", z_inN (i := 422) (by decide +kernel) rfl⟩⟩
theorem zk_X0_pageState : Cond.code yX0_pageState cX0_pageState 3 (some .int) ∈ z_tbl := z_in (i := 1073) (by decide +kernel) rfl
theorem zd_X0_pageState : yX0_pageState.cls ≠ "java/lang/invoke/MethodHandle" ∧ yX0_pageState.cls ≠ "java/lang/invoke/VarHandle" ∧ (parseMethodDescriptor yX0_pageState.desc).map (fun d => d.parameters.length) = some 1 := ⟨by decide +kernel, by decide +kernel, by decide +kernel⟩
theorem zn_X0_pageState : Cond.instanceMethod yX0_pageState ∈ z_tbl := z_in (i := 1072) (by decide +kernel) rfl
theorem ze_X0_pageState : Cond.selects yX0_pageState.cls yX0_pageState yX0_pageState ∈ z_tbl := z_in (i := 65) (by decide +kernel) rfl
theorem zl_X4_129 : Cond.methodLink RX4 129 yX0_pageState ∈ z_tbl ∨ ∃ host, Cond.methodLinkNest RX4 129 yX0_pageState host ∈ z_nst := Or.inr ⟨"SaidSo", z_inN (i := 1283) (by decide +kernel) rfl⟩
theorem zf_X4_114 : z_Fl RX4 114 0 3 RX0 TX0 13 := ⟨rfl, z_inX0, by decide, by decide, Or.inr ⟨"SaidSo", z_inN (i := 535) (by decide +kernel) rfl⟩⟩
theorem zf_X4_128 : z_Fl RX4 128 6 1 RX6 TX6 6 := ⟨rfl, z_inX6, by decide, by decide, Or.inr ⟨"SaidSo", z_inN (i := 477) (by decide +kernel) rfl⟩⟩
theorem zf_X4_124 : z_Fl RX4 124 6 0 RX6 TX6 6 := ⟨rfl, z_inX6, by decide, by decide, Or.inr ⟨"SaidSo", z_inN (i := 473) (by decide +kernel) rfl⟩⟩
theorem zf_X4_107 : z_Fl RX4 107 8 4 RX8 TX8 6 := ⟨rfl, z_inX8, by decide, by decide, Or.inr ⟨"SaidSo", z_inN (i := 391) (by decide +kernel) rfl⟩⟩
theorem zk_X4_addLines : Cond.code yX4_addLines cX4_addLines 6 (none) ∈ z_tbl := z_in (i := 1270) (by decide +kernel) rfl
theorem zd_X4_addLines : yX4_addLines.cls ≠ "java/lang/invoke/MethodHandle" ∧ yX4_addLines.cls ≠ "java/lang/invoke/VarHandle" ∧ (parseMethodDescriptor yX4_addLines.desc).map (fun d => d.parameters.length) = some 3 := ⟨by decide +kernel, by decide +kernel, by decide +kernel⟩
theorem zn_X4_addLines : Cond.instanceMethod yX4_addLines ∈ z_tbl := z_in (i := 1269) (by decide +kernel) rfl
theorem ze_X4_addLines : Cond.selects yX4_addLines.cls yX4_addLines yX4_addLines ∈ z_tbl := z_in (i := 91) (by decide +kernel) rfl
theorem zl_X4_110 : Cond.methodLink RX4 110 yX4_addLines ∈ z_tbl ∨ ∃ host, Cond.methodLinkNest RX4 110 yX4_addLines host ∈ z_nst := Or.inl (z_in (i := 1267) (by decide +kernel) rfl)
theorem zk_X6_linesOf : Cond.code yX6_linesOf cX6_linesOf 4 (some .int) ∈ z_tbl := z_in (i := 1282) (by decide +kernel) rfl
theorem zd_X6_linesOf : yX6_linesOf.cls ≠ "java/lang/invoke/MethodHandle" ∧ yX6_linesOf.cls ≠ "java/lang/invoke/VarHandle" ∧ (parseMethodDescriptor yX6_linesOf.desc).map (fun d => d.parameters.length) = some 1 := ⟨by decide +kernel, by decide +kernel, by decide +kernel⟩
theorem zn_X6_linesOf : Cond.instanceMethod yX6_linesOf ∈ z_tbl := z_in (i := 1281) (by decide +kernel) rfl
theorem ze_X6_linesOf : Cond.selects yX6_linesOf.cls yX6_linesOf yX6_linesOf ∈ z_tbl := z_in (i := 93) (by decide +kernel) rfl
theorem zl_X4_118 : Cond.methodLink RX4 118 yX6_linesOf ∈ z_tbl ∨ ∃ host, Cond.methodLinkNest RX4 118 yX6_linesOf host ∈ z_nst := Or.inr ⟨"SaidSo", z_inN (i := 1279) (by decide +kernel) rfl⟩
theorem zk_X4_setTalk : Cond.code yX4_setTalk cX4_setTalk 5 (none) ∈ z_tbl := z_in (i := 1266) (by decide +kernel) rfl
theorem zd_X4_setTalk : yX4_setTalk.cls ≠ "java/lang/invoke/MethodHandle" ∧ yX4_setTalk.cls ≠ "java/lang/invoke/VarHandle" ∧ (parseMethodDescriptor yX4_setTalk.desc).map (fun d => d.parameters.length) = some 2 := ⟨by decide +kernel, by decide +kernel, by decide +kernel⟩
theorem zn_X4_setTalk : Cond.instanceMethod yX4_setTalk ∈ z_tbl := z_in (i := 1265) (by decide +kernel) rfl
theorem ze_X4_setTalk : Cond.selects yX4_setTalk.cls yX4_setTalk yX4_setTalk ∈ z_tbl := z_in (i := 90) (by decide +kernel) rfl
theorem zl_X4_48 : Cond.methodLink RX4 48 yX4_setTalk ∈ z_tbl ∨ ∃ host, Cond.methodLinkNest RX4 48 yX4_setTalk host ∈ z_nst := Or.inl (z_in (i := 1263) (by decide +kernel) rfl)
theorem zf_X4_51 : z_Fl RX4 51 0 5 RX0 TX0 13 := ⟨rfl, z_inX0, by decide, by decide, Or.inr ⟨"SaidSo", z_inN (i := 542) (by decide +kernel) rfl⟩⟩
theorem zk_X4_isSo : Cond.code yX4_isSo cX4_isSo 4 (some .boolean) ∈ z_tbl := z_in (i := 1287) (by decide +kernel) rfl
theorem zd_X4_isSo : yX4_isSo.cls ≠ "java/lang/invoke/MethodHandle" ∧ yX4_isSo.cls ≠ "java/lang/invoke/VarHandle" ∧ (parseMethodDescriptor yX4_isSo.desc).map (fun d => d.parameters.length) = some 1 := ⟨by decide +kernel, by decide +kernel, by decide +kernel⟩
theorem zn_X4_isSo : Cond.instanceMethod yX4_isSo ∈ z_tbl := z_in (i := 1286) (by decide +kernel) rfl
theorem ze_X4_isSo : Cond.selects yX4_isSo.cls yX4_isSo yX4_isSo ∈ z_tbl := z_in (i := 94) (by decide +kernel) rfl
theorem zl_X4_54 : Cond.methodLink RX4 54 yX4_isSo ∈ z_tbl ∨ ∃ host, Cond.methodLinkNest RX4 54 yX4_isSo host ∈ z_nst := Or.inl (z_in (i := 1284) (by decide +kernel) rfl)
theorem zf_X4_139 : z_Fl RX4 139 6 3 RX6 TX6 6 := ⟨rfl, z_inX6, by decide, by decide, Or.inr ⟨"SaidSo", z_inN (i := 485) (by decide +kernel) rfl⟩⟩
theorem zf_X4_140 : z_Fl RX4 140 0 0 RX0 TX0 13 := ⟨rfl, z_inX0, by decide, by decide, Or.inr ⟨"SaidSo", z_inN (i := 521) (by decide +kernel) rfl⟩⟩
theorem zf_X4_144 : z_Fl RX4 144 9 3 RX9 TX9 6 := ⟨rfl, z_inX9, by decide, by decide, Or.inr ⟨"SaidSo", z_inN (i := 346) (by decide +kernel) rfl⟩⟩
theorem zf_X4_149 : z_Fl RX4 149 6 2 RX6 TX6 6 := ⟨rfl, z_inX6, by decide, by decide, Or.inr ⟨"SaidSo", z_inN (i := 481) (by decide +kernel) rfl⟩⟩
theorem zk_X6_isFirstOf : Cond.code yX6_isFirstOf cX6_isFirstOf 4 (some .boolean) ∈ z_tbl := z_in (i := 1049) (by decide +kernel) rfl
