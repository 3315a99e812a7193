theorem ze_X10_cutOne : Cond.selects yX10_cutOne.cls yX10_cutOne yX10_cutOne ∈ z_tbl := z_in (i := 2) (by decide +kernel) rfl
theorem zl_X10_72 : Cond.methodLink RX10 72 yX10_cutOne ∈ z_tbl ∨ ∃ host, Cond.methodLinkNest RX10 72 yX10_cutOne host ∈ z_nst := Or.inl (z_in (i := 727) (by decide +kernel) rfl)
theorem zf_X10_18 : z_Fl RX10 18 10 2 RX10 TX10 13 := ⟨rfl, z_inX10, by decide, by decide, Or.inl (z_in (i := 274) (by decide +kernel) rfl)⟩
theorem zf_X11_43 : z_Fl RX11 43 11 6 RX11 TX11 8 := ⟨rfl, z_inX11, by decide, by decide, Or.inl (z_in (i := 689) (by decide +kernel) rfl)⟩
theorem zf_X11_19 : z_Fl RX11 19 11 1 RX11 TX11 8 := ⟨rfl, z_inX11, by decide, by decide, Or.inl (z_in (i := 684) (by decide +kernel) rfl)⟩
theorem zk_X4_bars : Cond.code yX4_bars cX4_bars 3 (some .boolean) ∈ z_tbl := z_in (i := 1262) (by decide +kernel) rfl
theorem zd_X4_bars : yX4_bars.cls ≠ "java/lang/invoke/MethodHandle" ∧ yX4_bars.cls ≠ "java/lang/invoke/VarHandle" ∧ (parseMethodDescriptor yX4_bars.desc).map (fun d => d.parameters.length) = some 2 := ⟨by decide +kernel, by decide +kernel, by decide +kernel⟩
theorem zn_X4_bars : Cond.instanceMethod yX4_bars ∈ z_tbl := z_in (i := 1261) (by decide +kernel) rfl
theorem ze_X4_bars : Cond.selects yX4_bars.cls yX4_bars yX4_bars ∈ z_tbl := z_in (i := 89) (by decide +kernel) rfl
theorem zl_X11_281 : Cond.methodLink RX11 281 yX4_bars ∈ z_tbl ∨ ∃ host, Cond.methodLinkNest RX11 281 yX4_bars host ∈ z_nst := Or.inr ⟨"SaidSo", z_inN (i := 1259) (by decide +kernel) rfl⟩
theorem zf_X11_96 : z_Fl RX11 96 0 1 RX0 TX0 13 := ⟨rfl, z_inX0, by decide, by decide, Or.inr ⟨"SaidSo", z_inN (i := 524) (by decide +kernel) rfl⟩⟩
theorem zl_X11_132 : Cond.methodLink RX11 132 yX8_has ∈ z_tbl ∨ ∃ host, Cond.methodLinkNest RX11 132 yX8_has host ∈ z_nst := Or.inr ⟨"SaidSo", z_inN (i := 923) (by decide +kernel) rfl⟩
theorem zf_X11_27 : z_Fl RX11 27 11 3 RX11 TX11 8 := ⟨rfl, z_inX11, by decide, by decide, Or.inl (z_in (i := 686) (by decide +kernel) rfl)⟩
theorem zf_X11_30 : z_Fl RX11 30 11 4 RX11 TX11 8 := ⟨rfl, z_inX11, by decide, by decide, Or.inl (z_in (i := 687) (by decide +kernel) rfl)⟩
theorem zl_X11_246 : Cond.methodLink RX11 246 yX0_clashes ∈ z_tbl ∨ ∃ host, Cond.methodLinkNest RX11 246 yX0_clashes host ∈ z_nst := Or.inr ⟨"SaidSo", z_inN (i := 1121) (by decide +kernel) rfl⟩
theorem zf_X11_148 : z_Fl RX11 148 0 2 RX0 TX0 13 := ⟨rfl, z_inX0, by decide, by decide, Or.inr ⟨"SaidSo", z_inN (i := 532) (by decide +kernel) rfl⟩⟩
theorem zf_X11_178 : z_Fl RX11 178 3 0 RX3 TX3 7 := ⟨rfl, z_inX3, by decide, by decide, Or.inr ⟨"SaidSo", z_inN (i := 421) (by decide +kernel) rfl⟩⟩
theorem zf_X11_296 : z_Fl RX11 296 3 1 RX3 TX3 7 := ⟨rfl, z_inX3, by decide, by decide, Or.inr ⟨"SaidSo", z_inN (i := 426) (by decide +kernel) rfl⟩⟩
theorem zf_X11_185 : z_Fl RX11 185 0 9 RX0 TX0 13 := ⟨rfl, z_inX0, by decide, by decide, Or.inr ⟨"SaidSo", z_inN (i := 554) (by decide +kernel) rfl⟩⟩
theorem zf_X11_293 : z_Fl RX11 293 0 8 RX0 TX0 13 := ⟨rfl, z_inX0, by decide, by decide, Or.inr ⟨"SaidSo", z_inN (i := 552) (by decide +kernel) rfl⟩⟩
theorem zf_X11_225 : z_Fl RX11 225 0 3 RX0 TX0 13 := ⟨rfl, z_inX0, by decide, by decide, Or.inr ⟨"SaidSo", z_inN (i := 537) (by decide +kernel) rfl⟩⟩
theorem zf_X11_292 : z_Fl RX11 292 6 0 RX6 TX6 6 := ⟨rfl, z_inX6, by decide, by decide, Or.inr ⟨"SaidSo", z_inN (i := 475) (by decide +kernel) rfl⟩⟩
theorem zk_X0_heardLines : Cond.code yX0_heardLines cX0_heardLines 3 (some .int) ∈ z_tbl := z_in (i := 962) (by decide +kernel) rfl
theorem zd_X0_heardLines : yX0_heardLines.cls ≠ "java/lang/invoke/MethodHandle" ∧ yX0_heardLines.cls ≠ "java/lang/invoke/VarHandle" ∧ (parseMethodDescriptor yX0_heardLines.desc).map (fun d => d.parameters.length) = some 0 := ⟨by decide +kernel, by decide +kernel, by decide +kernel⟩
theorem zn_X0_heardLines : Cond.instanceMethod yX0_heardLines ∈ z_tbl := z_in (i := 961) (by decide +kernel) rfl
theorem ze_X0_heardLines : Cond.selects yX0_heardLines.cls yX0_heardLines yX0_heardLines ∈ z_tbl := z_in (i := 47) (by decide +kernel) rfl
theorem zl_X11_188 : Cond.methodLink RX11 188 yX0_heardLines ∈ z_tbl ∨ ∃ host, Cond.methodLinkNest RX11 188 yX0_heardLines host ∈ z_nst := Or.inr ⟨"SaidSo", z_inN (i := 959) (by decide +kernel) rfl⟩
theorem zf_X11_252 : z_Fl RX11 252 8 0 RX8 TX8 6 := ⟨rfl, z_inX8, by decide, by decide, Or.inr ⟨"SaidSo", z_inN (i := 377) (by decide +kernel) rfl⟩⟩
theorem zf_X11_86 : z_Fl RX11 86 0 0 RX0 TX0 13 := ⟨rfl, z_inX0, by decide, by decide, Or.inr ⟨"SaidSo", z_inN (i := 520) (by decide +kernel) rfl⟩⟩
theorem zf_X11_264 : z_Fl RX11 264 9 0 RX9 TX9 6 := ⟨rfl, z_inX9, by decide, by decide, Or.inr ⟨"SaidSo", z_inN (i := 333) (by decide +kernel) rfl⟩⟩
theorem zf_X11_50 : z_Fl RX11 50 11 7 RX11 TX11 8 := ⟨rfl, z_inX11, by decide, by decide, Or.inl (z_in (i := 690) (by decide +kernel) rfl)⟩
theorem zk_X1_prepare : Cond.code yX1_prepare cX1_prepare 6 (none) ∈ z_tbl := z_in (i := 1231) (by decide +kernel) rfl
theorem zd_X1_prepare : yX1_prepare.cls ≠ "java/lang/invoke/MethodHandle" ∧ yX1_prepare.cls ≠ "java/lang/invoke/VarHandle" ∧ (parseMethodDescriptor yX1_prepare.desc).map (fun d => d.parameters.length) = some 3 := ⟨by decide +kernel, by decide +kernel, by decide +kernel⟩
theorem zn_X1_prepare : Cond.instanceMethod yX1_prepare ∈ z_tbl := z_in (i := 1230) (by decide +kernel) rfl
theorem ze_X1_prepare : Cond.selects yX1_prepare.cls yX1_prepare yX1_prepare ∈ z_tbl := z_in (i := 84) (by decide +kernel) rfl
theorem zl_X11_274 : Cond.methodLink RX11 274 yX1_prepare ∈ z_tbl ∨ ∃ host, Cond.methodLinkNest RX11 274 yX1_prepare host ∈ z_nst := Or.inr ⟨"SaidSo", z_inN (i := 1228) (by decide +kernel) rfl⟩
theorem zk_X1_asGood : Cond.code yX1_asGood cX1_asGood 5 (some .int) ∈ z_tbl := z_in (i := 1243) (by decide +kernel) rfl
theorem zd_X1_asGood : yX1_asGood.cls ≠ "java/lang/invoke/MethodHandle" ∧ yX1_asGood.cls ≠ "java/lang/invoke/VarHandle" ∧ (parseMethodDescriptor yX1_asGood.desc).map (fun d => d.parameters.length) = some 2 := ⟨by decide +kernel, by decide +kernel, by decide +kernel⟩
theorem zn_X1_asGood : Cond.instanceMethod yX1_asGood ∈ z_tbl := z_in (i := 1242) (by decide +kernel) rfl
theorem ze_X1_asGood : Cond.selects yX1_asGood.cls yX1_asGood yX1_asGood ∈ z_tbl := z_in (i := 86) (by decide +kernel) rfl
theorem zl_X11_278 : Cond.methodLink RX11 278 yX1_asGood ∈ z_tbl ∨ ∃ host, Cond.methodLinkNest RX11 278 yX1_asGood host ∈ z_nst := Or.inr ⟨"SaidSo", z_inN (i := 1240) (by decide +kernel) rfl⟩
theorem zf_X11_10 : z_Fl RX11 10 11 0 RX11 TX11 8 := ⟨rfl, z_inX11, by decide, by decide, Or.inl (z_in (i := 683) (by decide +kernel) rfl)⟩
theorem zf_X11_83 : z_Fl RX11 83 7 3 RX7 TX7 10 := ⟨rfl, z_inX7, by decide, by decide, Or.inr ⟨"SaidSo", z_inN (i := 593) (by decide +kernel) rfl⟩⟩
theorem zf_X11_80 : z_Fl RX11 80 7 2 RX7 TX7 10 := ⟨rfl, z_inX7, by decide, by decide, Or.inr ⟨"SaidSo", z_inN (i := 591) (by decide +kernel) rfl⟩⟩
theorem zk_X10_keepBytes : Cond.code yX10_keepBytes cX10_keepBytes 3 (none) ∈ z_tbl := z_in (i := 715) (by decide +kernel) rfl
theorem zd_X10_keepBytes : yX10_keepBytes.cls ≠ "java/lang/invoke/MethodHandle" ∧ yX10_keepBytes.cls ≠ "java/lang/invoke/VarHandle" ∧ (parseMethodDescriptor yX10_keepBytes.desc).map (fun d => d.parameters.length) = some 1 := ⟨by decide +kernel, by decide +kernel, by decide +kernel⟩
theorem zn_X10_keepBytes : Cond.instanceMethod yX10_keepBytes ∈ z_tbl := z_in (i := 714) (by decide +kernel) rfl
theorem ze_X10_keepBytes : Cond.selects yX10_keepBytes.cls yX10_keepBytes yX10_keepBytes ∈ z_tbl := z_in (i := 0) (by decide +kernel) rfl
theorem zl_X11_63 : Cond.methodLink RX11 63 yX10_keepBytes ∈ z_tbl ∨ ∃ host, Cond.methodLinkNest RX11 63 yX10_keepBytes host ∈ z_nst := Or.inr ⟨"SaidSo", z_inN (i := 712) (by decide +kernel) rfl⟩
theorem zf_X11_58 : z_Fl RX11 58 10 2 RX10 TX10 13 := ⟨rfl, z_inX10, by decide, by decide, Or.inr ⟨"SaidSo", z_inN (i := 275) (by decide +kernel) rfl⟩⟩
theorem zf_X11_54 : z_Fl RX11 54 7 0 RX7 TX7 10 := ⟨rfl, z_inX7, by decide, by decide, Or.inr ⟨"SaidSo", z_inN (i := 587) (by decide +kernel) rfl⟩⟩
theorem zf_X11_289 : z_Fl RX11 289 0 10 RX0 TX0 13 := ⟨rfl, z_inX0, by decide, by decide, Or.inr ⟨"SaidSo", z_inN (i := 556) (by decide +kernel) rfl⟩⟩
theorem zk_X4_finds : Cond.code yX4_finds cX4_finds 4 (some .boolean) ∈ z_tbl := z_in (i := 1295) (by decide +kernel) rfl
theorem zd_X4_finds : yX4_finds.cls ≠ "java/lang/invoke/MethodHandle" ∧ yX4_finds.cls ≠ "java/lang/invoke/VarHandle" ∧ (parseMethodDescriptor yX4_finds.desc).map (fun d => d.parameters.length) = some 3 := ⟨by decide +kernel, by decide +kernel, by decide +kernel⟩
theorem zn_X4_finds : Cond.instanceMethod yX4_finds ∈ z_tbl := z_in (i := 1294) (by decide +kernel) rfl
theorem ze_X4_finds : Cond.selects yX4_finds.cls yX4_finds yX4_finds ∈ z_tbl := z_in (i := 95) (by decide +kernel) rfl
theorem zl_X11_285 : Cond.methodLink RX11 285 yX4_finds ∈ z_tbl ∨ ∃ host, Cond.methodLinkNest RX11 285 yX4_finds host ∈ z_nst := Or.inr ⟨"SaidSo", z_inN (i := 1292) (by decide +kernel) rfl⟩
theorem zl_X11_271 : Cond.methodLink RX11 271 yX4_lawAt ∈ z_tbl ∨ ∃ host, Cond.methodLinkNest RX11 271 yX4_lawAt host ∈ z_nst := Or.inr ⟨"SaidSo", z_inN (i := 1172) (by decide +kernel) rfl⟩
theorem zk_X0_isHeardWord : Cond.code yX0_isHeardWord cX0_isHeardWord 2 (some .boolean) ∈ z_tbl := z_in (i := 971) (by decide +kernel) rfl
theorem zd_X0_isHeardWord : yX0_isHeardWord.cls ≠ "java/lang/invoke/MethodHandle" ∧ yX0_isHeardWord.cls ≠ "java/lang/invoke/VarHandle" ∧ (parseMethodDescriptor yX0_isHeardWord.desc).map (fun d => d.parameters.length) = some 1 := ⟨by decide +kernel, by decide +kernel, by decide +kernel⟩
theorem zn_X0_isHeardWord : Cond.instanceMethod yX0_isHeardWord ∈ z_tbl := z_in (i := 970) (by decide +kernel) rfl
theorem ze_X0_isHeardWord : Cond.selects yX0_isHeardWord.cls yX0_isHeardWord yX0_isHeardWord ∈ z_tbl := z_in (i := 48) (by decide +kernel) rfl
theorem zl_X11_191 : Cond.methodLink RX11 191 yX0_isHeardWord ∈ z_tbl ∨ ∃ host, Cond.methodLinkNest RX11 191 yX0_isHeardWord host ∈ z_nst := Or.inr ⟨"SaidSo", z_inN (i := 968) (by decide +kernel) rfl⟩
theorem zl_X11_197 : Cond.methodLink RX11 197 yX0_ledBy ∈ z_tbl ∨ ∃ host, Cond.methodLinkNest RX11 197 yX0_ledBy host ∈ z_nst := Or.inr ⟨"SaidSo", z_inN (i := 1012) (by decide +kernel) rfl⟩
theorem zk_X0_leftOut : Cond.code yX0_leftOut cX0_leftOut 4 (some .int) ∈ z_tbl := z_in (i := 1090) (by decide +kernel) rfl
theorem zd_X0_leftOut : yX0_leftOut.cls ≠ "java/lang/invoke/MethodHandle" ∧ yX0_leftOut.cls ≠ "java/lang/invoke/VarHandle" ∧ (parseMethodDescriptor yX0_leftOut.desc).map (fun d => d.parameters.length) = some 1 := ⟨by decide +kernel, by decide +kernel, by decide +kernel⟩
theorem zn_X0_leftOut : Cond.instanceMethod yX0_leftOut ∈ z_tbl := z_in (i := 1089) (by decide +kernel) rfl
theorem ze_X0_leftOut : Cond.selects yX0_leftOut.cls yX0_leftOut yX0_leftOut ∈ z_tbl := z_in (i := 68) (by decide +kernel) rfl
theorem zl_X11_235 : Cond.methodLink RX11 235 yX0_leftOut ∈ z_tbl ∨ ∃ host, Cond.methodLinkNest RX11 235 yX0_leftOut host ∈ z_nst := Or.inr ⟨"SaidSo", z_inN (i := 1087) (by decide +kernel) rfl⟩
theorem zk_X0_liesOf : Cond.code yX0_liesOf cX0_liesOf 7 (some .int) ∈ z_tbl := z_in (i := 1158) (by decide +kernel) rfl
theorem zd_X0_liesOf : yX0_liesOf.cls ≠ "java/lang/invoke/MethodHandle" ∧ yX0_liesOf.cls ≠ "java/lang/invoke/VarHandle" ∧ (parseMethodDescriptor yX0_liesOf.desc).map (fun d => d.parameters.length) = some 2 := ⟨by decide +kernel, by decide +kernel, by decide +kernel⟩
theorem zn_X0_liesOf : Cond.instanceMethod yX0_liesOf ∈ z_tbl := z_in (i := 1157) (by decide +kernel) rfl
theorem ze_X0_liesOf : Cond.selects yX0_liesOf.cls yX0_liesOf yX0_liesOf ∈ z_tbl := z_in (i := 76) (by decide +kernel) rfl
theorem zl_X11_265 : Cond.methodLink RX11 265 yX0_liesOf ∈ z_tbl ∨ ∃ host, Cond.methodLinkNest RX11 265 yX0_liesOf host ∈ z_nst := Or.inr ⟨"SaidSo", z_inN (i := 1155) (by decide +kernel) rfl⟩
theorem zk_X8_areThere : Cond.code yX8_areThere cX8_areThere 2 (some .boolean) ∈ z_tbl := z_in (i := 1154) (by decide +kernel) rfl
theorem zd_X8_areThere : yX8_areThere.cls ≠ "java/lang/invoke/MethodHandle" ∧ yX8_areThere.cls ≠ "java/lang/invoke/VarHandle" ∧ (parseMethodDescriptor yX8_areThere.desc).map (fun d => d.parameters.length) = some 1 := ⟨by decide +kernel, by decide +kernel, by decide +kernel⟩
theorem zn_X8_areThere : Cond.instanceMethod yX8_areThere ∈ z_tbl := z_in (i := 1153) (by decide +kernel) rfl
theorem ze_X8_areThere : Cond.selects yX8_areThere.cls yX8_areThere yX8_areThere ∈ z_tbl := z_in (i := 75) (by decide +kernel) rfl
theorem zl_X11_261 : Cond.methodLink RX11 261 yX8_areThere ∈ z_tbl ∨ ∃ host, Cond.methodLinkNest RX11 261 yX8_areThere host ∈ z_nst := Or.inr ⟨"SaidSo", z_inN (i := 1151) (by decide +kernel) rfl⟩
theorem zf_X11_167 : z_Fl RX11 167 3 6 RX3 TX3 7 := ⟨rfl, z_inX3, by decide, by decide, Or.inr ⟨"SaidSo", z_inN (i := 447) (by decide +kernel) rfl⟩⟩
theorem zf_X11_164 : z_Fl RX11 164 3 5 RX3 TX3 7 := ⟨rfl, z_inX3, by decide, by decide, Or.inr ⟨"SaidSo", z_inN (i := 443) (by decide +kernel) rfl⟩⟩
theorem zf_X11_161 : z_Fl RX11 161 3 4 RX3 TX3 7 := ⟨rfl, z_inX3, by decide, by decide, Or.inr ⟨"SaidSo", z_inN (i := 438) (by decide +kernel) rfl⟩⟩
theorem zf_X11_158 : z_Fl RX11 158 3 3 RX3 TX3 7 := ⟨rfl, z_inX3, by decide, by decide, Or.inr ⟨"SaidSo", z_inN (i := 434) (by decide +kernel) rfl⟩⟩
theorem zf_X11_152 : z_Fl RX11 152 3 2 RX3 TX3 7 := ⟨rfl, z_inX3, by decide, by decide, Or.inr ⟨"SaidSo", z_inN (i := 430) (by decide +kernel) rfl⟩⟩
theorem zl_X11_145 : Cond.methodLink RX11 145 yX0_isHeard ∈ z_tbl ∨ ∃ host, Cond.methodLinkNest RX11 145 yX0_isHeard host ∈ z_nst := Or.inr ⟨"SaidSo", z_inN (i := 931) (by decide +kernel) rfl⟩
theorem zk_X6_outOfOrder : Cond.code yX6_outOfOrder cX6_outOfOrder 6 (some .int) ∈ z_tbl := z_in (i := 1102) (by decide +kernel) rfl
theorem zd_X6_outOfOrder : yX6_outOfOrder.cls ≠ "java/lang/invoke/MethodHandle" ∧ yX6_outOfOrder.cls ≠ "java/lang/invoke/VarHandle" ∧ (parseMethodDescriptor yX6_outOfOrder.desc).map (fun d => d.parameters.length) = some 2 := ⟨by decide +kernel, by decide +kernel, by decide +kernel⟩
theorem zn_X6_outOfOrder : Cond.instanceMethod yX6_outOfOrder ∈ z_tbl := z_in (i := 1101) (by decide +kernel) rfl
theorem ze_X6_outOfOrder : Cond.selects yX6_outOfOrder.cls yX6_outOfOrder yX6_outOfOrder ∈ z_tbl := z_in (i := 70) (by decide +kernel) rfl
theorem zl_X11_238 : Cond.methodLink RX11 238 yX6_outOfOrder ∈ z_tbl ∨ ∃ host, Cond.methodLinkNest RX11 238 yX6_outOfOrder host ∈ z_nst := Or.inr ⟨"SaidSo", z_inN (i := 1099) (by decide +kernel) rfl⟩
theorem zl_X11_100 : Cond.methodLink RX11 100 yX8_numberOf ∈ z_tbl ∨ ∃ host, Cond.methodLinkNest RX11 100 yX8_numberOf host ∈ z_nst := Or.inr ⟨"SaidSo", z_inN (i := 918) (by decide +kernel) rfl⟩
theorem zl_X11_90 : Cond.methodLink RX11 90 yX9_numberOf ∈ z_tbl ∨ ∃ host, Cond.methodLinkNest RX11 90 yX9_numberOf host ∈ z_nst := Or.inr ⟨"SaidSo", z_inN (i := 917) (by decide +kernel) rfl⟩
theorem zf_X11_36 : z_Fl RX11 36 11 5 RX11 TX11 8 := ⟨rfl, z_inX11, by decide, by decide, Or.inl (z_in (i := 688) (by decide +kernel) rfl)⟩
theorem zf_X11_222 : z_Fl RX11 222 5 1 RX5 TX5 3 := ⟨rfl, z_inX5, by decide, by decide, Or.inr ⟨"SaidSo", z_inN (i := 632) (by decide +kernel) rfl⟩⟩
theorem zf_X11_218 : z_Fl RX11 218 5 0 RX5 TX5 3 := ⟨rfl, z_inX5, by decide, by decide, Or.inr ⟨"SaidSo", z_inN (i := 630) (by decide +kernel) rfl⟩⟩
theorem zk_X5_takeWords : Cond.code yX5_takeWords cX5_takeWords 6 (none) ∈ z_tbl := z_in (i := 1058) (by decide +kernel) rfl
theorem zd_X5_takeWords : yX5_takeWords.cls ≠ "java/lang/invoke/MethodHandle" ∧ yX5_takeWords.cls ≠ "java/lang/invoke/VarHandle" ∧ (parseMethodDescriptor yX5_takeWords.desc).map (fun d => d.parameters.length) = some 3 := ⟨by decide +kernel, by decide +kernel, by decide +kernel⟩
theorem zn_X5_takeWords : Cond.instanceMethod yX5_takeWords ∈ z_tbl := z_in (i := 1057) (by decide +kernel) rfl
theorem ze_X5_takeWords : Cond.selects yX5_takeWords.cls yX5_takeWords yX5_takeWords ∈ z_tbl := z_in (i := 63) (by decide +kernel) rfl
theorem zl_X11_214 : Cond.methodLink RX11 214 yX5_takeWords ∈ z_tbl ∨ ∃ host, Cond.methodLinkNest RX11 214 yX5_takeWords host ∈ z_nst := Or.inr ⟨"SaidSo", z_inN (i := 1055) (by decide +kernel) rfl⟩
theorem zk_X5_takePage : Cond.code yX5_takePage cX5_takePage 6 (none) ∈ z_tbl := z_in (i := 1045) (by decide +kernel) rfl
theorem zd_X5_takePage : yX5_takePage.cls ≠ "java/lang/invoke/MethodHandle" ∧ yX5_takePage.cls ≠ "java/lang/invoke/VarHandle" ∧ (parseMethodDescriptor yX5_takePage.desc).map (fun d => d.parameters.length) = some 2 := ⟨by decide +kernel, by decide +kernel, by decide +kernel⟩
theorem zn_X5_takePage : Cond.instanceMethod yX5_takePage ∈ z_tbl := z_in (i := 1044) (by decide +kernel) rfl
theorem ze_X5_takePage : Cond.selects yX5_takePage.cls yX5_takePage yX5_takePage ∈ z_tbl := z_in (i := 60) (by decide +kernel) rfl
theorem zl_X11_210 : Cond.methodLink RX11 210 yX5_takePage ∈ z_tbl ∨ ∃ host, Cond.methodLinkNest RX11 210 yX5_takePage host ∈ z_nst := Or.inr ⟨"SaidSo", z_inN (i := 1042) (by decide +kernel) rfl⟩
theorem zf_X11_23 : z_Fl RX11 23 11 2 RX11 TX11 8 := ⟨rfl, z_inX11, by decide, by decide, Or.inl (z_in (i := 685) (by decide +kernel) rfl)⟩
theorem zk_X5_start : Cond.code yX5_start cX5_start 4 (none) ∈ z_tbl := z_in (i := 1037) (by decide +kernel) rfl
theorem zd_X5_start : yX5_start.cls ≠ "java/lang/invoke/MethodHandle" ∧ yX5_start.cls ≠ "java/lang/invoke/VarHandle" ∧ (parseMethodDescriptor yX5_start.desc).map (fun d => d.parameters.length) = some 3 := ⟨by decide +kernel, by decide +kernel, by decide +kernel⟩
theorem zn_X5_start : Cond.instanceMethod yX5_start ∈ z_tbl := z_in (i := 1036) (by decide +kernel) rfl
theorem ze_X5_start : Cond.selects yX5_start.cls yX5_start yX5_start ∈ z_tbl := z_in (i := 58) (by decide +kernel) rfl
theorem zl_X11_206 : Cond.methodLink RX11 206 yX5_start ∈ z_tbl ∨ ∃ host, Cond.methodLinkNest RX11 206 yX5_start host ∈ z_nst := Or.inr ⟨"SaidSo", z_inN (i := 1034) (by decide +kernel) rfl⟩
theorem zcsl_X11_204 : Cond.constantLong RX11 204 (-1) ∈ z_tbl := z_in (i := 1033) (by decide +kernel) rfl
theorem zl_X11_232 : Cond.methodLink RX11 232 yX0_pageState ∈ z_tbl ∨ ∃ host, Cond.methodLinkNest RX11 232 yX0_pageState host ∈ z_nst := Or.inr ⟨"SaidSo", z_inN (i := 1070) (by decide +kernel) rfl⟩
theorem zk_X6_has : Cond.code yX6_has cX6_has 2 (some .boolean) ∈ z_tbl := z_in (i := 1069) (by decide +kernel) rfl
theorem zd_X6_has : yX6_has.cls ≠ "java/lang/invoke/MethodHandle" ∧ yX6_has.cls ≠ "java/lang/invoke/VarHandle" ∧ (parseMethodDescriptor yX6_has.desc).map (fun d => d.parameters.length) = some 1 := ⟨by decide +kernel, by decide +kernel, by decide +kernel⟩
theorem zn_X6_has : Cond.instanceMethod yX6_has ∈ z_tbl := z_in (i := 1068) (by decide +kernel) rfl
theorem ze_X6_has : Cond.selects yX6_has.cls yX6_has yX6_has ∈ z_tbl := z_in (i := 64) (by decide +kernel) rfl
theorem zl_X11_229 : Cond.methodLink RX11 229 yX6_has ∈ z_tbl ∨ ∃ host, Cond.methodLinkNest RX11 229 yX6_has host ∈ z_nst := Or.inr ⟨"SaidSo", z_inN (i := 1066) (by decide +kernel) rfl⟩
theorem zl_X11_174 : Cond.methodLink RX11 174 yX3_add ∈ z_tbl ∨ ∃ host, Cond.methodLinkNest RX11 174 yX3_add host ∈ z_nst := Or.inr ⟨"SaidSo", z_inN (i := 946) (by decide +kernel) rfl⟩
theorem zk_X0_canCome : Cond.code yX0_canCome cX0_canCome 6 (some .boolean) ∈ z_tbl := z_in (i := 942) (by decide +kernel) rfl
theorem zd_X0_canCome : yX0_canCome.cls ≠ "java/lang/invoke/MethodHandle" ∧ yX0_canCome.cls ≠ "java/lang/invoke/VarHandle" ∧ (parseMethodDescriptor yX0_canCome.desc).map (fun d => d.parameters.length) = some 5 := ⟨by decide +kernel, by decide +kernel, by decide +kernel⟩
theorem zn_X0_canCome : Cond.instanceMethod yX0_canCome ∈ z_tbl := z_in (i := 941) (by decide +kernel) rfl
theorem ze_X0_canCome : Cond.selects yX0_canCome.cls yX0_canCome yX0_canCome ∈ z_tbl := z_in (i := 45) (by decide +kernel) rfl
theorem zl_X11_170 : Cond.methodLink RX11 170 yX0_canCome ∈ z_tbl ∨ ∃ host, Cond.methodLinkNest RX11 170 yX0_canCome host ∈ z_nst := Or.inr ⟨"SaidSo", z_inN (i := 939) (by decide +kernel) rfl⟩
theorem zl_X11_242 : Cond.methodLink RX11 242 yX0_storyValue ∈ z_tbl ∨ ∃ host, Cond.methodLinkNest RX11 242 yX0_storyValue host ∈ z_nst := Or.inr ⟨"SaidSo", z_inN (i := 1116) (by decide +kernel) rfl⟩
theorem zl_X11_103 : Cond.methodLink RX11 103 yX9_has ∈ z_tbl ∨ ∃ host, Cond.methodLinkNest RX11 103 yX9_has host ∈ z_nst := Or.inr ⟨"SaidSo", z_inN (i := 1115) (by decide +kernel) rfl⟩
theorem zk_X0_supposesMore : Cond.code yX0_supposesMore cX0_supposesMore 4 (some .boolean) ∈ z_tbl := z_in (i := 1167) (by decide +kernel) rfl
theorem zd_X0_supposesMore : yX0_supposesMore.cls ≠ "java/lang/invoke/MethodHandle" ∧ yX0_supposesMore.cls ≠ "java/lang/invoke/VarHandle" ∧ (parseMethodDescriptor yX0_supposesMore.desc).map (fun d => d.parameters.length) = some 1 := ⟨by decide +kernel, by decide +kernel, by decide +kernel⟩
theorem zn_X0_supposesMore : Cond.instanceMethod yX0_supposesMore ∈ z_tbl := z_in (i := 1166) (by decide +kernel) rfl
theorem ze_X0_supposesMore : Cond.selects yX0_supposesMore.cls yX0_supposesMore yX0_supposesMore ∈ z_tbl := z_in (i := 77) (by decide +kernel) rfl
theorem zl_X11_268 : Cond.methodLink RX11 268 yX0_supposesMore ∈ z_tbl ∨ ∃ host, Cond.methodLinkNest RX11 268 yX0_supposesMore host ∈ z_nst := Or.inr ⟨"SaidSo", z_inN (i := 1164) (by decide +kernel) rfl⟩
theorem zl_X11_200 : Cond.methodLink RX11 200 yX0_isHeardWordOf ∈ z_tbl ∨ ∃ host, Cond.methodLinkNest RX11 200 yX0_isHeardWordOf host ∈ z_nst := Or.inr ⟨"SaidSo", z_inN (i := 1017) (by decide +kernel) rfl⟩
theorem zf_X11_74 : z_Fl RX11 74 7 1 RX7 TX7 10 := ⟨rfl, z_inX7, by decide, by decide, Or.inr ⟨"SaidSo", z_inN (i := 589) (by decide +kernel) rfl⟩⟩
theorem zf_X11_77 : z_Fl RX11 77 0 7 RX0 TX0 13 := ⟨rfl, z_inX0, by decide, by decide, Or.inr ⟨"SaidSo", z_inN (i := 549) (by decide +kernel) rfl⟩⟩
theorem zk_X10_cut : Cond.code yX10_cut cX10_cut 2 (none) ∈ z_tbl := z_in (i := 723) (by decide +kernel) rfl
theorem zd_X10_cut : yX10_cut.cls ≠ "java/lang/invoke/MethodHandle" ∧ yX10_cut.cls ≠ "java/lang/invoke/VarHandle" ∧ (parseMethodDescriptor yX10_cut.desc).map (fun d => d.parameters.length) = some 1 := ⟨by decide +kernel, by decide +kernel, by decide +kernel⟩
theorem zn_X10_cut : Cond.instanceMethod yX10_cut ∈ z_tbl := z_in (i := 722) (by decide +kernel) rfl
theorem ze_X10_cut : Cond.selects yX10_cut.cls yX10_cut yX10_cut ∈ z_tbl := z_in (i := 1) (by decide +kernel) rfl
theorem zl_X11_67 : Cond.methodLink RX11 67 yX10_cut ∈ z_tbl ∨ ∃ host, Cond.methodLinkNest RX11 67 yX10_cut host ∈ z_nst := Or.inr ⟨"SaidSo", z_inN (i := 720) (by decide +kernel) rfl⟩
theorem zk_X7_readCase : Cond.code yX7_readCase cX7_readCase 3 (some .boolean) ∈ z_tbl := z_in (i := 763) (by decide +kernel) rfl
theorem zd_X7_readCase : yX7_readCase.cls ≠ "java/lang/invoke/MethodHandle" ∧ yX7_readCase.cls ≠ "java/lang/invoke/VarHandle" ∧ (parseMethodDescriptor yX7_readCase.desc).map (fun d => d.parameters.length) = some 0 := ⟨by decide +kernel, by decide +kernel, by decide +kernel⟩
theorem zn_X7_readCase : Cond.instanceMethod yX7_readCase ∈ z_tbl := z_in (i := 762) (by decide +kernel) rfl
theorem ze_X7_readCase : Cond.selects yX7_readCase.cls yX7_readCase yX7_readCase ∈ z_tbl := z_in (i := 8) (by decide +kernel) rfl
theorem zl_X11_70 : Cond.methodLink RX11 70 yX7_readCase ∈ z_tbl ∨ ∃ host, Cond.methodLinkNest RX11 70 yX7_readCase host ∈ z_nst := Or.inr ⟨"SaidSo", z_inN (i := 760) (by decide +kernel) rfl⟩
theorem zf_X11_142 : z_Fl RX11 142 8 5 RX8 TX8 6 := ⟨rfl, z_inX8, by decide, by decide, Or.inr ⟨"SaidSo", z_inN (i := 393) (by decide +kernel) rfl⟩⟩
theorem zf_X11_139 : z_Fl RX11 139 8 4 RX8 TX8 6 := ⟨rfl, z_inX8, by decide, by decide, Or.inr ⟨"SaidSo", z_inN (i := 390) (by decide +kernel) rfl⟩⟩
theorem zf_X11_136 : z_Fl RX11 136 8 3 RX8 TX8 6 := ⟨rfl, z_inX8, by decide, by decide, Or.inr ⟨"SaidSo", z_inN (i := 386) (by decide +kernel) rfl⟩⟩
theorem zf_X11_133 : z_Fl RX11 133 8 2 RX8 TX8 6 := ⟨rfl, z_inX8, by decide, by decide, Or.inr ⟨"SaidSo", z_inN (i := 381) (by decide +kernel) rfl⟩⟩
theorem zk_J6_bitCount_0f7a4 : Cond.code yJ6_bitCount_0f7a4 cJ6_bitCount_0f7a4 1 (some .int) ∈ z_tbl := z_in (i := 1136) (by decide +kernel) rfl
theorem zi_J6 : Cond.initialized RJ6 ∈ z_tbl := z_in (i := 199) (by decide +kernel) rfl
theorem zd_J6_bitCount_0f7a4 : yJ6_bitCount_0f7a4.cls ≠ "java/lang/invoke/MethodHandle" ∧ yJ6_bitCount_0f7a4.cls ≠ "java/lang/invoke/VarHandle" ∧ (parseMethodDescriptor yJ6_bitCount_0f7a4.desc).map (fun d => d.parameters.length) = some 1 := ⟨by decide +kernel, by decide +kernel, by decide +kernel⟩
theorem zq_J6_bitCount_0f7a4 : Cond.static yJ6_bitCount_0f7a4 ∈ z_tbl := z_in (i := 1135) (by decide +kernel) rfl
theorem zl_X11_253 : Cond.methodLink RX11 253 yJ6_bitCount_0f7a4 ∈ z_tbl ∨ ∃ host, Cond.methodLinkNest RX11 253 yJ6_bitCount_0f7a4 host ∈ z_nst := Or.inl (z_in (i := 1134) (by decide +kernel) rfl)
theorem zk_X0_goTogether : Cond.code yX0_goTogether cX0_goTogether 3 (some .boolean) ∈ z_tbl := z_in (i := 1143) (by decide +kernel) rfl
theorem zd_X0_goTogether : yX0_goTogether.cls ≠ "java/lang/invoke/MethodHandle" ∧ yX0_goTogether.cls ≠ "java/lang/invoke/VarHandle" ∧ (parseMethodDescriptor yX0_goTogether.desc).map (fun d => d.parameters.length) = some 1 := ⟨by decide +kernel, by decide +kernel, by decide +kernel⟩
theorem zn_X0_goTogether : Cond.instanceMethod yX0_goTogether ∈ z_tbl := z_in (i := 1142) (by decide +kernel) rfl
theorem ze_X0_goTogether : Cond.selects yX0_goTogether.cls yX0_goTogether yX0_goTogether ∈ z_tbl := z_in (i := 74) (by decide +kernel) rfl
theorem zl_X11_258 : Cond.methodLink RX11 258 yX0_goTogether ∈ z_tbl ∨ ∃ host, Cond.methodLinkNest RX11 258 yX0_goTogether host ∈ z_nst := Or.inr ⟨"SaidSo", z_inN (i := 1140) (by decide +kernel) rfl⟩
theorem zk_X0_findFoes : Cond.code yX0_findFoes cX0_findFoes 3 (none) ∈ z_tbl := z_in (i := 1132) (by decide +kernel) rfl
theorem zd_X0_findFoes : yX0_findFoes.cls ≠ "java/lang/invoke/MethodHandle" ∧ yX0_findFoes.cls ≠ "java/lang/invoke/VarHandle" ∧ (parseMethodDescriptor yX0_findFoes.desc).map (fun d => d.parameters.length) = some 0 := ⟨by decide +kernel, by decide +kernel, by decide +kernel⟩
theorem zn_X0_findFoes : Cond.instanceMethod yX0_findFoes ∈ z_tbl := z_in (i := 1131) (by decide +kernel) rfl
theorem ze_X0_findFoes : Cond.selects yX0_findFoes.cls yX0_findFoes yX0_findFoes ∈ z_tbl := z_in (i := 73) (by decide +kernel) rfl
theorem zl_X11_249 : Cond.methodLink RX11 249 yX0_findFoes ∈ z_tbl ∨ ∃ host, Cond.methodLinkNest RX11 249 yX0_findFoes host ∈ z_nst := Or.inr ⟨"SaidSo", z_inN (i := 1129) (by decide +kernel) rfl⟩
theorem zk_X3_takeBack : Cond.code yX3_takeBack cX3_takeBack 1 (some .int) ∈ z_tbl := z_in (i := 954) (by decide +kernel) rfl
theorem zd_X3_takeBack : yX3_takeBack.cls ≠ "java/lang/invoke/MethodHandle" ∧ yX3_takeBack.cls ≠ "java/lang/invoke/VarHandle" ∧ (parseMethodDescriptor yX3_takeBack.desc).map (fun d => d.parameters.length) = some 0 := ⟨by decide +kernel, by decide +kernel, by decide +kernel⟩
theorem zn_X3_takeBack : Cond.instanceMethod yX3_takeBack ∈ z_tbl := z_in (i := 953) (by decide +kernel) rfl
theorem ze_X3_takeBack : Cond.selects yX3_takeBack.cls yX3_takeBack yX3_takeBack ∈ z_tbl := z_in (i := 46) (by decide +kernel) rfl
theorem zl_X11_181 : Cond.methodLink RX11 181 yX3_takeBack ∈ z_tbl ∨ ∃ host, Cond.methodLinkNest RX11 181 yX3_takeBack host ∈ z_nst := Or.inr ⟨"SaidSo", z_inN (i := 951) (by decide +kernel) rfl⟩
theorem zl_X11_194 : Cond.methodLink RX11 194 yX0_bitsOf ∈ z_tbl ∨ ∃ host, Cond.methodLinkNest RX11 194 yX0_bitsOf host ∈ z_nst := Or.inr ⟨"SaidSo", z_inN (i := 972) (by decide +kernel) rfl⟩
theorem zf_X12_57 : z_Fl RX12 57 12 33 RX12 TX12 66 := ⟨rfl, z_inX12, by decide, by decide, Or.inl (z_in (i := 1459) (by decide +kernel) rfl)⟩
theorem zf_X12_214 : z_Fl RX12 214 12 45 RX12 TX12 66 := ⟨rfl, z_inX12, by decide, by decide, Or.inl (z_in (i := 1471) (by decide +kernel) rfl)⟩
theorem zf_X12_198 : z_Fl RX12 198 12 13 RX12 TX12 66 := ⟨rfl, z_inX12, by decide, by decide, Or.inl (z_in (i := 1439) (by decide +kernel) rfl)⟩
theorem zf_X12_54 : z_Fl RX12 54 12 32 RX12 TX12 66 := ⟨rfl, z_inX12, by decide, by decide, Or.inl (z_in (i := 1458) (by decide +kernel) rfl)⟩
theorem zf_X12_50 : z_Fl RX12 50 12 31 RX12 TX12 66 := ⟨rfl, z_inX12, by decide, by decide, Or.inl (z_in (i := 1457) (by decide +kernel) rfl)⟩
theorem zk_X12_isHeard : Cond.code yX12_isHeard cX12_isHeard 2 (some .boolean) ∈ z_tbl := z_in (i := 1787) (by decide +kernel) rfl
theorem zi_X12 : Cond.initialized RX12 ∈ z_tbl := z_in (i := 192) (by decide +kernel) rfl
theorem zd_X12_isHeard : yX12_isHeard.cls ≠ "java/lang/invoke/MethodHandle" ∧ yX12_isHeard.cls ≠ "java/lang/invoke/VarHandle" ∧ (parseMethodDescriptor yX12_isHeard.desc).map (fun d => d.parameters.length) = some 1 := ⟨by decide +kernel, by decide +kernel, by decide +kernel⟩
theorem zn_X12_isHeard : Cond.instanceMethod yX12_isHeard ∈ z_tbl := z_in (i := 1786) (by decide +kernel) rfl
theorem ze_X12_isHeard : Cond.selects yX12_isHeard.cls yX12_isHeard yX12_isHeard ∈ z_tbl := z_in (i := 133) (by decide +kernel) rfl
theorem zl_X12_318 : Cond.methodLink RX12 318 yX12_isHeard ∈ z_tbl ∨ ∃ host, Cond.methodLinkNest RX12 318 yX12_isHeard host ∈ z_nst := Or.inl (z_in (i := 1784) (by decide +kernel) rfl)
theorem zf_X12_78 : z_Fl RX12 78 12 40 RX12 TX12 66 := ⟨rfl, z_inX12, by decide, by decide, Or.inl (z_in (i := 1466) (by decide +kernel) rfl)⟩
theorem zf_X12_75 : z_Fl RX12 75 12 39 RX12 TX12 66 := ⟨rfl, z_inX12, by decide, by decide, Or.inl (z_in (i := 1465) (by decide +kernel) rfl)⟩
theorem zf_X12_416 : z_Fl RX12 416 12 64 RX12 TX12 66 := ⟨rfl, z_inX12, by decide, by decide, Or.inl (z_in (i := 1490) (by decide +kernel) rfl)⟩
theorem zcsl_X12_421 : Cond.constantLong RX12 421 (-1000000000000) ∈ z_tbl := z_in (i := 1994) (by decide +kernel) rfl
theorem zcsl_X12_419 : Cond.constantLong RX12 419 (1000000000000) ∈ z_tbl := z_in (i := 1993) (by decide +kernel) rfl
theorem zf_X12_81 : z_Fl RX12 81 12 41 RX12 TX12 66 := ⟨rfl, z_inX12, by decide, by decide, Or.inl (z_in (i := 1467) (by decide +kernel) rfl)⟩
theorem zk_X12_compares : Cond.code yX12_compares cX12_compares 5 (some .boolean) ∈ z_tbl := z_in (i := 2001) (by decide +kernel) rfl
theorem zd_X12_compares : yX12_compares.cls ≠ "java/lang/invoke/MethodHandle" ∧ yX12_compares.cls ≠ "java/lang/invoke/VarHandle" ∧ (parseMethodDescriptor yX12_compares.desc).map (fun d => d.parameters.length) = some 3 := ⟨by decide +kernel, by decide +kernel, by decide +kernel⟩
theorem zq_X12_compares : Cond.static yX12_compares ∈ z_tbl := z_in (i := 2000) (by decide +kernel) rfl
theorem zl_X12_430 : Cond.methodLink RX12 430 yX12_compares ∈ z_tbl ∨ ∃ host, Cond.methodLinkNest RX12 430 yX12_compares host ∈ z_nst := Or.inl (z_in (i := 1999) (by decide +kernel) rfl)
theorem zk_X12_times : Cond.code yX12_times cX12_times 6 (some .long) ∈ z_tbl := z_in (i := 1998) (by decide +kernel) rfl
theorem zd_X12_times : yX12_times.cls ≠ "java/lang/invoke/MethodHandle" ∧ yX12_times.cls ≠ "java/lang/invoke/VarHandle" ∧ (parseMethodDescriptor yX12_times.desc).map (fun d => d.parameters.length) = some 2 := ⟨by decide +kernel, by decide +kernel, by decide +kernel⟩
theorem zn_X12_times : Cond.instanceMethod yX12_times ∈ z_tbl := z_in (i := 1997) (by decide +kernel) rfl
theorem ze_X12_times : Cond.selects yX12_times.cls yX12_times yX12_times ∈ z_tbl := z_in (i := 163) (by decide +kernel) rfl
theorem zl_X12_427 : Cond.methodLink RX12 427 yX12_times ∈ z_tbl ∨ ∃ host, Cond.methodLinkNest RX12 427 yX12_times host ∈ z_nst := Or.inl (z_in (i := 1995) (by decide +kernel) rfl)
theorem zk_X12_bounded : Cond.code yX12_bounded cX12_bounded 3 (some .long) ∈ z_tbl := z_in (i := 1992) (by decide +kernel) rfl
theorem zd_X12_bounded : yX12_bounded.cls ≠ "java/lang/invoke/MethodHandle" ∧ yX12_bounded.cls ≠ "java/lang/invoke/VarHandle" ∧ (parseMethodDescriptor yX12_bounded.desc).map (fun d => d.parameters.length) = some 1 := ⟨by decide +kernel, by decide +kernel, by decide +kernel⟩
theorem zn_X12_bounded : Cond.instanceMethod yX12_bounded ∈ z_tbl := z_in (i := 1991) (by decide +kernel) rfl
theorem ze_X12_bounded : Cond.selects yX12_bounded.cls yX12_bounded yX12_bounded ∈ z_tbl := z_in (i := 162) (by decide +kernel) rfl
theorem zl_X12_423 : Cond.methodLink RX12 423 yX12_bounded ∈ z_tbl ∨ ∃ host, Cond.methodLinkNest RX12 423 yX12_bounded host ∈ z_nst := Or.inl (z_in (i := 1989) (by decide +kernel) rfl)
theorem zf_X12_115 : z_Fl RX12 115 12 63 RX12 TX12 66 := ⟨rfl, z_inX12, by decide, by decide, Or.inl (z_in (i := 1489) (by decide +kernel) rfl)⟩
theorem zf_X12_87 : z_Fl RX12 87 12 43 RX12 TX12 66 := ⟨rfl, z_inX12, by decide, by decide, Or.inl (z_in (i := 1469) (by decide +kernel) rfl)⟩
theorem zf_X12_84 : z_Fl RX12 84 12 42 RX12 TX12 66 := ⟨rfl, z_inX12, by decide, by decide, Or.inl (z_in (i := 1468) (by decide +kernel) rfl)⟩
theorem zf_X12_111 : z_Fl RX12 111 12 62 RX12 TX12 66 := ⟨rfl, z_inX12, by decide, by decide, Or.inl (z_in (i := 1488) (by decide +kernel) rfl)⟩
theorem zk_X12_worthOf : Cond.code yX12_worthOf cX12_worthOf 6 (some .long) ∈ z_tbl := z_in (i := 1988) (by decide +kernel) rfl
theorem zd_X12_worthOf : yX12_worthOf.cls ≠ "java/lang/invoke/MethodHandle" ∧ yX12_worthOf.cls ≠ "java/lang/invoke/VarHandle" ∧ (parseMethodDescriptor yX12_worthOf.desc).map (fun d => d.parameters.length) = some 1 := ⟨by decide +kernel, by decide +kernel, by decide +kernel⟩
theorem zn_X12_worthOf : Cond.instanceMethod yX12_worthOf ∈ z_tbl := z_in (i := 1987) (by decide +kernel) rfl
theorem ze_X12_worthOf : Cond.selects yX12_worthOf.cls yX12_worthOf yX12_worthOf ∈ z_tbl := z_in (i := 161) (by decide +kernel) rfl
theorem zl_X12_434 : Cond.methodLink RX12 434 yX12_worthOf ∈ z_tbl ∨ ∃ host, Cond.methodLinkNest RX12 434 yX12_worthOf host ∈ z_nst := Or.inl (z_in (i := 1985) (by decide +kernel) rfl)
theorem zk_X12_sumOf : Cond.code yX12_sumOf cX12_sumOf 3 (some .long) ∈ z_tbl := z_in (i := 1984) (by decide +kernel) rfl
theorem zd_X12_sumOf : yX12_sumOf.cls ≠ "java/lang/invoke/MethodHandle" ∧ yX12_sumOf.cls ≠ "java/lang/invoke/VarHandle" ∧ (parseMethodDescriptor yX12_sumOf.desc).map (fun d => d.parameters.length) = some 1 := ⟨by decide +kernel, by decide +kernel, by decide +kernel⟩
theorem zn_X12_sumOf : Cond.instanceMethod yX12_sumOf ∈ z_tbl := z_in (i := 1983) (by decide +kernel) rfl
theorem ze_X12_sumOf : Cond.selects yX12_sumOf.cls yX12_sumOf yX12_sumOf ∈ z_tbl := z_in (i := 160) (by decide +kernel) rfl
theorem zl_X12_441 : Cond.methodLink RX12 441 yX12_sumOf ∈ z_tbl ∨ ∃ host, Cond.methodLinkNest RX12 441 yX12_sumOf host ∈ z_nst := Or.inl (z_in (i := 1981) (by decide +kernel) rfl)
theorem zk_X12_hasLine : Cond.code yX12_hasLine cX12_hasLine 2 (some .boolean) ∈ z_tbl := z_in (i := 1972) (by decide +kernel) rfl
theorem zd_X12_hasLine : yX12_hasLine.cls ≠ "java/lang/invoke/MethodHandle" ∧ yX12_hasLine.cls ≠ "java/lang/invoke/VarHandle" ∧ (parseMethodDescriptor yX12_hasLine.desc).map (fun d => d.parameters.length) = some 1 := ⟨by decide +kernel, by decide +kernel, by decide +kernel⟩
theorem zn_X12_hasLine : Cond.instanceMethod yX12_hasLine ∈ z_tbl := z_in (i := 1971) (by decide +kernel) rfl
theorem ze_X12_hasLine : Cond.selects yX12_hasLine.cls yX12_hasLine yX12_hasLine ∈ z_tbl := z_in (i := 157) (by decide +kernel) rfl
theorem zl_X12_438 : Cond.methodLink RX12 438 yX12_hasLine ∈ z_tbl ∨ ∃ host, Cond.methodLinkNest RX12 438 yX12_hasLine host ∈ z_nst := Or.inl (z_in (i := 1969) (by decide +kernel) rfl)
theorem zf_X12_47 : z_Fl RX12 47 12 30 RX12 TX12 66 := ⟨rfl, z_inX12, by decide, by decide, Or.inl (z_in (i := 1456) (by decide +kernel) rfl)⟩
theorem zk_X12_isTaped : Cond.code yX12_isTaped cX12_isTaped 2 (some .boolean) ∈ z_tbl := z_in (i := 1956) (by decide +kernel) rfl
theorem zd_X12_isTaped : yX12_isTaped.cls ≠ "java/lang/invoke/MethodHandle" ∧ yX12_isTaped.cls ≠ "java/lang/invoke/VarHandle" ∧ (parseMethodDescriptor yX12_isTaped.desc).map (fun d => d.parameters.length) = some 1 := ⟨by decide +kernel, by decide +kernel, by decide +kernel⟩
theorem zn_X12_isTaped : Cond.instanceMethod yX12_isTaped ∈ z_tbl := z_in (i := 1955) (by decide +kernel) rfl
theorem ze_X12_isTaped : Cond.selects yX12_isTaped.cls yX12_isTaped yX12_isTaped ∈ z_tbl := z_in (i := 154) (by decide +kernel) rfl
theorem zl_X12_410 : Cond.methodLink RX12 410 yX12_isTaped ∈ z_tbl ∨ ∃ host, Cond.methodLinkNest RX12 410 yX12_isTaped host ∈ z_nst := Or.inl (z_in (i := 1953) (by decide +kernel) rfl)
theorem zf_X12_60 : z_Fl RX12 60 12 34 RX12 TX12 66 := ⟨rfl, z_inX12, by decide, by decide, Or.inl (z_in (i := 1460) (by decide +kernel) rfl)⟩
theorem zk_X12_isIn1 : Cond.code yX12_isIn1 cX12_isIn1 4 (some .boolean) ∈ z_tbl := z_in (i := 2042) (by decide +kernel) rfl
theorem zd_X12_isIn1 : yX12_isIn1.cls ≠ "java/lang/invoke/MethodHandle" ∧ yX12_isIn1.cls ≠ "java/lang/invoke/VarHandle" ∧ (parseMethodDescriptor yX12_isIn1.desc).map (fun d => d.parameters.length) = some 3 := ⟨by decide +kernel, by decide +kernel, by decide +kernel⟩
theorem zn_X12_isIn1 : Cond.instanceMethod yX12_isIn1 ∈ z_tbl := z_in (i := 2041) (by decide +kernel) rfl
theorem ze_X12_isIn1 : Cond.selects yX12_isIn1.cls yX12_isIn1 yX12_isIn1 ∈ z_tbl := z_in (i := 170) (by decide +kernel) rfl
theorem zl_X12_475 : Cond.methodLink RX12 475 yX12_isIn1 ∈ z_tbl ∨ ∃ host, Cond.methodLinkNest RX12 475 yX12_isIn1 host ∈ z_nst := Or.inl (z_in (i := 2039) (by decide +kernel) rfl)
theorem zf_X12_63 : z_Fl RX12 63 12 35 RX12 TX12 66 := ⟨rfl, z_inX12, by decide, by decide, Or.inl (z_in (i := 1461) (by decide +kernel) rfl)⟩
theorem zf_X12_26 : z_Fl RX12 26 12 23 RX12 TX12 66 := ⟨rfl, z_inX12, by decide, by decide, Or.inl (z_in (i := 1449) (by decide +kernel) rfl)⟩
theorem zf_X12_38 : z_Fl RX12 38 12 27 RX12 TX12 66 := ⟨rfl, z_inX12, by decide, by decide, Or.inl (z_in (i := 1453) (by decide +kernel) rfl)⟩
theorem zk_X12_isHeardWord : Cond.code yX12_isHeardWord cX12_isHeardWord 2 (some .boolean) ∈ z_tbl := z_in (i := 1814) (by decide +kernel) rfl
theorem zd_X12_isHeardWord : yX12_isHeardWord.cls ≠ "java/lang/invoke/MethodHandle" ∧ yX12_isHeardWord.cls ≠ "java/lang/invoke/VarHandle" ∧ (parseMethodDescriptor yX12_isHeardWord.desc).map (fun d => d.parameters.length) = some 1 := ⟨by decide +kernel, by decide +kernel, by decide +kernel⟩
theorem zn_X12_isHeardWord : Cond.instanceMethod yX12_isHeardWord ∈ z_tbl := z_in (i := 1813) (by decide +kernel) rfl
theorem ze_X12_isHeardWord : Cond.selects yX12_isHeardWord.cls yX12_isHeardWord yX12_isHeardWord ∈ z_tbl := z_in (i := 135) (by decide +kernel) rfl
theorem zl_X12_321 : Cond.methodLink RX12 321 yX12_isHeardWord ∈ z_tbl ∨ ∃ host, Cond.methodLinkNest RX12 321 yX12_isHeardWord host ∈ z_nst := Or.inl (z_in (i := 1811) (by decide +kernel) rfl)
theorem zk_X12_says : Cond.code yX12_says cX12_says 4 (some .boolean) ∈ z_tbl := z_in (i := 1833) (by decide +kernel) rfl
theorem zd_X12_says : yX12_says.cls ≠ "java/lang/invoke/MethodHandle" ∧ yX12_says.cls ≠ "java/lang/invoke/VarHandle" ∧ (parseMethodDescriptor yX12_says.desc).map (fun d => d.parameters.length) = some 3 := ⟨by decide +kernel, by decide +kernel, by decide +kernel⟩
theorem zn_X12_says : Cond.instanceMethod yX12_says ∈ z_tbl := z_in (i := 1832) (by decide +kernel) rfl
theorem ze_X12_says : Cond.selects yX12_says.cls yX12_says yX12_says ∈ z_tbl := z_in (i := 139) (by decide +kernel) rfl
theorem zl_X12_331 : Cond.methodLink RX12 331 yX12_says ∈ z_tbl ∨ ∃ host, Cond.methodLinkNest RX12 331 yX12_says host ∈ z_nst := Or.inl (z_in (i := 1830) (by decide +kernel) rfl)
theorem zf_X12_32 : z_Fl RX12 32 12 25 RX12 TX12 66 := ⟨rfl, z_inX12, by decide, by decide, Or.inl (z_in (i := 1451) (by decide +kernel) rfl)⟩
theorem zk_X12_had : Cond.code yX12_had cX12_had 2 (some .boolean) ∈ z_tbl := z_in (i := 1825) (by decide +kernel) rfl
theorem zd_X12_had : yX12_had.cls ≠ "java/lang/invoke/MethodHandle" ∧ yX12_had.cls ≠ "java/lang/invoke/VarHandle" ∧ (parseMethodDescriptor yX12_had.desc).map (fun d => d.parameters.length) = some 2 := ⟨by decide +kernel, by decide +kernel, by decide +kernel⟩
theorem zq_X12_had : Cond.static yX12_had ∈ z_tbl := z_in (i := 1824) (by decide +kernel) rfl
theorem zl_X12_340 : Cond.methodLink RX12 340 yX12_had ∈ z_tbl ∨ ∃ host, Cond.methodLinkNest RX12 340 yX12_had host ∈ z_nst := Or.inl (z_in (i := 1823) (by decide +kernel) rfl)
theorem zk_X12_latestOff : Cond.code yX12_latestOff cX12_latestOff 3 (some .int) ∈ z_tbl := z_in (i := 1849) (by decide +kernel) rfl
theorem zd_X12_latestOff : yX12_latestOff.cls ≠ "java/lang/invoke/MethodHandle" ∧ yX12_latestOff.cls ≠ "java/lang/invoke/VarHandle" ∧ (parseMethodDescriptor yX12_latestOff.desc).map (fun d => d.parameters.length) = some 2 := ⟨by decide +kernel, by decide +kernel, by decide +kernel⟩
theorem zn_X12_latestOff : Cond.instanceMethod yX12_latestOff ∈ z_tbl := z_in (i := 1848) (by decide +kernel) rfl
theorem ze_X12_latestOff : Cond.selects yX12_latestOff.cls yX12_latestOff yX12_latestOff ∈ z_tbl := z_in (i := 143) (by decide +kernel) rfl
theorem zl_X12_337 : Cond.methodLink RX12 337 yX12_latestOff ∈ z_tbl ∨ ∃ host, Cond.methodLinkNest RX12 337 yX12_latestOff host ∈ z_nst := Or.inl (z_in (i := 1846) (by decide +kernel) rfl)
theorem zf_X12_41 : z_Fl RX12 41 12 28 RX12 TX12 66 := ⟨rfl, z_inX12, by decide, by decide, Or.inl (z_in (i := 1454) (by decide +kernel) rfl)⟩
theorem zk_X12_asks : Cond.code yX12_asks cX12_asks 3 (some .boolean) ∈ z_tbl := z_in (i := 1841) (by decide +kernel) rfl
theorem zd_X12_asks : yX12_asks.cls ≠ "java/lang/invoke/MethodHandle" ∧ yX12_asks.cls ≠ "java/lang/invoke/VarHandle" ∧ (parseMethodDescriptor yX12_asks.desc).map (fun d => d.parameters.length) = some 2 := ⟨by decide +kernel, by decide +kernel, by decide +kernel⟩
theorem zn_X12_asks : Cond.instanceMethod yX12_asks ∈ z_tbl := z_in (i := 1840) (by decide +kernel) rfl
theorem ze_X12_asks : Cond.selects yX12_asks.cls yX12_asks yX12_asks ∈ z_tbl := z_in (i := 141) (by decide +kernel) rfl
theorem zl_X12_334 : Cond.methodLink RX12 334 yX12_asks ∈ z_tbl ∨ ∃ host, Cond.methodLinkNest RX12 334 yX12_asks host ∈ z_nst := Or.inl (z_in (i := 1838) (by decide +kernel) rfl)
theorem zk_X12_isOff : Cond.code yX12_isOff cX12_isOff 3 (some .boolean) ∈ z_tbl := z_in (i := 1845) (by decide +kernel) rfl
theorem zd_X12_isOff : yX12_isOff.cls ≠ "java/lang/invoke/MethodHandle" ∧ yX12_isOff.cls ≠ "java/lang/invoke/VarHandle" ∧ (parseMethodDescriptor yX12_isOff.desc).map (fun d => d.parameters.length) = some 1 := ⟨by decide +kernel, by decide +kernel, by decide +kernel⟩
theorem zn_X12_isOff : Cond.instanceMethod yX12_isOff ∈ z_tbl := z_in (i := 1844) (by decide +kernel) rfl
theorem ze_X12_isOff : Cond.selects yX12_isOff.cls yX12_isOff yX12_isOff ∈ z_tbl := z_in (i := 142) (by decide +kernel) rfl
theorem zl_X12_352 : Cond.methodLink RX12 352 yX12_isOff ∈ z_tbl ∨ ∃ host, Cond.methodLinkNest RX12 352 yX12_isOff host ∈ z_nst := Or.inl (z_in (i := 1842) (by decide +kernel) rfl)
theorem zk_X12_isRight : Cond.code yX12_isRight cX12_isRight 2 (some .boolean) ∈ z_tbl := z_in (i := 1822) (by decide +kernel) rfl
theorem zd_X12_isRight : yX12_isRight.cls ≠ "java/lang/invoke/MethodHandle" ∧ yX12_isRight.cls ≠ "java/lang/invoke/VarHandle" ∧ (parseMethodDescriptor yX12_isRight.desc).map (fun d => d.parameters.length) = some 1 := ⟨by decide +kernel, by decide +kernel, by decide +kernel⟩
theorem zn_X12_isRight : Cond.instanceMethod yX12_isRight ∈ z_tbl := z_in (i := 1821) (by decide +kernel) rfl
theorem ze_X12_isRight : Cond.selects yX12_isRight.cls yX12_isRight yX12_isRight ∈ z_tbl := z_in (i := 137) (by decide +kernel) rfl
theorem zl_X12_343 : Cond.methodLink RX12 343 yX12_isRight ∈ z_tbl ∨ ∃ host, Cond.methodLinkNest RX12 343 yX12_isRight host ∈ z_nst := Or.inl (z_in (i := 1819) (by decide +kernel) rfl)
theorem zf_X12_29 : z_Fl RX12 29 12 24 RX12 TX12 66 := ⟨rfl, z_inX12, by decide, by decide, Or.inl (z_in (i := 1450) (by decide +kernel) rfl)⟩
theorem zk_X12_isFirst : Cond.code yX12_isFirst cX12_isFirst 3 (some .boolean) ∈ z_tbl := z_in (i := 1829) (by decide +kernel) rfl
theorem zd_X12_isFirst : yX12_isFirst.cls ≠ "java/lang/invoke/MethodHandle" ∧ yX12_isFirst.cls ≠ "java/lang/invoke/VarHandle" ∧ (parseMethodDescriptor yX12_isFirst.desc).map (fun d => d.parameters.length) = some 1 := ⟨by decide +kernel, by decide +kernel, by decide +kernel⟩
theorem zn_X12_isFirst : Cond.instanceMethod yX12_isFirst ∈ z_tbl := z_in (i := 1828) (by decide +kernel) rfl
theorem ze_X12_isFirst : Cond.selects yX12_isFirst.cls yX12_isFirst yX12_isFirst ∈ z_tbl := z_in (i := 138) (by decide +kernel) rfl
theorem zl_X12_346 : Cond.methodLink RX12 346 yX12_isFirst ∈ z_tbl ∨ ∃ host, Cond.methodLinkNest RX12 346 yX12_isFirst host ∈ z_nst := Or.inl (z_in (i := 1826) (by decide +kernel) rfl)
theorem zk_X12_ledBy : Cond.code yX12_ledBy cX12_ledBy 4 (some .int) ∈ z_tbl := z_in (i := 1837) (by decide +kernel) rfl
theorem zd_X12_ledBy : yX12_ledBy.cls ≠ "java/lang/invoke/MethodHandle" ∧ yX12_ledBy.cls ≠ "java/lang/invoke/VarHandle" ∧ (parseMethodDescriptor yX12_ledBy.desc).map (fun d => d.parameters.length) = some 1 := ⟨by decide +kernel, by decide +kernel, by decide +kernel⟩
theorem zn_X12_ledBy : Cond.instanceMethod yX12_ledBy ∈ z_tbl := z_in (i := 1836) (by decide +kernel) rfl
theorem ze_X12_ledBy : Cond.selects yX12_ledBy.cls yX12_ledBy yX12_ledBy ∈ z_tbl := z_in (i := 140) (by decide +kernel) rfl
theorem zl_X12_349 : Cond.methodLink RX12 349 yX12_ledBy ∈ z_tbl ∨ ∃ host, Cond.methodLinkNest RX12 349 yX12_ledBy host ∈ z_nst := Or.inl (z_in (i := 1834) (by decide +kernel) rfl)
theorem zk_X12_whatIs : Cond.code yX12_whatIs cX12_whatIs 11 (some .int) ∈ z_tbl := z_in (i := 1818) (by decide +kernel) rfl
theorem zd_X12_whatIs : yX12_whatIs.cls ≠ "java/lang/invoke/MethodHandle" ∧ yX12_whatIs.cls ≠ "java/lang/invoke/VarHandle" ∧ (parseMethodDescriptor yX12_whatIs.desc).map (fun d => d.parameters.length) = some 1 := ⟨by decide +kernel, by decide +kernel, by decide +kernel⟩
theorem zn_X12_whatIs : Cond.instanceMethod yX12_whatIs ∈ z_tbl := z_in (i := 1817) (by decide +kernel) rfl
theorem ze_X12_whatIs : Cond.selects yX12_whatIs.cls yX12_whatIs yX12_whatIs ∈ z_tbl := z_in (i := 136) (by decide +kernel) rfl
theorem zl_X12_355 : Cond.methodLink RX12 355 yX12_whatIs ∈ z_tbl ∨ ∃ host, Cond.methodLinkNest RX12 355 yX12_whatIs host ∈ z_nst := Or.inl (z_in (i := 1815) (by decide +kernel) rfl)
theorem zk_X12_isFirstIn : Cond.code yX12_isFirstIn cX12_isFirstIn 5 (some .boolean) ∈ z_tbl := z_in (i := 2046) (by decide +kernel) rfl
theorem zd_X12_isFirstIn : yX12_isFirstIn.cls ≠ "java/lang/invoke/MethodHandle" ∧ yX12_isFirstIn.cls ≠ "java/lang/invoke/VarHandle" ∧ (parseMethodDescriptor yX12_isFirstIn.desc).map (fun d => d.parameters.length) = some 3 := ⟨by decide +kernel, by decide +kernel, by decide +kernel⟩
theorem zn_X12_isFirstIn : Cond.instanceMethod yX12_isFirstIn ∈ z_tbl := z_in (i := 2045) (by decide +kernel) rfl
theorem ze_X12_isFirstIn : Cond.selects yX12_isFirstIn.cls yX12_isFirstIn yX12_isFirstIn ∈ z_tbl := z_in (i := 171) (by decide +kernel) rfl
theorem zl_X12_479 : Cond.methodLink RX12 479 yX12_isFirstIn ∈ z_tbl ∨ ∃ host, Cond.methodLinkNest RX12 479 yX12_isFirstIn host ∈ z_nst := Or.inl (z_in (i := 2043) (by decide +kernel) rfl)
theorem zk_X12_noNames : Cond.code yX12_noNames cX12_noNames 3 (none) ∈ z_tbl := z_in (i := 1976) (by decide +kernel) rfl
theorem zd_X12_noNames : yX12_noNames.cls ≠ "java/lang/invoke/MethodHandle" ∧ yX12_noNames.cls ≠ "java/lang/invoke/VarHandle" ∧ (parseMethodDescriptor yX12_noNames.desc).map (fun d => d.parameters.length) = some 1 := ⟨by decide +kernel, by decide +kernel, by decide +kernel⟩
theorem zn_X12_noNames : Cond.instanceMethod yX12_noNames ∈ z_tbl := z_in (i := 1975) (by decide +kernel) rfl
theorem ze_X12_noNames : Cond.selects yX12_noNames.cls yX12_noNames yX12_noNames ∈ z_tbl := z_in (i := 158) (by decide +kernel) rfl
theorem zl_X12_444 : Cond.methodLink RX12 444 yX12_noNames ∈ z_tbl ∨ ∃ host, Cond.methodLinkNest RX12 444 yX12_noNames host ∈ z_nst := Or.inl (z_in (i := 1973) (by decide +kernel) rfl)
theorem zf_X12_66 : z_Fl RX12 66 12 36 RX12 TX12 66 := ⟨rfl, z_inX12, by decide, by decide, Or.inl (z_in (i := 1462) (by decide +kernel) rfl)⟩
theorem zf_X12_69 : z_Fl RX12 69 12 37 RX12 TX12 66 := ⟨rfl, z_inX12, by decide, by decide, Or.inl (z_in (i := 1463) (by decide +kernel) rfl)⟩
theorem zf_X12_72 : z_Fl RX12 72 12 38 RX12 TX12 66 := ⟨rfl, z_inX12, by decide, by decide, Or.inl (z_in (i := 1464) (by decide +kernel) rfl)⟩
theorem zk_X12_firstSaid : Cond.code yX12_firstSaid cX12_firstSaid 5 (some .int) ∈ z_tbl := z_in (i := 1902) (by decide +kernel) rfl
theorem zd_X12_firstSaid : yX12_firstSaid.cls ≠ "java/lang/invoke/MethodHandle" ∧ yX12_firstSaid.cls ≠ "java/lang/invoke/VarHandle" ∧ (parseMethodDescriptor yX12_firstSaid.desc).map (fun d => d.parameters.length) = some 3 := ⟨by decide +kernel, by decide +kernel, by decide +kernel⟩
theorem zn_X12_firstSaid : Cond.instanceMethod yX12_firstSaid ∈ z_tbl := z_in (i := 1901) (by decide +kernel) rfl
theorem ze_X12_firstSaid : Cond.selects yX12_firstSaid.cls yX12_firstSaid yX12_firstSaid ∈ z_tbl := z_in (i := 149) (by decide +kernel) rfl
theorem zl_X12_386 : Cond.methodLink RX12 386 yX12_firstSaid ∈ z_tbl ∨ ∃ host, Cond.methodLinkNest RX12 386 yX12_firstSaid host ∈ z_nst := Or.inl (z_in (i := 1899) (by decide +kernel) rfl)
theorem zk_X12_latestWord : Cond.code yX12_latestWord cX12_latestWord 5 (some .int) ∈ z_tbl := z_in (i := 1898) (by decide +kernel) rfl
theorem zd_X12_latestWord : yX12_latestWord.cls ≠ "java/lang/invoke/MethodHandle" ∧ yX12_latestWord.cls ≠ "java/lang/invoke/VarHandle" ∧ (parseMethodDescriptor yX12_latestWord.desc).map (fun d => d.parameters.length) = some 2 := ⟨by decide +kernel, by decide +kernel, by decide +kernel⟩
theorem zn_X12_latestWord : Cond.instanceMethod yX12_latestWord ∈ z_tbl := z_in (i := 1897) (by decide +kernel) rfl
theorem ze_X12_latestWord : Cond.selects yX12_latestWord.cls yX12_latestWord yX12_latestWord ∈ z_tbl := z_in (i := 148) (by decide +kernel) rfl
theorem zl_X12_383 : Cond.methodLink RX12 383 yX12_latestWord ∈ z_tbl ∨ ∃ host, Cond.methodLinkNest RX12 383 yX12_latestWord host ∈ z_nst := Or.inl (z_in (i := 1895) (by decide +kernel) rfl)
theorem zk_X12_pageIs : Cond.code yX12_pageIs cX12_pageIs 3 (some .int) ∈ z_tbl := z_in (i := 1894) (by decide +kernel) rfl
theorem zd_X12_pageIs : yX12_pageIs.cls ≠ "java/lang/invoke/MethodHandle" ∧ yX12_pageIs.cls ≠ "java/lang/invoke/VarHandle" ∧ (parseMethodDescriptor yX12_pageIs.desc).map (fun d => d.parameters.length) = some 1 := ⟨by decide +kernel, by decide +kernel, by decide +kernel⟩
theorem zn_X12_pageIs : Cond.instanceMethod yX12_pageIs ∈ z_tbl := z_in (i := 1893) (by decide +kernel) rfl
theorem ze_X12_pageIs : Cond.selects yX12_pageIs.cls yX12_pageIs yX12_pageIs ∈ z_tbl := z_in (i := 147) (by decide +kernel) rfl
theorem zl_X12_389 : Cond.methodLink RX12 389 yX12_pageIs ∈ z_tbl ∨ ∃ host, Cond.methodLinkNest RX12 389 yX12_pageIs host ∈ z_nst := Or.inl (z_in (i := 1891) (by decide +kernel) rfl)
theorem zf_X12_201 : z_Fl RX12 201 12 14 RX12 TX12 66 := ⟨rfl, z_inX12, by decide, by decide, Or.inl (z_in (i := 1440) (by decide +kernel) rfl)⟩
theorem zk_X12_namesByTalk : Cond.code yX12_namesByTalk cX12_namesByTalk 4 (none) ∈ z_tbl := z_in (i := 2038) (by decide +kernel) rfl
theorem zd_X12_namesByTalk : yX12_namesByTalk.cls ≠ "java/lang/invoke/MethodHandle" ∧ yX12_namesByTalk.cls ≠ "java/lang/invoke/VarHandle" ∧ (parseMethodDescriptor yX12_namesByTalk.desc).map (fun d => d.parameters.length) = some 2 := ⟨by decide +kernel, by decide +kernel, by decide +kernel⟩
theorem zn_X12_namesByTalk : Cond.instanceMethod yX12_namesByTalk ∈ z_tbl := z_in (i := 2037) (by decide +kernel) rfl
theorem ze_X12_namesByTalk : Cond.selects yX12_namesByTalk.cls yX12_namesByTalk yX12_namesByTalk ∈ z_tbl := z_in (i := 169) (by decide +kernel) rfl
theorem zl_X12_482 : Cond.methodLink RX12 482 yX12_namesByTalk ∈ z_tbl ∨ ∃ host, Cond.methodLinkNest RX12 482 yX12_namesByTalk host ∈ z_nst := Or.inl (z_in (i := 2035) (by decide +kernel) rfl)
theorem zf_X12_44 : z_Fl RX12 44 12 29 RX12 TX12 66 := ⟨rfl, z_inX12, by decide, by decide, Or.inl (z_in (i := 1455) (by decide +kernel) rfl)⟩
theorem zk_X12_offUpTo : Cond.code yX12_offUpTo cX12_offUpTo 4 (some .int) ∈ z_tbl := z_in (i := 1980) (by decide +kernel) rfl
theorem zd_X12_offUpTo : yX12_offUpTo.cls ≠ "java/lang/invoke/MethodHandle" ∧ yX12_offUpTo.cls ≠ "java/lang/invoke/VarHandle" ∧ (parseMethodDescriptor yX12_offUpTo.desc).map (fun d => d.parameters.length) = some 2 := ⟨by decide +kernel, by decide +kernel, by decide +kernel⟩
theorem zn_X12_offUpTo : Cond.instanceMethod yX12_offUpTo ∈ z_tbl := z_in (i := 1979) (by decide +kernel) rfl
theorem ze_X12_offUpTo : Cond.selects yX12_offUpTo.cls yX12_offUpTo yX12_offUpTo ∈ z_tbl := z_in (i := 159) (by decide +kernel) rfl
theorem zl_X12_447 : Cond.methodLink RX12 447 yX12_offUpTo ∈ z_tbl ∨ ∃ host, Cond.methodLinkNest RX12 447 yX12_offUpTo host ∈ z_nst := Or.inl (z_in (i := 1977) (by decide +kernel) rfl)
theorem zk_X12_namesByBoth : Cond.code yX12_namesByBoth cX12_namesByBoth 3 (none) ∈ z_tbl := z_in (i := 2034) (by decide +kernel) rfl
theorem zd_X12_namesByBoth : yX12_namesByBoth.cls ≠ "java/lang/invoke/MethodHandle" ∧ yX12_namesByBoth.cls ≠ "java/lang/invoke/VarHandle" ∧ (parseMethodDescriptor yX12_namesByBoth.desc).map (fun d => d.parameters.length) = some 1 := ⟨by decide +kernel, by decide +kernel, by decide +kernel⟩
