theorem zn_X12_namesByBoth : Cond.instanceMethod yX12_namesByBoth ∈ z_tbl := z_in (i := 2033) (by decide +kernel) rfl
theorem ze_X12_namesByBoth : Cond.selects yX12_namesByBoth.cls yX12_namesByBoth yX12_namesByBoth ∈ z_tbl := z_in (i := 168) (by decide +kernel) rfl
theorem zl_X12_488 : Cond.methodLink RX12 488 yX12_namesByBoth ∈ z_tbl ∨ ∃ host, Cond.methodLinkNest RX12 488 yX12_namesByBoth host ∈ z_nst := Or.inl (z_in (i := 2031) (by decide +kernel) rfl)
theorem zk_X12_holds : Cond.code yX12_holds cX12_holds 4 (some .boolean) ∈ z_tbl := z_in (i := 2050) (by decide +kernel) rfl
theorem zd_X12_holds : yX12_holds.cls ≠ "java/lang/invoke/MethodHandle" ∧ yX12_holds.cls ≠ "java/lang/invoke/VarHandle" ∧ (parseMethodDescriptor yX12_holds.desc).map (fun d => d.parameters.length) = some 1 := ⟨by decide +kernel, by decide +kernel, by decide +kernel⟩
theorem zn_X12_holds : Cond.instanceMethod yX12_holds ∈ z_tbl := z_in (i := 2049) (by decide +kernel) rfl
theorem ze_X12_holds : Cond.selects yX12_holds.cls yX12_holds yX12_holds ∈ z_tbl := z_in (i := 172) (by decide +kernel) rfl
theorem zl_X12_491 : Cond.methodLink RX12 491 yX12_holds ∈ z_tbl ∨ ∃ host, Cond.methodLinkNest RX12 491 yX12_holds host ∈ z_nst := Or.inl (z_in (i := 2047) (by decide +kernel) rfl)
theorem zf_X12_195 : z_Fl RX12 195 12 12 RX12 TX12 66 := ⟨rfl, z_inX12, by decide, by decide, Or.inl (z_in (i := 1438) (by decide +kernel) rfl)⟩
theorem zk_X12_isBarred : Cond.code yX12_isBarred cX12_isBarred 2 (some .boolean) ∈ z_tbl := z_in (i := 2030) (by decide +kernel) rfl
theorem zd_X12_isBarred : yX12_isBarred.cls ≠ "java/lang/invoke/MethodHandle" ∧ yX12_isBarred.cls ≠ "java/lang/invoke/VarHandle" ∧ (parseMethodDescriptor yX12_isBarred.desc).map (fun d => d.parameters.length) = some 1 := ⟨by decide +kernel, by decide +kernel, by decide +kernel⟩
theorem zn_X12_isBarred : Cond.instanceMethod yX12_isBarred ∈ z_tbl := z_in (i := 2029) (by decide +kernel) rfl
theorem ze_X12_isBarred : Cond.selects yX12_isBarred.cls yX12_isBarred yX12_isBarred ∈ z_tbl := z_in (i := 167) (by decide +kernel) rfl
theorem zl_X12_494 : Cond.methodLink RX12 494 yX12_isBarred ∈ z_tbl ∨ ∃ host, Cond.methodLinkNest RX12 494 yX12_isBarred host ∈ z_nst := Or.inl (z_in (i := 2027) (by decide +kernel) rfl)
theorem zf_X12_124 : z_Fl RX12 124 12 2 RX12 TX12 66 := ⟨rfl, z_inX12, by decide, by decide, Or.inl (z_in (i := 1428) (by decide +kernel) rfl)⟩
theorem zk_X12_isTeller : Cond.code yX12_isTeller cX12_isTeller 2 (some .boolean) ∈ z_tbl := z_in (i := 1779) (by decide +kernel) rfl
theorem zd_X12_isTeller : yX12_isTeller.cls ≠ "java/lang/invoke/MethodHandle" ∧ yX12_isTeller.cls ≠ "java/lang/invoke/VarHandle" ∧ (parseMethodDescriptor yX12_isTeller.desc).map (fun d => d.parameters.length) = some 1 := ⟨by decide +kernel, by decide +kernel, by decide +kernel⟩
theorem zn_X12_isTeller : Cond.instanceMethod yX12_isTeller ∈ z_tbl := z_in (i := 1778) (by decide +kernel) rfl
theorem ze_X12_isTeller : Cond.selects yX12_isTeller.cls yX12_isTeller yX12_isTeller ∈ z_tbl := z_in (i := 132) (by decide +kernel) rfl
theorem zl_X12_315 : Cond.methodLink RX12 315 yX12_isTeller ∈ z_tbl ∨ ∃ host, Cond.methodLinkNest RX12 315 yX12_isTeller host ∈ z_nst := Or.inl (z_in (i := 1776) (by decide +kernel) rfl)
theorem zf_X12_93 : z_Fl RX12 93 12 48 RX12 TX12 66 := ⟨rfl, z_inX12, by decide, by decide, Or.inl (z_in (i := 1474) (by decide +kernel) rfl)⟩
theorem zf_X12_96 : z_Fl RX12 96 12 49 RX12 TX12 66 := ⟨rfl, z_inX12, by decide, by decide, Or.inl (z_in (i := 1475) (by decide +kernel) rfl)⟩
theorem zk_X12_isIn : Cond.code yX12_isIn cX12_isIn 3 (some .boolean) ∈ z_tbl := z_in (i := 1802) (by decide +kernel) rfl
theorem zd_X12_isIn : yX12_isIn.cls ≠ "java/lang/invoke/MethodHandle" ∧ yX12_isIn.cls ≠ "java/lang/invoke/VarHandle" ∧ (parseMethodDescriptor yX12_isIn.desc).map (fun d => d.parameters.length) = some 3 := ⟨by decide +kernel, by decide +kernel, by decide +kernel⟩
theorem zq_X12_isIn : Cond.static yX12_isIn ∈ z_tbl := z_in (i := 1801) (by decide +kernel) rfl
theorem zl_X12_324 : Cond.methodLink RX12 324 yX12_isIn ∈ z_tbl ∨ ∃ host, Cond.methodLinkNest RX12 324 yX12_isIn host ∈ z_nst := Or.inl (z_in (i := 1800) (by decide +kernel) rfl)
theorem zf_X12_242 : z_Fl RX12 242 12 53 RX12 TX12 66 := ⟨rfl, z_inX12, by decide, by decide, Or.inl (z_in (i := 1479) (by decide +kernel) rfl)⟩
theorem zf_X12_102 : z_Fl RX12 102 12 51 RX12 TX12 66 := ⟨rfl, z_inX12, by decide, by decide, Or.inl (z_in (i := 1477) (by decide +kernel) rfl)⟩
theorem zf_X12_186 : z_Fl RX12 186 12 20 RX12 TX12 66 := ⟨rfl, z_inX12, by decide, by decide, Or.inl (z_in (i := 1446) (by decide +kernel) rfl)⟩
theorem zk_X12_drop : Cond.code yX12_drop cX12_drop 1 (some .int) ∈ z_tbl := z_in (i := 1751) (by decide +kernel) rfl
theorem zd_X12_drop : yX12_drop.cls ≠ "java/lang/invoke/MethodHandle" ∧ yX12_drop.cls ≠ "java/lang/invoke/VarHandle" ∧ (parseMethodDescriptor yX12_drop.desc).map (fun d => d.parameters.length) = some 0 := ⟨by decide +kernel, by decide +kernel, by decide +kernel⟩
theorem zn_X12_drop : Cond.instanceMethod yX12_drop ∈ z_tbl := z_in (i := 1750) (by decide +kernel) rfl
theorem ze_X12_drop : Cond.selects yX12_drop.cls yX12_drop yX12_drop ∈ z_tbl := z_in (i := 129) (by decide +kernel) rfl
theorem zl_X12_252 : Cond.methodLink RX12 252 yX12_drop ∈ z_tbl ∨ ∃ host, Cond.methodLinkNest RX12 252 yX12_drop host ∈ z_nst := Or.inl (z_in (i := 1748) (by decide +kernel) rfl)
theorem zk_X12_grown : Cond.code yX12_grown cX12_grown 4 (none) ∈ z_tbl := z_in (i := 1736) (by decide +kernel) rfl
theorem zd_X12_grown : yX12_grown.cls ≠ "java/lang/invoke/MethodHandle" ∧ yX12_grown.cls ≠ "java/lang/invoke/VarHandle" ∧ (parseMethodDescriptor yX12_grown.desc).map (fun d => d.parameters.length) = some 3 := ⟨by decide +kernel, by decide +kernel, by decide +kernel⟩
theorem zn_X12_grown : Cond.instanceMethod yX12_grown ∈ z_tbl := z_in (i := 1735) (by decide +kernel) rfl
theorem ze_X12_grown : Cond.selects yX12_grown.cls yX12_grown yX12_grown ∈ z_tbl := z_in (i := 126) (by decide +kernel) rfl
theorem zl_X12_256 : Cond.methodLink RX12 256 yX12_grown ∈ z_tbl ∨ ∃ host, Cond.methodLinkNest RX12 256 yX12_grown host ∈ z_nst := Or.inl (z_in (i := 1733) (by decide +kernel) rfl)
theorem zf_X12_245 : z_Fl RX12 245 12 52 RX12 TX12 66 := ⟨rfl, z_inX12, by decide, by decide, Or.inl (z_in (i := 1478) (by decide +kernel) rfl)⟩
theorem zf_X12_99 : z_Fl RX12 99 12 50 RX12 TX12 66 := ⟨rfl, z_inX12, by decide, by decide, Or.inl (z_in (i := 1476) (by decide +kernel) rfl)⟩
theorem zk_X12_weight : Cond.code yX12_weight cX12_weight 1 (some .int) ∈ z_tbl := z_in (i := 1747) (by decide +kernel) rfl
theorem zd_X12_weight : yX12_weight.cls ≠ "java/lang/invoke/MethodHandle" ∧ yX12_weight.cls ≠ "java/lang/invoke/VarHandle" ∧ (parseMethodDescriptor yX12_weight.desc).map (fun d => d.parameters.length) = some 1 := ⟨by decide +kernel, by decide +kernel, by decide +kernel⟩
theorem zq_X12_weight : Cond.static yX12_weight ∈ z_tbl := z_in (i := 1746) (by decide +kernel) rfl
theorem zl_X12_248 : Cond.methodLink RX12 248 yX12_weight ∈ z_tbl ∨ ∃ host, Cond.methodLinkNest RX12 248 yX12_weight host ∈ z_nst := Or.inl (z_in (i := 1745) (by decide +kernel) rfl)
theorem zk_X12_storyOf : Cond.code yX12_storyOf cX12_storyOf 4 (some .int) ∈ z_tbl := z_in (i := 1922) (by decide +kernel) rfl
theorem zd_X12_storyOf : yX12_storyOf.cls ≠ "java/lang/invoke/MethodHandle" ∧ yX12_storyOf.cls ≠ "java/lang/invoke/VarHandle" ∧ (parseMethodDescriptor yX12_storyOf.desc).map (fun d => d.parameters.length) = some 2 := ⟨by decide +kernel, by decide +kernel, by decide +kernel⟩
theorem zn_X12_storyOf : Cond.instanceMethod yX12_storyOf ∈ z_tbl := z_in (i := 1921) (by decide +kernel) rfl
theorem ze_X12_storyOf : Cond.selects yX12_storyOf.cls yX12_storyOf yX12_storyOf ∈ z_tbl := z_in (i := 151) (by decide +kernel) rfl
theorem zl_X12_395 : Cond.methodLink RX12 395 yX12_storyOf ∈ z_tbl ∨ ∃ host, Cond.methodLinkNest RX12 395 yX12_storyOf host ∈ z_nst := Or.inl (z_in (i := 1919) (by decide +kernel) rfl)
theorem zf_X12_192 : z_Fl RX12 192 12 11 RX12 TX12 66 := ⟨rfl, z_inX12, by decide, by decide, Or.inl (z_in (i := 1437) (by decide +kernel) rfl)⟩
theorem zk_X12_clashes : Cond.code yX12_clashes cX12_clashes 7 (some .int) ∈ z_tbl := z_in (i := 1930) (by decide +kernel) rfl
theorem zd_X12_clashes : yX12_clashes.cls ≠ "java/lang/invoke/MethodHandle" ∧ yX12_clashes.cls ≠ "java/lang/invoke/VarHandle" ∧ (parseMethodDescriptor yX12_clashes.desc).map (fun d => d.parameters.length) = some 2 := ⟨by decide +kernel, by decide +kernel, by decide +kernel⟩
theorem zn_X12_clashes : Cond.instanceMethod yX12_clashes ∈ z_tbl := z_in (i := 1929) (by decide +kernel) rfl
theorem ze_X12_clashes : Cond.selects yX12_clashes.cls yX12_clashes yX12_clashes ∈ z_tbl := z_in (i := 152) (by decide +kernel) rfl
theorem zl_X12_398 : Cond.methodLink RX12 398 yX12_clashes ∈ z_tbl ∨ ∃ host, Cond.methodLinkNest RX12 398 yX12_clashes host ∈ z_nst := Or.inl (z_in (i := 1927) (by decide +kernel) rfl)
theorem zf_X12_211 : z_Fl RX12 211 12 44 RX12 TX12 66 := ⟨rfl, z_inX12, by decide, by decide, Or.inl (z_in (i := 1470) (by decide +kernel) rfl)⟩
theorem zf_X12_204 : z_Fl RX12 204 12 15 RX12 TX12 66 := ⟨rfl, z_inX12, by decide, by decide, Or.inl (z_in (i := 1441) (by decide +kernel) rfl)⟩
theorem zk_X12_heardMany : Cond.code yX12_heardMany cX12_heardMany 3 (some .int) ∈ z_tbl := z_in (i := 1806) (by decide +kernel) rfl
theorem zd_X12_heardMany : yX12_heardMany.cls ≠ "java/lang/invoke/MethodHandle" ∧ yX12_heardMany.cls ≠ "java/lang/invoke/VarHandle" ∧ (parseMethodDescriptor yX12_heardMany.desc).map (fun d => d.parameters.length) = some 0 := ⟨by decide +kernel, by decide +kernel, by decide +kernel⟩
theorem zn_X12_heardMany : Cond.instanceMethod yX12_heardMany ∈ z_tbl := z_in (i := 1805) (by decide +kernel) rfl
theorem ze_X12_heardMany : Cond.selects yX12_heardMany.cls yX12_heardMany yX12_heardMany ∈ z_tbl := z_in (i := 134) (by decide +kernel) rfl
theorem zl_X12_328 : Cond.methodLink RX12 328 yX12_heardMany ∈ z_tbl ∨ ∃ host, Cond.methodLinkNest RX12 328 yX12_heardMany host ∈ z_nst := Or.inl (z_in (i := 1803) (by decide +kernel) rfl)
theorem zf_X12_455 : z_Fl RX12 455 12 65 RX12 TX12 66 := ⟨rfl, z_inX12, by decide, by decide, Or.inl (z_in (i := 1491) (by decide +kernel) rfl)⟩
theorem zcsl_X12_458 : Cond.constantLong RX12 458 (1103515245) ∈ z_tbl := z_in (i := 2019) (by decide +kernel) rfl
theorem zcsl_X12_460 : Cond.constantLong RX12 460 (12345) ∈ z_tbl := z_in (i := 2020) (by decide +kernel) rfl
theorem zcsl_X12_462 : Cond.constantLong RX12 462 (2147483647) ∈ z_tbl := z_in (i := 2021) (by decide +kernel) rfl
theorem zcsl_X12_464 : Cond.constantLong RX12 464 (65536) ∈ z_tbl := z_in (i := 2022) (by decide +kernel) rfl
theorem zcsl_X12_450 : Cond.constantLong RX12 450 (100) ∈ z_tbl := z_in (i := 2002) (by decide +kernel) rfl
theorem zf_X12_23 : z_Fl RX12 23 12 22 RX12 TX12 66 := ⟨rfl, z_inX12, by decide, by decide, Or.inl (z_in (i := 1448) (by decide +kernel) rfl)⟩
theorem zk_X12_drawn : Cond.code yX12_drawn cX12_drawn 2 (some .int) ∈ z_tbl := z_in (i := 2018) (by decide +kernel) rfl
theorem zd_X12_drawn : yX12_drawn.cls ≠ "java/lang/invoke/MethodHandle" ∧ yX12_drawn.cls ≠ "java/lang/invoke/VarHandle" ∧ (parseMethodDescriptor yX12_drawn.desc).map (fun d => d.parameters.length) = some 1 := ⟨by decide +kernel, by decide +kernel, by decide +kernel⟩
theorem zn_X12_drawn : Cond.instanceMethod yX12_drawn ∈ z_tbl := z_in (i := 2017) (by decide +kernel) rfl
theorem ze_X12_drawn : Cond.selects yX12_drawn.cls yX12_drawn yX12_drawn ∈ z_tbl := z_in (i := 166) (by decide +kernel) rfl
theorem zl_X12_472 : Cond.methodLink RX12 472 yX12_drawn ∈ z_tbl ∨ ∃ host, Cond.methodLinkNest RX12 472 yX12_drawn host ∈ z_nst := Or.inl (z_in (i := 2015) (by decide +kernel) rfl)
theorem zk_X12_lawAt : Cond.code yX12_lawAt cX12_lawAt 5 (some .int) ∈ z_tbl := z_in (i := 1968) (by decide +kernel) rfl
theorem zd_X12_lawAt : yX12_lawAt.cls ≠ "java/lang/invoke/MethodHandle" ∧ yX12_lawAt.cls ≠ "java/lang/invoke/VarHandle" ∧ (parseMethodDescriptor yX12_lawAt.desc).map (fun d => d.parameters.length) = some 1 := ⟨by decide +kernel, by decide +kernel, by decide +kernel⟩
theorem zn_X12_lawAt : Cond.instanceMethod yX12_lawAt ∈ z_tbl := z_in (i := 1967) (by decide +kernel) rfl
theorem ze_X12_lawAt : Cond.selects yX12_lawAt.cls yX12_lawAt yX12_lawAt ∈ z_tbl := z_in (i := 156) (by decide +kernel) rfl
theorem zl_X12_452 : Cond.methodLink RX12 452 yX12_lawAt ∈ z_tbl ∨ ∃ host, Cond.methodLinkNest RX12 452 yX12_lawAt host ∈ z_nst := Or.inl (z_in (i := 1965) (by decide +kernel) rfl)
theorem zk_X12_putAhead : Cond.code yX12_putAhead cX12_putAhead 4 (some .int) ∈ z_tbl := z_in (i := 2014) (by decide +kernel) rfl
theorem zd_X12_putAhead : yX12_putAhead.cls ≠ "java/lang/invoke/MethodHandle" ∧ yX12_putAhead.cls ≠ "java/lang/invoke/VarHandle" ∧ (parseMethodDescriptor yX12_putAhead.desc).map (fun d => d.parameters.length) = some 1 := ⟨by decide +kernel, by decide +kernel, by decide +kernel⟩
theorem zn_X12_putAhead : Cond.instanceMethod yX12_putAhead ∈ z_tbl := z_in (i := 2013) (by decide +kernel) rfl
theorem ze_X12_putAhead : Cond.selects yX12_putAhead.cls yX12_putAhead yX12_putAhead ∈ z_tbl := z_in (i := 165) (by decide +kernel) rfl
theorem zl_X12_469 : Cond.methodLink RX12 469 yX12_putAhead ∈ z_tbl ∨ ∃ host, Cond.methodLinkNest RX12 469 yX12_putAhead host ∈ z_nst := Or.inl (z_in (i := 2011) (by decide +kernel) rfl)
theorem zk_X12_isFirstOf : Cond.code yX12_isFirstOf cX12_isFirstOf 3 (some .boolean) ∈ z_tbl := z_in (i := 2010) (by decide +kernel) rfl
theorem zd_X12_isFirstOf : yX12_isFirstOf.cls ≠ "java/lang/invoke/MethodHandle" ∧ yX12_isFirstOf.cls ≠ "java/lang/invoke/VarHandle" ∧ (parseMethodDescriptor yX12_isFirstOf.desc).map (fun d => d.parameters.length) = some 2 := ⟨by decide +kernel, by decide +kernel, by decide +kernel⟩
theorem zn_X12_isFirstOf : Cond.instanceMethod yX12_isFirstOf ∈ z_tbl := z_in (i := 2009) (by decide +kernel) rfl
theorem ze_X12_isFirstOf : Cond.selects yX12_isFirstOf.cls yX12_isFirstOf yX12_isFirstOf ∈ z_tbl := z_in (i := 164) (by decide +kernel) rfl
theorem zl_X12_466 : Cond.methodLink RX12 466 yX12_isFirstOf ∈ z_tbl ∨ ∃ host, Cond.methodLinkNest RX12 466 yX12_isFirstOf host ∈ z_nst := Or.inl (z_in (i := 2007) (by decide +kernel) rfl)
theorem zf_X12_16 : z_Fl RX12 16 12 5 RX12 TX12 66 := ⟨rfl, z_inX12, by decide, by decide, Or.inl (z_in (i := 1431) (by decide +kernel) rfl)⟩
theorem zf_X12_130 : z_Fl RX12 130 12 4 RX12 TX12 66 := ⟨rfl, z_inX12, by decide, by decide, Or.inl (z_in (i := 1430) (by decide +kernel) rfl)⟩
theorem zf_X12_127 : z_Fl RX12 127 12 1 RX12 TX12 66 := ⟨rfl, z_inX12, by decide, by decide, Or.inl (z_in (i := 1427) (by decide +kernel) rfl)⟩
theorem zf_X12_7 : z_Fl RX12 7 12 0 RX12 TX12 66 := ⟨rfl, z_inX12, by decide, by decide, Or.inl (z_in (i := 1426) (by decide +kernel) rfl)⟩
theorem zk_X12_isFirstLine : Cond.code yX12_isFirstLine cX12_isFirstLine 3 (some .boolean) ∈ z_tbl := z_in (i := 1881) (by decide +kernel) rfl
theorem zd_X12_isFirstLine : yX12_isFirstLine.cls ≠ "java/lang/invoke/MethodHandle" ∧ yX12_isFirstLine.cls ≠ "java/lang/invoke/VarHandle" ∧ (parseMethodDescriptor yX12_isFirstLine.desc).map (fun d => d.parameters.length) = some 1 := ⟨by decide +kernel, by decide +kernel, by decide +kernel⟩
theorem zn_X12_isFirstLine : Cond.instanceMethod yX12_isFirstLine ∈ z_tbl := z_in (i := 1880) (by decide +kernel) rfl
theorem ze_X12_isFirstLine : Cond.selects yX12_isFirstLine.cls yX12_isFirstLine yX12_isFirstLine ∈ z_tbl := z_in (i := 145) (by decide +kernel) rfl
theorem zl_X12_376 : Cond.methodLink RX12 376 yX12_isFirstLine ∈ z_tbl ∨ ∃ host, Cond.methodLinkNest RX12 376 yX12_isFirstLine host ∈ z_nst := Or.inl (z_in (i := 1878) (by decide +kernel) rfl)
theorem zk_X12_namesByPage : Cond.code yX12_namesByPage cX12_namesByPage 3 (none) ∈ z_tbl := z_in (i := 2062) (by decide +kernel) rfl
theorem zd_X12_namesByPage : yX12_namesByPage.cls ≠ "java/lang/invoke/MethodHandle" ∧ yX12_namesByPage.cls ≠ "java/lang/invoke/VarHandle" ∧ (parseMethodDescriptor yX12_namesByPage.desc).map (fun d => d.parameters.length) = some 1 := ⟨by decide +kernel, by decide +kernel, by decide +kernel⟩
theorem zn_X12_namesByPage : Cond.instanceMethod yX12_namesByPage ∈ z_tbl := z_in (i := 2061) (by decide +kernel) rfl
theorem ze_X12_namesByPage : Cond.selects yX12_namesByPage.cls yX12_namesByPage yX12_namesByPage ∈ z_tbl := z_in (i := 174) (by decide +kernel) rfl
theorem zl_X12_485 : Cond.methodLink RX12 485 yX12_namesByPage ∈ z_tbl ∨ ∃ host, Cond.methodLinkNest RX12 485 yX12_namesByPage host ∈ z_nst := Or.inl (z_in (i := 2059) (by decide +kernel) rfl)
theorem zf_X12_217 : z_Fl RX12 217 12 46 RX12 TX12 66 := ⟨rfl, z_inX12, by decide, by decide, Or.inl (z_in (i := 1472) (by decide +kernel) rfl)⟩
theorem zk_X12_finds : Cond.code yX12_finds cX12_finds 3 (some .boolean) ∈ z_tbl := z_in (i := 2058) (by decide +kernel) rfl
theorem zd_X12_finds : yX12_finds.cls ≠ "java/lang/invoke/MethodHandle" ∧ yX12_finds.cls ≠ "java/lang/invoke/VarHandle" ∧ (parseMethodDescriptor yX12_finds.desc).map (fun d => d.parameters.length) = some 2 := ⟨by decide +kernel, by decide +kernel, by decide +kernel⟩
theorem zn_X12_finds : Cond.instanceMethod yX12_finds ∈ z_tbl := z_in (i := 2057) (by decide +kernel) rfl
theorem ze_X12_finds : Cond.selects yX12_finds.cls yX12_finds yX12_finds ∈ z_tbl := z_in (i := 173) (by decide +kernel) rfl
theorem zl_X12_497 : Cond.methodLink RX12 497 yX12_finds ∈ z_tbl ∨ ∃ host, Cond.methodLinkNest RX12 497 yX12_finds host ∈ z_nst := Or.inl (z_in (i := 2055) (by decide +kernel) rfl)
theorem zf_X12_133 : z_Fl RX12 133 12 10 RX12 TX12 66 := ⟨rfl, z_inX12, by decide, by decide, Or.inl (z_in (i := 1436) (by decide +kernel) rfl)⟩
theorem zf_X12_189 : z_Fl RX12 189 12 55 RX12 TX12 66 := ⟨rfl, z_inX12, by decide, by decide, Or.inl (z_in (i := 1481) (by decide +kernel) rfl)⟩
theorem zk_X12_wrong : Cond.code yX12_wrong cX12_wrong 2 (some .boolean) ∈ z_tbl := z_in (i := 1668) (by decide +kernel) rfl
theorem zd_X12_wrong : yX12_wrong.cls ≠ "java/lang/invoke/MethodHandle" ∧ yX12_wrong.cls ≠ "java/lang/invoke/VarHandle" ∧ (parseMethodDescriptor yX12_wrong.desc).map (fun d => d.parameters.length) = some 1 := ⟨by decide +kernel, by decide +kernel, by decide +kernel⟩
theorem zn_X12_wrong : Cond.instanceMethod yX12_wrong ∈ z_tbl := z_in (i := 1667) (by decide +kernel) rfl
theorem ze_X12_wrong : Cond.selects yX12_wrong.cls yX12_wrong yX12_wrong ∈ z_tbl := z_in (i := 109) (by decide +kernel) rfl
theorem zl_X12_168 : Cond.methodLink RX12 168 yX12_wrong ∈ z_tbl ∨ ∃ host, Cond.methodLinkNest RX12 168 yX12_wrong host ∈ z_nst := Or.inl (z_in (i := 1665) (by decide +kernel) rfl)
theorem zf_X12_136 : z_Fl RX12 136 12 6 RX12 TX12 66 := ⟨rfl, z_inX12, by decide, by decide, Or.inl (z_in (i := 1432) (by decide +kernel) rfl)⟩
theorem zf_X12_153 : z_Fl RX12 153 12 9 RX12 TX12 66 := ⟨rfl, z_inX12, by decide, by decide, Or.inl (z_in (i := 1435) (by decide +kernel) rfl)⟩
theorem zf_X12_142 : z_Fl RX12 142 12 8 RX12 TX12 66 := ⟨rfl, z_inX12, by decide, by decide, Or.inl (z_in (i := 1434) (by decide +kernel) rfl)⟩
theorem zk_X12_copies : Cond.code yX12_copies cX12_copies 3 (none) ∈ z_tbl := z_in (i := 1425) (by decide +kernel) rfl
theorem zd_X12_copies : yX12_copies.cls ≠ "java/lang/invoke/MethodHandle" ∧ yX12_copies.cls ≠ "java/lang/invoke/VarHandle" ∧ (parseMethodDescriptor yX12_copies.desc).map (fun d => d.parameters.length) = some 2 := ⟨by decide +kernel, by decide +kernel, by decide +kernel⟩
theorem zn_X12_copies : Cond.instanceMethod yX12_copies ∈ z_tbl := z_in (i := 1424) (by decide +kernel) rfl
theorem ze_X12_copies : Cond.selects yX12_copies.cls yX12_copies yX12_copies ∈ z_tbl := z_in (i := 101) (by decide +kernel) rfl
theorem zl_X12_207 : Cond.methodLink RX12 207 yX12_copies ∈ z_tbl ∨ ∃ host, Cond.methodLinkNest RX12 207 yX12_copies host ∈ z_nst := Or.inl (z_in (i := 1422) (by decide +kernel) rfl)
theorem zf_X12_35 : z_Fl RX12 35 12 26 RX12 TX12 66 := ⟨rfl, z_inX12, by decide, by decide, Or.inl (z_in (i := 1452) (by decide +kernel) rfl)⟩
theorem zf_X12_20 : z_Fl RX12 20 12 21 RX12 TX12 66 := ⟨rfl, z_inX12, by decide, by decide, Or.inl (z_in (i := 1447) (by decide +kernel) rfl)⟩
theorem zf_X12_174 : z_Fl RX12 174 12 16 RX12 TX12 66 := ⟨rfl, z_inX12, by decide, by decide, Or.inl (z_in (i := 1442) (by decide +kernel) rfl)⟩
theorem zf_X12_177 : z_Fl RX12 177 12 17 RX12 TX12 66 := ⟨rfl, z_inX12, by decide, by decide, Or.inl (z_in (i := 1443) (by decide +kernel) rfl)⟩
theorem zf_X12_180 : z_Fl RX12 180 12 18 RX12 TX12 66 := ⟨rfl, z_inX12, by decide, by decide, Or.inl (z_in (i := 1444) (by decide +kernel) rfl)⟩
theorem zf_X12_183 : z_Fl RX12 183 12 19 RX12 TX12 66 := ⟨rfl, z_inX12, by decide, by decide, Or.inl (z_in (i := 1445) (by decide +kernel) rfl)⟩
theorem zf_X12_139 : z_Fl RX12 139 12 7 RX12 TX12 66 := ⟨rfl, z_inX12, by decide, by decide, Or.inl (z_in (i := 1433) (by decide +kernel) rfl)⟩
theorem zf_X12_13 : z_Fl RX12 13 12 3 RX12 TX12 66 := ⟨rfl, z_inX12, by decide, by decide, Or.inl (z_in (i := 1429) (by decide +kernel) rfl)⟩
theorem zk_X12_takeSign : Cond.code yX12_takeSign cX12_takeSign 4 (none) ∈ z_tbl := z_in (i := 1660) (by decide +kernel) rfl
theorem zd_X12_takeSign : yX12_takeSign.cls ≠ "java/lang/invoke/MethodHandle" ∧ yX12_takeSign.cls ≠ "java/lang/invoke/VarHandle" ∧ (parseMethodDescriptor yX12_takeSign.desc).map (fun d => d.parameters.length) = some 0 := ⟨by decide +kernel, by decide +kernel, by decide +kernel⟩
theorem zn_X12_takeSign : Cond.instanceMethod yX12_takeSign ∈ z_tbl := z_in (i := 1659) (by decide +kernel) rfl
theorem ze_X12_takeSign : Cond.selects yX12_takeSign.cls yX12_takeSign yX12_takeSign ∈ z_tbl := z_in (i := 107) (by decide +kernel) rfl
theorem zl_X12_162 : Cond.methodLink RX12 162 yX12_takeSign ∈ z_tbl ∨ ∃ host, Cond.methodLinkNest RX12 162 yX12_takeSign host ∈ z_nst := Or.inl (z_in (i := 1657) (by decide +kernel) rfl)
theorem zk_X12_isDigit : Cond.code yX12_isDigit cX12_isDigit 2 (some .boolean) ∈ z_tbl := z_in (i := 1656) (by decide +kernel) rfl
theorem zd_X12_isDigit : yX12_isDigit.cls ≠ "java/lang/invoke/MethodHandle" ∧ yX12_isDigit.cls ≠ "java/lang/invoke/VarHandle" ∧ (parseMethodDescriptor yX12_isDigit.desc).map (fun d => d.parameters.length) = some 1 := ⟨by decide +kernel, by decide +kernel, by decide +kernel⟩
theorem zn_X12_isDigit : Cond.instanceMethod yX12_isDigit ∈ z_tbl := z_in (i := 1655) (by decide +kernel) rfl
theorem ze_X12_isDigit : Cond.selects yX12_isDigit.cls yX12_isDigit yX12_isDigit ∈ z_tbl := z_in (i := 106) (by decide +kernel) rfl
theorem zl_X12_159 : Cond.methodLink RX12 159 yX12_isDigit ∈ z_tbl ∨ ∃ host, Cond.methodLinkNest RX12 159 yX12_isDigit host ∈ z_nst := Or.inl (z_in (i := 1653) (by decide +kernel) rfl)
theorem zk_X12_packed : Cond.code yX12_packed cX12_packed 5 (some .int) ∈ z_tbl := z_in (i := 1652) (by decide +kernel) rfl
theorem zd_X12_packed : yX12_packed.cls ≠ "java/lang/invoke/MethodHandle" ∧ yX12_packed.cls ≠ "java/lang/invoke/VarHandle" ∧ (parseMethodDescriptor yX12_packed.desc).map (fun d => d.parameters.length) = some 2 := ⟨by decide +kernel, by decide +kernel, by decide +kernel⟩
theorem zn_X12_packed : Cond.instanceMethod yX12_packed ∈ z_tbl := z_in (i := 1651) (by decide +kernel) rfl
theorem ze_X12_packed : Cond.selects yX12_packed.cls yX12_packed yX12_packed ∈ z_tbl := z_in (i := 105) (by decide +kernel) rfl
theorem zl_X12_156 : Cond.methodLink RX12 156 yX12_packed ∈ z_tbl ∨ ∃ host, Cond.methodLinkNest RX12 156 yX12_packed host ∈ z_nst := Or.inl (z_in (i := 1649) (by decide +kernel) rfl)
theorem zk_X12_wordAt : Cond.code yX12_wordAt cX12_wordAt 8 (some .int) ∈ z_tbl := z_in (i := 1648) (by decide +kernel) rfl
theorem zd_X12_wordAt : yX12_wordAt.cls ≠ "java/lang/invoke/MethodHandle" ∧ yX12_wordAt.cls ≠ "java/lang/invoke/VarHandle" ∧ (parseMethodDescriptor yX12_wordAt.desc).map (fun d => d.parameters.length) = some 2 := ⟨by decide +kernel, by decide +kernel, by decide +kernel⟩
theorem zn_X12_wordAt : Cond.instanceMethod yX12_wordAt ∈ z_tbl := z_in (i := 1647) (by decide +kernel) rfl
theorem ze_X12_wordAt : Cond.selects yX12_wordAt.cls yX12_wordAt yX12_wordAt ∈ z_tbl := z_in (i := 104) (by decide +kernel) rfl
theorem zl_X12_149 : Cond.methodLink RX12 149 yX12_wordAt ∈ z_tbl ∨ ∃ host, Cond.methodLinkNest RX12 149 yX12_wordAt host ∈ z_nst := Or.inl (z_in (i := 1645) (by decide +kernel) rfl)
theorem zk_X12_isSmall : Cond.code yX12_isSmall cX12_isSmall 2 (some .boolean) ∈ z_tbl := z_in (i := 1644) (by decide +kernel) rfl
theorem zd_X12_isSmall : yX12_isSmall.cls ≠ "java/lang/invoke/MethodHandle" ∧ yX12_isSmall.cls ≠ "java/lang/invoke/VarHandle" ∧ (parseMethodDescriptor yX12_isSmall.desc).map (fun d => d.parameters.length) = some 1 := ⟨by decide +kernel, by decide +kernel, by decide +kernel⟩
theorem zn_X12_isSmall : Cond.instanceMethod yX12_isSmall ∈ z_tbl := z_in (i := 1643) (by decide +kernel) rfl
theorem ze_X12_isSmall : Cond.selects yX12_isSmall.cls yX12_isSmall yX12_isSmall ∈ z_tbl := z_in (i := 103) (by decide +kernel) rfl
theorem zl_X12_145 : Cond.methodLink RX12 145 yX12_isSmall ∈ z_tbl ∨ ∃ host, Cond.methodLinkNest RX12 145 yX12_isSmall host ∈ z_nst := Or.inl (z_in (i := 1641) (by decide +kernel) rfl)
theorem zk_X12_take : Cond.code yX12_take cX12_take 1 (none) ∈ z_tbl := z_in (i := 1640) (by decide +kernel) rfl
theorem zd_X12_take : yX12_take.cls ≠ "java/lang/invoke/MethodHandle" ∧ yX12_take.cls ≠ "java/lang/invoke/VarHandle" ∧ (parseMethodDescriptor yX12_take.desc).map (fun d => d.parameters.length) = some 0 := ⟨by decide +kernel, by decide +kernel, by decide +kernel⟩
theorem zn_X12_take : Cond.instanceMethod yX12_take ∈ z_tbl := z_in (i := 1639) (by decide +kernel) rfl
theorem ze_X12_take : Cond.selects yX12_take.cls yX12_take yX12_take ∈ z_tbl := z_in (i := 102) (by decide +kernel) rfl
theorem zl_X12_171 : Cond.methodLink RX12 171 yX12_take ∈ z_tbl ∨ ∃ host, Cond.methodLinkNest RX12 171 yX12_take host ∈ z_nst := Or.inl (z_in (i := 1637) (by decide +kernel) rfl)
theorem zk_X12_isKey : Cond.code yX12_isKey cX12_isKey 2 (some .boolean) ∈ z_tbl := z_in (i := 1692) (by decide +kernel) rfl
theorem zd_X12_isKey : yX12_isKey.cls ≠ "java/lang/invoke/MethodHandle" ∧ yX12_isKey.cls ≠ "java/lang/invoke/VarHandle" ∧ (parseMethodDescriptor yX12_isKey.desc).map (fun d => d.parameters.length) = some 1 := ⟨by decide +kernel, by decide +kernel, by decide +kernel⟩
theorem zn_X12_isKey : Cond.instanceMethod yX12_isKey ∈ z_tbl := z_in (i := 1691) (by decide +kernel) rfl
theorem ze_X12_isKey : Cond.selects yX12_isKey.cls yX12_isKey yX12_isKey ∈ z_tbl := z_in (i := 115) (by decide +kernel) rfl
theorem zl_X12_165 : Cond.methodLink RX12 165 yX12_isKey ∈ z_tbl ∨ ∃ host, Cond.methodLinkNest RX12 165 yX12_isKey host ∈ z_nst := Or.inl (z_in (i := 1689) (by decide +kernel) rfl)
theorem zf_X12_278 : z_Fl RX12 278 12 56 RX12 TX12 66 := ⟨rfl, z_inX12, by decide, by decide, Or.inl (z_in (i := 1482) (by decide +kernel) rfl)⟩
theorem zk_X12_isCounted : Cond.code yX12_isCounted cX12_isCounted 1 (some .boolean) ∈ z_tbl := z_in (i := 1732) (by decide +kernel) rfl
theorem zd_X12_isCounted : yX12_isCounted.cls ≠ "java/lang/invoke/MethodHandle" ∧ yX12_isCounted.cls ≠ "java/lang/invoke/VarHandle" ∧ (parseMethodDescriptor yX12_isCounted.desc).map (fun d => d.parameters.length) = some 0 := ⟨by decide +kernel, by decide +kernel, by decide +kernel⟩
theorem zn_X12_isCounted : Cond.instanceMethod yX12_isCounted ∈ z_tbl := z_in (i := 1731) (by decide +kernel) rfl
theorem ze_X12_isCounted : Cond.selects yX12_isCounted.cls yX12_isCounted yX12_isCounted ∈ z_tbl := z_in (i := 125) (by decide +kernel) rfl
theorem zl_X12_274 : Cond.methodLink RX12 274 yX12_isCounted ∈ z_tbl ∨ ∃ host, Cond.methodLinkNest RX12 274 yX12_isCounted host ∈ z_nst := Or.inl (z_in (i := 1729) (by decide +kernel) rfl)
theorem zk_X12_numberRead : Cond.code yX12_numberRead cX12_numberRead 3 (some .boolean) ∈ z_tbl := z_in (i := 1684) (by decide +kernel) rfl
theorem zd_X12_numberRead : yX12_numberRead.cls ≠ "java/lang/invoke/MethodHandle" ∧ yX12_numberRead.cls ≠ "java/lang/invoke/VarHandle" ∧ (parseMethodDescriptor yX12_numberRead.desc).map (fun d => d.parameters.length) = some 2 := ⟨by decide +kernel, by decide +kernel, by decide +kernel⟩
theorem zn_X12_numberRead : Cond.instanceMethod yX12_numberRead ∈ z_tbl := z_in (i := 1683) (by decide +kernel) rfl
theorem ze_X12_numberRead : Cond.selects yX12_numberRead.cls yX12_numberRead yX12_numberRead ∈ z_tbl := z_in (i := 113) (by decide +kernel) rfl
theorem zl_X12_228 : Cond.methodLink RX12 228 yX12_numberRead ∈ z_tbl ∨ ∃ host, Cond.methodLinkNest RX12 228 yX12_numberRead host ∈ z_nst := Or.inl (z_in (i := 1681) (by decide +kernel) rfl)
theorem zk_X12_waitsFor : Cond.code yX12_waitsFor cX12_waitsFor 2 (none) ∈ z_tbl := z_in (i := 1728) (by decide +kernel) rfl
theorem zd_X12_waitsFor : yX12_waitsFor.cls ≠ "java/lang/invoke/MethodHandle" ∧ yX12_waitsFor.cls ≠ "java/lang/invoke/VarHandle" ∧ (parseMethodDescriptor yX12_waitsFor.desc).map (fun d => d.parameters.length) = some 1 := ⟨by decide +kernel, by decide +kernel, by decide +kernel⟩
theorem zn_X12_waitsFor : Cond.instanceMethod yX12_waitsFor ∈ z_tbl := z_in (i := 1727) (by decide +kernel) rfl
theorem ze_X12_waitsFor : Cond.selects yX12_waitsFor.cls yX12_waitsFor yX12_waitsFor ∈ z_tbl := z_in (i := 124) (by decide +kernel) rfl
theorem zl_X12_266 : Cond.methodLink RX12 266 yX12_waitsFor ∈ z_tbl ∨ ∃ host, Cond.methodLinkNest RX12 266 yX12_waitsFor host ∈ z_nst := Or.inl (z_in (i := 1725) (by decide +kernel) rfl)
theorem zf_X12_270 : z_Fl RX12 270 12 57 RX12 TX12 66 := ⟨rfl, z_inX12, by decide, by decide, Or.inl (z_in (i := 1483) (by decide +kernel) rfl)⟩
theorem zf_X12_263 : z_Fl RX12 263 12 54 RX12 TX12 66 := ⟨rfl, z_inX12, by decide, by decide, Or.inl (z_in (i := 1480) (by decide +kernel) rfl)⟩
theorem zk_X12_isSign : Cond.code yX12_isSign cX12_isSign 2 (some .boolean) ∈ z_tbl := z_in (i := 1720) (by decide +kernel) rfl
theorem zd_X12_isSign : yX12_isSign.cls ≠ "java/lang/invoke/MethodHandle" ∧ yX12_isSign.cls ≠ "java/lang/invoke/VarHandle" ∧ (parseMethodDescriptor yX12_isSign.desc).map (fun d => d.parameters.length) = some 1 := ⟨by decide +kernel, by decide +kernel, by decide +kernel⟩
theorem zn_X12_isSign : Cond.instanceMethod yX12_isSign ∈ z_tbl := z_in (i := 1719) (by decide +kernel) rfl
theorem ze_X12_isSign : Cond.selects yX12_isSign.cls yX12_isSign yX12_isSign ∈ z_tbl := z_in (i := 122) (by decide +kernel) rfl
theorem zl_X12_260 : Cond.methodLink RX12 260 yX12_isSign ∈ z_tbl ∨ ∃ host, Cond.methodLinkNest RX12 260 yX12_isSign host ∈ z_nst := Or.inl (z_in (i := 1717) (by decide +kernel) rfl)
theorem zf_X12_358 : z_Fl RX12 358 12 58 RX12 TX12 66 := ⟨rfl, z_inX12, by decide, by decide, Or.inl (z_in (i := 1484) (by decide +kernel) rfl)⟩
theorem zf_X12_362 : z_Fl RX12 362 12 59 RX12 TX12 66 := ⟨rfl, z_inX12, by decide, by decide, Or.inl (z_in (i := 1485) (by decide +kernel) rfl)⟩
theorem zk_X12_common : Cond.code yX12_common cX12_common 10 (some .long) ∈ z_tbl := z_in (i := 1877) (by decide +kernel) rfl
theorem zd_X12_common : yX12_common.cls ≠ "java/lang/invoke/MethodHandle" ∧ yX12_common.cls ≠ "java/lang/invoke/VarHandle" ∧ (parseMethodDescriptor yX12_common.desc).map (fun d => d.parameters.length) = some 2 := ⟨by decide +kernel, by decide +kernel, by decide +kernel⟩
theorem zq_X12_common : Cond.static yX12_common ∈ z_tbl := z_in (i := 1876) (by decide +kernel) rfl
theorem zl_X12_365 : Cond.methodLink RX12 365 yX12_common ∈ z_tbl ∨ ∃ host, Cond.methodLinkNest RX12 365 yX12_common host ∈ z_nst := Or.inl (z_in (i := 1875) (by decide +kernel) rfl)
theorem zk_X12_isOnPage : Cond.code yX12_isOnPage cX12_isOnPage 5 (some .boolean) ∈ z_tbl := z_in (i := 1910) (by decide +kernel) rfl
theorem zd_X12_isOnPage : yX12_isOnPage.cls ≠ "java/lang/invoke/MethodHandle" ∧ yX12_isOnPage.cls ≠ "java/lang/invoke/VarHandle" ∧ (parseMethodDescriptor yX12_isOnPage.desc).map (fun d => d.parameters.length) = some 3 := ⟨by decide +kernel, by decide +kernel, by decide +kernel⟩
theorem zn_X12_isOnPage : Cond.instanceMethod yX12_isOnPage ∈ z_tbl := z_in (i := 1909) (by decide +kernel) rfl
theorem ze_X12_isOnPage : Cond.selects yX12_isOnPage.cls yX12_isOnPage yX12_isOnPage ∈ z_tbl := z_in (i := 150) (by decide +kernel) rfl
theorem zl_X12_392 : Cond.methodLink RX12 392 yX12_isOnPage ∈ z_tbl ∨ ∃ host, Cond.methodLinkNest RX12 392 yX12_isOnPage host ∈ z_nst := Or.inl (z_in (i := 1907) (by decide +kernel) rfl)
theorem zk_X12_isOf : Cond.code yX12_isOf cX12_isOf 2 (some .boolean) ∈ z_tbl := z_in (i := 1937) (by decide +kernel) rfl
theorem zd_X12_isOf : yX12_isOf.cls ≠ "java/lang/invoke/MethodHandle" ∧ yX12_isOf.cls ≠ "java/lang/invoke/VarHandle" ∧ (parseMethodDescriptor yX12_isOf.desc).map (fun d => d.parameters.length) = some 2 := ⟨by decide +kernel, by decide +kernel, by decide +kernel⟩
theorem zq_X12_isOf : Cond.static yX12_isOf ∈ z_tbl := z_in (i := 1936) (by decide +kernel) rfl
theorem zl_X12_401 : Cond.methodLink RX12 401 yX12_isOf ∈ z_tbl ∨ ∃ host, Cond.methodLinkNest RX12 401 yX12_isOf host ∈ z_nst := Or.inl (z_in (i := 1935) (by decide +kernel) rfl)
theorem zk_X12_isSet : Cond.code yX12_isSet cX12_isSet 2 (some .boolean) ∈ z_tbl := z_in (i := 1948) (by decide +kernel) rfl
theorem zd_X12_isSet : yX12_isSet.cls ≠ "java/lang/invoke/MethodHandle" ∧ yX12_isSet.cls ≠ "java/lang/invoke/VarHandle" ∧ (parseMethodDescriptor yX12_isSet.desc).map (fun d => d.parameters.length) = some 1 := ⟨by decide +kernel, by decide +kernel, by decide +kernel⟩
theorem zn_X12_isSet : Cond.instanceMethod yX12_isSet ∈ z_tbl := z_in (i := 1947) (by decide +kernel) rfl
theorem ze_X12_isSet : Cond.selects yX12_isSet.cls yX12_isSet yX12_isSet ∈ z_tbl := z_in (i := 153) (by decide +kernel) rfl
theorem zl_X12_407 : Cond.methodLink RX12 407 yX12_isSet ∈ z_tbl ∨ ∃ host, Cond.methodLinkNest RX12 407 yX12_isSet host ∈ z_nst := Or.inl (z_in (i := 1945) (by decide +kernel) rfl)
theorem zk_X12_find : Cond.code yX12_find cX12_find 6 (some .int) ∈ z_tbl := z_in (i := 1680) (by decide +kernel) rfl
theorem zd_X12_find : yX12_find.cls ≠ "java/lang/invoke/MethodHandle" ∧ yX12_find.cls ≠ "java/lang/invoke/VarHandle" ∧ (parseMethodDescriptor yX12_find.desc).map (fun d => d.parameters.length) = some 4 := ⟨by decide +kernel, by decide +kernel, by decide +kernel⟩
theorem zn_X12_find : Cond.instanceMethod yX12_find ∈ z_tbl := z_in (i := 1679) (by decide +kernel) rfl
theorem ze_X12_find : Cond.selects yX12_find.cls yX12_find yX12_find ∈ z_tbl := z_in (i := 112) (by decide +kernel) rfl
theorem zl_X12_220 : Cond.methodLink RX12 220 yX12_find ∈ z_tbl ∨ ∃ host, Cond.methodLinkNest RX12 220 yX12_find host ∈ z_nst := Or.inl (z_in (i := 1677) (by decide +kernel) rfl)
theorem zk_X12_there : Cond.code yX12_there cX12_there 4 (some .boolean) ∈ z_tbl := z_in (i := 1704) (by decide +kernel) rfl
theorem zd_X12_there : yX12_there.cls ≠ "java/lang/invoke/MethodHandle" ∧ yX12_there.cls ≠ "java/lang/invoke/VarHandle" ∧ (parseMethodDescriptor yX12_there.desc).map (fun d => d.parameters.length) = some 3 := ⟨by decide +kernel, by decide +kernel, by decide +kernel⟩
theorem zn_X12_there : Cond.instanceMethod yX12_there ∈ z_tbl := z_in (i := 1703) (by decide +kernel) rfl
theorem ze_X12_there : Cond.selects yX12_there.cls yX12_there yX12_there ∈ z_tbl := z_in (i := 118) (by decide +kernel) rfl
theorem zl_X12_235 : Cond.methodLink RX12 235 yX12_there ∈ z_tbl ∨ ∃ host, Cond.methodLinkNest RX12 235 yX12_there host ∈ z_nst := Or.inl (z_in (i := 1701) (by decide +kernel) rfl)
theorem zk_X12_bind : Cond.code yX12_bind cX12_bind 5 (none) ∈ z_tbl := z_in (i := 1744) (by decide +kernel) rfl
theorem zd_X12_bind : yX12_bind.cls ≠ "java/lang/invoke/MethodHandle" ∧ yX12_bind.cls ≠ "java/lang/invoke/VarHandle" ∧ (parseMethodDescriptor yX12_bind.desc).map (fun d => d.parameters.length) = some 1 := ⟨by decide +kernel, by decide +kernel, by decide +kernel⟩
theorem zn_X12_bind : Cond.instanceMethod yX12_bind ∈ z_tbl := z_in (i := 1743) (by decide +kernel) rfl
theorem ze_X12_bind : Cond.selects yX12_bind.cls yX12_bind yX12_bind ∈ z_tbl := z_in (i := 128) (by decide +kernel) rfl
theorem zl_X12_281 : Cond.methodLink RX12 281 yX12_bind ∈ z_tbl ∨ ∃ host, Cond.methodLinkNest RX12 281 yX12_bind host ∈ z_nst := Or.inl (z_in (i := 1741) (by decide +kernel) rfl)
theorem zk_X12_signs : Cond.code yX12_signs cX12_signs 2 (some .boolean) ∈ z_tbl := z_in (i := 1740) (by decide +kernel) rfl
theorem zd_X12_signs : yX12_signs.cls ≠ "java/lang/invoke/MethodHandle" ∧ yX12_signs.cls ≠ "java/lang/invoke/VarHandle" ∧ (parseMethodDescriptor yX12_signs.desc).map (fun d => d.parameters.length) = some 0 := ⟨by decide +kernel, by decide +kernel, by decide +kernel⟩
theorem zn_X12_signs : Cond.instanceMethod yX12_signs ∈ z_tbl := z_in (i := 1739) (by decide +kernel) rfl
theorem ze_X12_signs : Cond.selects yX12_signs.cls yX12_signs yX12_signs ∈ z_tbl := z_in (i := 127) (by decide +kernel) rfl
theorem zl_X12_287 : Cond.methodLink RX12 287 yX12_signs ∈ z_tbl ∨ ∃ host, Cond.methodLinkNest RX12 287 yX12_signs host ∈ z_nst := Or.inl (z_in (i := 1737) (by decide +kernel) rfl)
theorem zk_X12_leafRead : Cond.code yX12_leafRead cX12_leafRead 2 (some .boolean) ∈ z_tbl := z_in (i := 1724) (by decide +kernel) rfl
theorem zd_X12_leafRead : yX12_leafRead.cls ≠ "java/lang/invoke/MethodHandle" ∧ yX12_leafRead.cls ≠ "java/lang/invoke/VarHandle" ∧ (parseMethodDescriptor yX12_leafRead.desc).map (fun d => d.parameters.length) = some 0 := ⟨by decide +kernel, by decide +kernel, by decide +kernel⟩
theorem zn_X12_leafRead : Cond.instanceMethod yX12_leafRead ∈ z_tbl := z_in (i := 1723) (by decide +kernel) rfl
theorem ze_X12_leafRead : Cond.selects yX12_leafRead.cls yX12_leafRead yX12_leafRead ∈ z_tbl := z_in (i := 123) (by decide +kernel) rfl
theorem zl_X12_284 : Cond.methodLink RX12 284 yX12_leafRead ∈ z_tbl ∨ ∃ host, Cond.methodLinkNest RX12 284 yX12_leafRead host ∈ z_nst := Or.inl (z_in (i := 1721) (by decide +kernel) rfl)
theorem zk_X12_latestHour : Cond.code yX12_latestHour cX12_latestHour 6 (some .int) ∈ z_tbl := z_in (i := 1708) (by decide +kernel) rfl
theorem zd_X12_latestHour : yX12_latestHour.cls ≠ "java/lang/invoke/MethodHandle" ∧ yX12_latestHour.cls ≠ "java/lang/invoke/VarHandle" ∧ (parseMethodDescriptor yX12_latestHour.desc).map (fun d => d.parameters.length) = some 3 := ⟨by decide +kernel, by decide +kernel, by decide +kernel⟩
theorem zn_X12_latestHour : Cond.instanceMethod yX12_latestHour ∈ z_tbl := z_in (i := 1707) (by decide +kernel) rfl
theorem ze_X12_latestHour : Cond.selects yX12_latestHour.cls yX12_latestHour yX12_latestHour ∈ z_tbl := z_in (i := 119) (by decide +kernel) rfl
theorem zl_X12_238 : Cond.methodLink RX12 238 yX12_latestHour ∈ z_tbl ∨ ∃ host, Cond.methodLinkNest RX12 238 yX12_latestHour host ∈ z_nst := Or.inl (z_in (i := 1705) (by decide +kernel) rfl)
theorem zk_X12_keyRead : Cond.code yX12_keyRead cX12_keyRead 2 (some .boolean) ∈ z_tbl := z_in (i := 1688) (by decide +kernel) rfl
theorem zd_X12_keyRead : yX12_keyRead.cls ≠ "java/lang/invoke/MethodHandle" ∧ yX12_keyRead.cls ≠ "java/lang/invoke/VarHandle" ∧ (parseMethodDescriptor yX12_keyRead.desc).map (fun d => d.parameters.length) = some 1 := ⟨by decide +kernel, by decide +kernel, by decide +kernel⟩
theorem zn_X12_keyRead : Cond.instanceMethod yX12_keyRead ∈ z_tbl := z_in (i := 1687) (by decide +kernel) rfl
theorem ze_X12_keyRead : Cond.selects yX12_keyRead.cls yX12_keyRead yX12_keyRead ∈ z_tbl := z_in (i := 114) (by decide +kernel) rfl
theorem zl_X12_232 : Cond.methodLink RX12 232 yX12_keyRead ∈ z_tbl ∨ ∃ host, Cond.methodLinkNest RX12 232 yX12_keyRead host ∈ z_nst := Or.inl (z_in (i := 1685) (by decide +kernel) rfl)
theorem zk_X12_newName : Cond.code yX12_newName cX12_newName 4 (some .boolean) ∈ z_tbl := z_in (i := 1676) (by decide +kernel) rfl
theorem zd_X12_newName : yX12_newName.cls ≠ "java/lang/invoke/MethodHandle" ∧ yX12_newName.cls ≠ "java/lang/invoke/VarHandle" ∧ (parseMethodDescriptor yX12_newName.desc).map (fun d => d.parameters.length) = some 3 := ⟨by decide +kernel, by decide +kernel, by decide +kernel⟩
theorem zn_X12_newName : Cond.instanceMethod yX12_newName ∈ z_tbl := z_in (i := 1675) (by decide +kernel) rfl
theorem ze_X12_newName : Cond.selects yX12_newName.cls yX12_newName yX12_newName ∈ z_tbl := z_in (i := 111) (by decide +kernel) rfl
theorem zl_X12_224 : Cond.methodLink RX12 224 yX12_newName ∈ z_tbl ∨ ∃ host, Cond.methodLinkNest RX12 224 yX12_newName host ∈ z_nst := Or.inl (z_in (i := 1673) (by decide +kernel) rfl)
theorem zk_X12_sumLine : Cond.code yX12_sumLine cX12_sumLine 2 (some .boolean) ∈ z_tbl := z_in (i := 1716) (by decide +kernel) rfl
theorem zd_X12_sumLine : yX12_sumLine.cls ≠ "java/lang/invoke/MethodHandle" ∧ yX12_sumLine.cls ≠ "java/lang/invoke/VarHandle" ∧ (parseMethodDescriptor yX12_sumLine.desc).map (fun d => d.parameters.length) = some 0 := ⟨by decide +kernel, by decide +kernel, by decide +kernel⟩
theorem zn_X12_sumLine : Cond.instanceMethod yX12_sumLine ∈ z_tbl := z_in (i := 1715) (by decide +kernel) rfl
theorem ze_X12_sumLine : Cond.selects yX12_sumLine.cls yX12_sumLine yX12_sumLine ∈ z_tbl := z_in (i := 121) (by decide +kernel) rfl
theorem zl_X12_303 : Cond.methodLink RX12 303 yX12_sumLine ∈ z_tbl ∨ ∃ host, Cond.methodLinkNest RX12 303 yX12_sumLine host ∈ z_nst := Or.inl (z_in (i := 1713) (by decide +kernel) rfl)
theorem zk_X12_pageLine : Cond.code yX12_pageLine cX12_pageLine 3 (some .boolean) ∈ z_tbl := z_in (i := 1712) (by decide +kernel) rfl
theorem zd_X12_pageLine : yX12_pageLine.cls ≠ "java/lang/invoke/MethodHandle" ∧ yX12_pageLine.cls ≠ "java/lang/invoke/VarHandle" ∧ (parseMethodDescriptor yX12_pageLine.desc).map (fun d => d.parameters.length) = some 0 := ⟨by decide +kernel, by decide +kernel, by decide +kernel⟩
theorem zn_X12_pageLine : Cond.instanceMethod yX12_pageLine ∈ z_tbl := z_in (i := 1711) (by decide +kernel) rfl
theorem ze_X12_pageLine : Cond.selects yX12_pageLine.cls yX12_pageLine yX12_pageLine ∈ z_tbl := z_in (i := 120) (by decide +kernel) rfl
theorem zl_X12_300 : Cond.methodLink RX12 300 yX12_pageLine ∈ z_tbl ∨ ∃ host, Cond.methodLinkNest RX12 300 yX12_pageLine host ∈ z_nst := Or.inl (z_in (i := 1709) (by decide +kernel) rfl)
theorem zk_X12_talkLine : Cond.code yX12_talkLine cX12_talkLine 7 (some .boolean) ∈ z_tbl := z_in (i := 1700) (by decide +kernel) rfl
theorem zd_X12_talkLine : yX12_talkLine.cls ≠ "java/lang/invoke/MethodHandle" ∧ yX12_talkLine.cls ≠ "java/lang/invoke/VarHandle" ∧ (parseMethodDescriptor yX12_talkLine.desc).map (fun d => d.parameters.length) = some 1 := ⟨by decide +kernel, by decide +kernel, by decide +kernel⟩
theorem zn_X12_talkLine : Cond.instanceMethod yX12_talkLine ∈ z_tbl := z_in (i := 1699) (by decide +kernel) rfl
theorem ze_X12_talkLine : Cond.selects yX12_talkLine.cls yX12_talkLine yX12_talkLine ∈ z_tbl := z_in (i := 117) (by decide +kernel) rfl
theorem zl_X12_296 : Cond.methodLink RX12 296 yX12_talkLine ∈ z_tbl ∨ ∃ host, Cond.methodLinkNest RX12 296 yX12_talkLine host ∈ z_nst := Or.inl (z_in (i := 1697) (by decide +kernel) rfl)
theorem zk_X12_tellerLine : Cond.code yX12_tellerLine cX12_tellerLine 3 (some .boolean) ∈ z_tbl := z_in (i := 1696) (by decide +kernel) rfl
theorem zd_X12_tellerLine : yX12_tellerLine.cls ≠ "java/lang/invoke/MethodHandle" ∧ yX12_tellerLine.cls ≠ "java/lang/invoke/VarHandle" ∧ (parseMethodDescriptor yX12_tellerLine.desc).map (fun d => d.parameters.length) = some 0 := ⟨by decide +kernel, by decide +kernel, by decide +kernel⟩
theorem zn_X12_tellerLine : Cond.instanceMethod yX12_tellerLine ∈ z_tbl := z_in (i := 1695) (by decide +kernel) rfl
theorem ze_X12_tellerLine : Cond.selects yX12_tellerLine.cls yX12_tellerLine yX12_tellerLine ∈ z_tbl := z_in (i := 116) (by decide +kernel) rfl
theorem zl_X12_293 : Cond.methodLink RX12 293 yX12_tellerLine ∈ z_tbl ∨ ∃ host, Cond.methodLinkNest RX12 293 yX12_tellerLine host ∈ z_nst := Or.inl (z_in (i := 1693) (by decide +kernel) rfl)
theorem zk_X12_thingLine : Cond.code yX12_thingLine cX12_thingLine 4 (some .boolean) ∈ z_tbl := z_in (i := 1672) (by decide +kernel) rfl
theorem zd_X12_thingLine : yX12_thingLine.cls ≠ "java/lang/invoke/MethodHandle" ∧ yX12_thingLine.cls ≠ "java/lang/invoke/VarHandle" ∧ (parseMethodDescriptor yX12_thingLine.desc).map (fun d => d.parameters.length) = some 0 := ⟨by decide +kernel, by decide +kernel, by decide +kernel⟩
theorem zn_X12_thingLine : Cond.instanceMethod yX12_thingLine ∈ z_tbl := z_in (i := 1671) (by decide +kernel) rfl
theorem ze_X12_thingLine : Cond.selects yX12_thingLine.cls yX12_thingLine yX12_thingLine ∈ z_tbl := z_in (i := 110) (by decide +kernel) rfl
theorem zl_X12_290 : Cond.methodLink RX12 290 yX12_thingLine ∈ z_tbl ∨ ∃ host, Cond.methodLinkNest RX12 290 yX12_thingLine host ∈ z_nst := Or.inl (z_in (i := 1669) (by decide +kernel) rfl)
theorem zk_X12_fails : Cond.code yX12_fails cX12_fails 2 (some .int) ∈ z_tbl := z_in (i := 1771) (by decide +kernel) rfl
theorem zd_X12_fails : yX12_fails.cls ≠ "java/lang/invoke/MethodHandle" ∧ yX12_fails.cls ≠ "java/lang/invoke/VarHandle" ∧ (parseMethodDescriptor yX12_fails.desc).map (fun d => d.parameters.length) = some 1 := ⟨by decide +kernel, by decide +kernel, by decide +kernel⟩
theorem zn_X12_fails : Cond.instanceMethod yX12_fails ∈ z_tbl := z_in (i := 1770) (by decide +kernel) rfl
theorem ze_X12_fails : Cond.selects yX12_fails.cls yX12_fails yX12_fails ∈ z_tbl := z_in (i := 131) (by decide +kernel) rfl
theorem zl_X12_312 : Cond.methodLink RX12 312 yX12_fails ∈ z_tbl ∨ ∃ host, Cond.methodLinkNest RX12 312 yX12_fails host ∈ z_nst := Or.inl (z_in (i := 1768) (by decide +kernel) rfl)
theorem zk_X12_isThing : Cond.code yX12_isThing cX12_isThing 2 (some .boolean) ∈ z_tbl := z_in (i := 1767) (by decide +kernel) rfl
theorem zd_X12_isThing : yX12_isThing.cls ≠ "java/lang/invoke/MethodHandle" ∧ yX12_isThing.cls ≠ "java/lang/invoke/VarHandle" ∧ (parseMethodDescriptor yX12_isThing.desc).map (fun d => d.parameters.length) = some 1 := ⟨by decide +kernel, by decide +kernel, by decide +kernel⟩
theorem zn_X12_isThing : Cond.instanceMethod yX12_isThing ∈ z_tbl := z_in (i := 1766) (by decide +kernel) rfl
theorem ze_X12_isThing : Cond.selects yX12_isThing.cls yX12_isThing yX12_isThing ∈ z_tbl := z_in (i := 130) (by decide +kernel) rfl
theorem zl_X12_309 : Cond.methodLink RX12 309 yX12_isThing ∈ z_tbl ∨ ∃ host, Cond.methodLinkNest RX12 309 yX12_isThing host ∈ z_nst := Or.inl (z_in (i := 1764) (by decide +kernel) rfl)
theorem zf_X12_108 : z_Fl RX12 108 12 61 RX12 TX12 66 := ⟨rfl, z_inX12, by decide, by decide, Or.inl (z_in (i := 1487) (by decide +kernel) rfl)⟩
theorem zf_X12_105 : z_Fl RX12 105 12 60 RX12 TX12 66 := ⟨rfl, z_inX12, by decide, by decide, Or.inl (z_in (i := 1486) (by decide +kernel) rfl)⟩
theorem zk_X12_least : Cond.code yX12_least cX12_least 3 (none) ∈ z_tbl := z_in (i := 1874) (by decide +kernel) rfl
theorem zd_X12_least : yX12_least.cls ≠ "java/lang/invoke/MethodHandle" ∧ yX12_least.cls ≠ "java/lang/invoke/VarHandle" ∧ (parseMethodDescriptor yX12_least.desc).map (fun d => d.parameters.length) = some 0 := ⟨by decide +kernel, by decide +kernel, by decide +kernel⟩
theorem zn_X12_least : Cond.instanceMethod yX12_least ∈ z_tbl := z_in (i := 1873) (by decide +kernel) rfl
theorem ze_X12_least : Cond.selects yX12_least.cls yX12_least yX12_least ∈ z_tbl := z_in (i := 144) (by decide +kernel) rfl
theorem zl_X12_371 : Cond.methodLink RX12 371 yX12_least ∈ z_tbl ∨ ∃ host, Cond.methodLinkNest RX12 371 yX12_least host ∈ z_nst := Or.inl (z_in (i := 1871) (by decide +kernel) rfl)
theorem zf_X12_90 : z_Fl RX12 90 12 47 RX12 TX12 66 := ⟨rfl, z_inX12, by decide, by decide, Or.inl (z_in (i := 1473) (by decide +kernel) rfl)⟩
theorem zcsl_X12_369 : Cond.constantLong RX12 369 (10) ∈ z_tbl := z_in (i := 1886) (by decide +kernel) rfl
theorem zk_X12_weighs : Cond.code yX12_weighs cX12_weighs 3 (none) ∈ z_tbl := z_in (i := 1885) (by decide +kernel) rfl
theorem zd_X12_weighs : yX12_weighs.cls ≠ "java/lang/invoke/MethodHandle" ∧ yX12_weighs.cls ≠ "java/lang/invoke/VarHandle" ∧ (parseMethodDescriptor yX12_weighs.desc).map (fun d => d.parameters.length) = some 2 := ⟨by decide +kernel, by decide +kernel, by decide +kernel⟩
theorem zn_X12_weighs : Cond.instanceMethod yX12_weighs ∈ z_tbl := z_in (i := 1884) (by decide +kernel) rfl
theorem ze_X12_weighs : Cond.selects yX12_weighs.cls yX12_weighs yX12_weighs ∈ z_tbl := z_in (i := 146) (by decide +kernel) rfl
theorem zl_X12_379 : Cond.methodLink RX12 379 yX12_weighs ∈ z_tbl ∨ ∃ host, Cond.methodLinkNest RX12 379 yX12_weighs host ∈ z_nst := Or.inl (z_in (i := 1882) (by decide +kernel) rfl)
theorem zcsl_X12_374 : Cond.constantLong RX12 374 (-1) ∈ z_tbl := z_in (i := 1870) (by decide +kernel) rfl
theorem zk_X12_wasAsked : Cond.code yX12_wasAsked cX12_wasAsked 3 (some .boolean) ∈ z_tbl := z_in (i := 1960) (by decide +kernel) rfl
theorem zd_X12_wasAsked : yX12_wasAsked.cls ≠ "java/lang/invoke/MethodHandle" ∧ yX12_wasAsked.cls ≠ "java/lang/invoke/VarHandle" ∧ (parseMethodDescriptor yX12_wasAsked.desc).map (fun d => d.parameters.length) = some 1 := ⟨by decide +kernel, by decide +kernel, by decide +kernel⟩
theorem zn_X12_wasAsked : Cond.instanceMethod yX12_wasAsked ∈ z_tbl := z_in (i := 1959) (by decide +kernel) rfl
theorem ze_X12_wasAsked : Cond.selects yX12_wasAsked.cls yX12_wasAsked yX12_wasAsked ∈ z_tbl := z_in (i := 155) (by decide +kernel) rfl
theorem zl_X12_413 : Cond.methodLink RX12 413 yX12_wasAsked ∈ z_tbl ∨ ∃ host, Cond.methodLinkNest RX12 413 yX12_wasAsked host ∈ z_nst := Or.inl (z_in (i := 1957) (by decide +kernel) rfl)
theorem zk_X12_keep : Cond.code yX12_keep cX12_keep 2 (none) ∈ z_tbl := z_in (i := 1421) (by decide +kernel) rfl
theorem zd_X12_keep : yX12_keep.cls ≠ "java/lang/invoke/MethodHandle" ∧ yX12_keep.cls ≠ "java/lang/invoke/VarHandle" ∧ (parseMethodDescriptor yX12_keep.desc).map (fun d => d.parameters.length) = some 0 := ⟨by decide +kernel, by decide +kernel, by decide +kernel⟩
theorem zn_X12_keep : Cond.instanceMethod yX12_keep ∈ z_tbl := z_in (i := 1420) (by decide +kernel) rfl
theorem ze_X12_keep : Cond.selects yX12_keep.cls yX12_keep yX12_keep ∈ z_tbl := z_in (i := 100) (by decide +kernel) rfl
theorem zl_X12_121 : Cond.methodLink RX12 121 yX12_keep ∈ z_tbl ∨ ∃ host, Cond.methodLinkNest RX12 121 yX12_keep host ∈ z_nst := Or.inl (z_in (i := 1418) (by decide +kernel) rfl)
theorem zk_X12_lineRead : Cond.code yX12_lineRead cX12_lineRead 2 (some .boolean) ∈ z_tbl := z_in (i := 1664) (by decide +kernel) rfl
theorem zd_X12_lineRead : yX12_lineRead.cls ≠ "java/lang/invoke/MethodHandle" ∧ yX12_lineRead.cls ≠ "java/lang/invoke/VarHandle" ∧ (parseMethodDescriptor yX12_lineRead.desc).map (fun d => d.parameters.length) = some 0 := ⟨by decide +kernel, by decide +kernel, by decide +kernel⟩
theorem zn_X12_lineRead : Cond.instanceMethod yX12_lineRead ∈ z_tbl := z_in (i := 1663) (by decide +kernel) rfl
theorem ze_X12_lineRead : Cond.selects yX12_lineRead.cls yX12_lineRead yX12_lineRead ∈ z_tbl := z_in (i := 108) (by decide +kernel) rfl
theorem zl_X12_306 : Cond.methodLink RX12 306 yX12_lineRead ∈ z_tbl ∨ ∃ host, Cond.methodLinkNest RX12 306 yX12_lineRead host ∈ z_nst := Or.inl (z_in (i := 1661) (by decide +kernel) rfl)
theorem zk_X12_plain : Cond.code yX12_plain cX12_plain 2 (none) ∈ z_tbl := z_in (i := 1417) (by decide +kernel) rfl
theorem zd_X12_plain : yX12_plain.cls ≠ "java/lang/invoke/MethodHandle" ∧ yX12_plain.cls ≠ "java/lang/invoke/VarHandle" ∧ (parseMethodDescriptor yX12_plain.desc).map (fun d => d.parameters.length) = some 0 := ⟨by decide +kernel, by decide +kernel, by decide +kernel⟩
theorem zn_X12_plain : Cond.instanceMethod yX12_plain ∈ z_tbl := z_in (i := 1416) (by decide +kernel) rfl
theorem ze_X12_plain : Cond.selects yX12_plain.cls yX12_plain yX12_plain ∈ z_tbl := z_in (i := 99) (by decide +kernel) rfl
theorem zl_X12_118 : Cond.methodLink RX12 118 yX12_plain ∈ z_tbl ∨ ∃ host, Cond.methodLinkNest RX12 118 yX12_plain host ∈ z_nst := Or.inl (z_in (i := 1414) (by decide +kernel) rfl)
theorem zk_X12_many : Cond.code yX12_many cX12_many 3 (some .int) ∈ z_tbl := z_in (i := 1940) (by decide +kernel) rfl
theorem zd_X12_many : yX12_many.cls ≠ "java/lang/invoke/MethodHandle" ∧ yX12_many.cls ≠ "java/lang/invoke/VarHandle" ∧ (parseMethodDescriptor yX12_many.desc).map (fun d => d.parameters.length) = some 1 := ⟨by decide +kernel, by decide +kernel, by decide +kernel⟩
theorem zq_X12_many : Cond.static yX12_many ∈ z_tbl := z_in (i := 1939) (by decide +kernel) rfl
theorem zl_X12_404 : Cond.methodLink RX12 404 yX12_many ∈ z_tbl ∨ ∃ host, Cond.methodLinkNest RX12 404 yX12_many host ∈ z_nst := Or.inl (z_in (i := 1938) (by decide +kernel) rfl)
