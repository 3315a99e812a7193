section
/-! ===== the String constant of the words: its methods ===== -/
abbrev sgL : String := "thing is paper police teller begins ends tape ask say page law bar jury or and not age hours off asks led right wrong new put lines "
abbrev sgN : Nat := 132
def sgB : List Int32 := [116, 104, 105, 110, 103, 32, 105, 115, 32, 112, 97, 112, 101, 114, 32, 112, 111, 108, 105, 99, 101, 32, 116, 101, 108, 108, 101, 114, 32, 98, 101, 103, 105, 110, 115, 32, 101, 110, 100, 115, 32, 116, 97, 112, 101, 32, 97, 115, 107, 32, 115, 97, 121, 32, 112, 97, 103, 101, 32, 108, 97, 119, 32, 98, 97, 114, 32, 106, 117, 114, 121, 32, 111, 114, 32, 97, 110, 100, 32, 110, 111, 116, 32, 97, 103, 101, 32, 104, 111, 117, 114, 115, 32, 111, 102, 102, 32, 97, 115, 107, 115, 32, 108, 101, 100, 32, 114, 105, 103, 104, 116, 32, 119, 114, 111, 110, 103, 32, 110, 101, 119, 32, 112, 117, 116, 32, 108, 105, 110, 101, 115, 32]
abbrev sgG := (Nat → Nat) × (Nat → Nat) × Option Nat
def sg_E (g : sgG) (A : Nat → Prop) (U : State) (H : Heap) : Prop := vk_S 1 [sgN] [sgB] g.1 g.2.1 A U H ∧ vk_R RX10 52 sgL (g.1 0) U ∧ va_Z RJ0 "COMPACT_STRINGS" "Z" (.int 1) A U H ∧ va_Z RJ3 "SIOOBE_FORMATTER" "Ljava/util/function/BiFunction;" (va_rf g.2.2) A U H
theorem sg_E.kept {g : sgG} {A : Nat → Prop} {U : State} {H H1 : Heap} (h : sg_E g A U H) (hq : ∀ a : Nat, a < H.size → ¬ A a → H1[a]? = H[a]?) : sg_E g A U H1 := ⟨h.1.kept hq, h.2.1, h.2.2.1.kept hq, h.2.2.2.kept hq⟩
theorem sg_E.nar {g : sgG} {A B : Nat → Prop} {U : State} {H : Heap} (h : sg_E g A U H) (hAB : ∀ q, B q → A q) : sg_E g B U H := ⟨h.1.narrow hAB, h.2.1, h.2.2.1.narrow hAB, h.2.2.2.narrow hAB⟩
theorem sg_E.warm {g : sgG} {A : Nat → Prop} {s U : State} {H : Heap} (hW : s.WarmedH U.vm) (h : sg_E g A s H) : sg_E g A U H := ⟨vk_S.moved hW.alike h.1, vk_R.warm hW h.2.1, va_Z.moved hW.alike h.2.2.1, va_Z.moved hW.alike h.2.2.2⟩
theorem sg_E.same {g : sgG} {A : Nat → Prop} {u U : State} {H : Heap} (hv : U.vm = u.vm) (h : sg_E g A u H) : sg_E g A U H := ⟨vk_S.moved (by rw [hv]; exact Vm.Alike.refl _) h.1, vk_R.same hv h.2.1, va_Z.moved (by rw [hv]; exact Vm.Alike.refl _) h.2.2.1, va_Z.moved (by rw [hv]; exact Vm.Alike.refl _) h.2.2.2⟩
def sg_Cx (p : Program) (s : State) (m : MethodId) (args : Array Value) (c : Code) (own : String) (cc : ByteArray) (nL : Nat) : Prop := p.tables.exec = Jvm.exec ∧ c.code = cc ∧ c.maxLocals = nL ∧ s.vm.findClass own = some m.cls ∧ ∀ w ∈ z_tbl, w.before args s = true
def sg_Met (l : Launch) (g : sgG) (y : MethodName) (cc : ByteArray) (nL : Nat) (rt : FieldType) (k : Nat) (as : List Value) (r : Int32) : Prop := Met l y (z_ws1 y cc nL (some rt)) (z_room k) (va_Pc as (fun U => sg_E g (fun _ => False) U U.heap)) (va_Qi (fun r' (_ : Unit) => r' = r) (fun _ _ => True) (fun _ => False)) 0 0 (fun _ => False)
def sg_MetV (l : Launch) (g : sgG) (y : MethodName) (cc : ByteArray) (nL : Nat) (k : Nat) (as : List Value) : Prop := Met l y (z_ws1 y cc nL none) (z_room k) (va_Pc as (fun U => sg_E g (fun _ => False) U U.heap)) (va_Qv (fun (_ : Unit) => True) (fun _ _ => True) (fun _ => False)) 0 0 (fun _ => False)
theorem sg_met {l : Launch} {g : sgG} {y : MethodName} {cc : ByteArray} {nL : Nat} {rt : FieldType} {k : Nat} {as : List Value} {r : Int32} (hy : plainName y.cls = true) (hn : narrow rt (.int r) = .int r) (hle : (lg_sl as).length ≤ nL) (hbd : ∀ (p : Program) (e : Env) (s : State) (m : MethodId) (args : Array Value) (below : List Frame) (meth : Method) (c : Code) (ls : Array Slot) (Q : State → Prop), sg_Cx p s m args c y.cls cc nL → sg_E g (fun _ => False) s s.heap → lv_has ls nL (lv_args 0 as) → (∀ (H : Heap) (locs : List Loc) (pc : Nat) (ls2 : Array Slot), va_S (fun _ => False) s.heap H locs → decode cc pc = .ok (.ireturn, 1) → W p l e (z_room k) s m args below meth c H locs 0 0 Q (F0 m pc ls2 [.int r])) → W p l e (z_room k) s m args below meth c s.heap [] 0 0 Q (F0 m 0 ls [])) : sg_Met l g y cc nL rt k as r := by
  refine Met.ofW (cc := cc) (maxL := nL) (ret := some rt) hy rfl ?_
  intro p e s m args below meth c s₁ B hml hv
  obtain ⟨rfl, hE⟩ := hv
  have hts := atoms_spec (ws := z_ws1 y cc nL (some rt)) B.pre
  have hl := lv_entry as (n := nL) hle
  rw [lg_entry_eq]
  exact hbd p e s m _ below meth c _ _ ⟨B.exec, B.bytes, hml, findClass_of_methodNamed B.named, fun w hw => hts w (List.mem_cons_of_mem _ hw)⟩ hE hl (fun H locs pc ls2 hS hd => W.zret B.exec B.bytes B.returns hn (fun t ht hW => ⟨⟨r, (), rfl, rfl, trivial⟩, hS.F ht⟩) hS.2.2 hd (hlocks := B.notSynchronized))
theorem sg_metV {l : Launch} {g : sgG} {y : MethodName} {cc : ByteArray} {nL : Nat} {k : Nat} {as : List Value} (hy : plainName y.cls = true) (hle : (lg_sl as).length ≤ nL) (hbd : ∀ (p : Program) (e : Env) (s : State) (m : MethodId) (args : Array Value) (below : List Frame) (meth : Method) (c : Code) (ls : Array Slot) (Q : State → Prop), sg_Cx p s m args c y.cls cc nL → sg_E g (fun _ => False) s s.heap → lv_has ls nL (lv_args 0 as) → (∀ (H : Heap) (locs : List Loc) (pc : Nat) (ls2 : Array Slot), va_S (fun _ => False) s.heap H locs → decode cc pc = .ok (.return_, 1) → W p l e (z_room k) s m args below meth c H locs 0 0 Q (F0 m pc ls2 [])) → W p l e (z_room k) s m args below meth c s.heap [] 0 0 Q (F0 m 0 ls [])) : sg_MetV l g y cc nL k as := by
  refine Met.ofW (cc := cc) (maxL := nL) (ret := none) hy rfl ?_
  intro p e s m args below meth c s₁ B hml hv
  obtain ⟨rfl, hE⟩ := hv
  have hts := atoms_spec (ws := z_ws1 y cc nL none) B.pre
  have hl := lv_entry as (n := nL) hle
  rw [lg_entry_eq]
  exact hbd p e s m _ below meth c _ _ ⟨B.exec, B.bytes, hml, findClass_of_methodNamed B.named, fun w hw => hts w (List.mem_cons_of_mem _ hw)⟩ hE hl (fun H locs pc ls2 hS hd => W.vret B.exec B.bytes B.returns (fun t ht hW => ⟨⟨(), rfl, trivial, trivial⟩, hS.F ht⟩) hS.2.2 hd (hlocks := B.notSynchronized))
section
variable {p : Program} {l : Launch} {e : Env} {R : Room} {s : State} {m : MethodId} {args : Array Value} {below : List Frame} {meth : Method} {c : Code} {H : Heap} {locs : List Loc} {cells slots : Nat} {Q : State → Prop} {own : String} {cc : ByteArray} {nL : Nat} {A : Nat → Prop} {ls : Array Slot} {pc : Nat} {rest : List Value} {g : sgG}
theorem sg_pre {as : List Value} (hE : sg_E g A s s.heap) (hS : va_S A s.heap H locs) : PreS s H (va_Pc as (fun U => sg_E g (fun _ => False) U U.heap)) as := ⟨fun a U f mk z => ⟨z.1, sg_E.same (u := U) (U := U.calling f mk a) rfl z.2⟩, fun U hU hWm => ⟨rfl, by show sg_E g _ U U.heap; rw [hU]; exact ((hE.kept hS.2.1).nar (fun _ h => h.elim)).warm hWm⟩⟩
theorem sg_callS (hC : sg_Cx p s m args c own cc nL) {y : MethodName} {c2 : ByteArray} {nL2 np k ix : Nat} {rt : FieldType} {as : List Value} {r : Int32} (hM : sg_Met l g y c2 nL2 rt k as r) (hcd : Cond.code y c2 nL2 (some rt) ∈ z_tbl) (hini : Cond.initialized y.cls ∈ z_tbl) (hyd : y.cls ≠ "java/lang/invoke/MethodHandle" ∧ y.cls ≠ "java/lang/invoke/VarHandle" ∧ (parseMethodDescriptor y.desc).map (fun d => d.parameters.length) = some np) (hst : Cond.static y ∈ z_tbl) (hlk : Cond.methodLink own ix y ∈ z_tbl) (hro : k + 1 ≤ R.frames ∧ 8 + (nL2 + 11) + 38 * k ≤ R.locals) (hnp : as.length = np) (hE : sg_E g A s s.heap) (hS : va_S A s.heap H locs) (hsz : ls.size = nL) (hw : (rest.map fun v => v.category).sum ≤ 8) (hcs : cells ≤ R.cells ∧ slots ≤ R.slots) (hd : decode cc pc = .ok (.invokestatic ix, 3)) (kk : ∀ (H1 : Heap) (locs1 : List Loc), va_S A s.heap H1 locs1 → H.size ≤ H1.size → (∀ q : Nat, q < H.size → H1[q]? = H[q]?) → W p l e R s m args below meth c H1 locs1 cells slots Q (F0 m (pc + 3) ls (.int r :: rest))) : W p l e R s m args below meth c H locs cells slots Q (F0 m pc ls (as.reverse ++ rest)) := by
  obtain ⟨hx, hb, hml, hown, hts⟩ := hC
  have cw : CallB R s args own ix y c2 nL2 (some rt) (z_ws1 y c2 nL2 (some rt)) (z_room k) 0 0 np := callB_of np hts (z_goodIn hcd) rfl rfl rfl (hts _ hini) (hts _ hlk) hyd hro
  exact va_calli (va_runS (As := as) (rest := rest) ⟨hx, hb, hml, hown, hts⟩ hM ⟨cw, hts _ hst⟩ (sg_pre hE hS) rfl hnp hsz rfl (lv_room hw) hd hcs) hS (fun _ _ h => h.elim) (fun _ h => h.elim) (fun r' u t H1 locs1 ht hvm hp _ hz hk hS1 => by
    have hp : r' = r := hp
    rw [hp]
    exact kk H1 locs1 hS1 hz (fun q h => hk q h (fun z => z)))
theorem sg_callSV (hC : sg_Cx p s m args c own cc nL) {y : MethodName} {c2 : ByteArray} {nL2 np k ix : Nat} {as : List Value} (hM : sg_MetV l g y c2 nL2 k as) (hcd : Cond.code y c2 nL2 none ∈ z_tbl) (hini : Cond.initialized y.cls ∈ z_tbl) (hyd : y.cls ≠ "java/lang/invoke/MethodHandle" ∧ y.cls ≠ "java/lang/invoke/VarHandle" ∧ (parseMethodDescriptor y.desc).map (fun d => d.parameters.length) = some np) (hst : Cond.static y ∈ z_tbl) (hlk : Cond.methodLink own ix y ∈ z_tbl) (hro : k + 1 ≤ R.frames ∧ 8 + (nL2 + 11) + 38 * k ≤ R.locals) (hnp : as.length = np) (hE : sg_E g A s s.heap) (hS : va_S A s.heap H locs) (hsz : ls.size = nL) (hw : (rest.map fun v => v.category).sum ≤ 8) (hcs : cells ≤ R.cells ∧ slots ≤ R.slots) (hd : decode cc pc = .ok (.invokestatic ix, 3)) (kk : ∀ (H1 : Heap) (locs1 : List Loc), va_S A s.heap H1 locs1 → H.size ≤ H1.size → (∀ q : Nat, q < H.size → H1[q]? = H[q]?) → W p l e R s m args below meth c H1 locs1 cells slots Q (F0 m (pc + 3) ls rest)) : W p l e R s m args below meth c H locs cells slots Q (F0 m pc ls (as.reverse ++ rest)) := by
  obtain ⟨hx, hb, hml, hown, hts⟩ := hC
  have cw : CallB R s args own ix y c2 nL2 none (z_ws1 y c2 nL2 none) (z_room k) 0 0 np := callB_of np hts (z_goodIn hcd) rfl rfl rfl (hts _ hini) (hts _ hlk) hyd hro
  exact va_callv (va_runS (As := as) (rest := rest) ⟨hx, hb, hml, hown, hts⟩ hM ⟨cw, hts _ hst⟩ (sg_pre hE hS) rfl hnp hsz rfl (lv_room hw) hd hcs) hS (fun _ _ h => h.elim) (fun _ h => h.elim) (fun u t H1 locs1 ht hvm hp _ hz hk hS1 => kk H1 locs1 hS1 hz (fun q h => hk q h (fun z => z)))
theorem sg_callV (hC : sg_Cx p s m args c own cc nL) {y : MethodName} {c2 : ByteArray} {nL2 np k ix : Nat} {rt : FieldType} {as : List Value} {r : Int32} (hM : sg_Met l g y c2 nL2 rt k (.ref (g.1 0) :: as) r) (hcd : Cond.code y c2 nL2 (some rt) ∈ z_tbl) (hyc : y.cls = "java/lang/String") (hini : Cond.initialized y.cls ∈ z_tbl) (hyd : y.cls ≠ "java/lang/invoke/MethodHandle" ∧ y.cls ≠ "java/lang/invoke/VarHandle" ∧ (parseMethodDescriptor y.desc).map (fun d => d.parameters.length) = some np) (hin : Cond.instanceMethod y ∈ z_tbl) (hse : Cond.selects y.cls y y ∈ z_tbl) (hlk : Cond.methodLink own ix y ∈ z_tbl) (hro : k + 1 ≤ R.frames ∧ 8 + (nL2 + 11) + 38 * k ≤ R.locals) (hnp : as.length = np) (hE : sg_E g A s s.heap) (hS : va_S A s.heap H locs) (hsz : ls.size = nL) (hw : (rest.map fun v => v.category).sum ≤ 8) (hcs : cells ≤ R.cells ∧ slots ≤ R.slots) (hd : decode cc pc = .ok (.invokevirtual ix, 3)) (kk : ∀ (H1 : Heap) (locs1 : List Loc), va_S A s.heap H1 locs1 → H.size ≤ H1.size → (∀ q : Nat, q < H.size → H1[q]? = H[q]?) → W p l e R s m args below meth c H1 locs1 cells slots Q (F0 m (pc + 3) ls (.int r :: rest))) : W p l e R s m args below meth c H locs cells slots Q (F0 m pc ls (as.reverse ++ .ref (g.1 0) :: rest)) := by
  obtain ⟨hx, hb, hml, hown, hts⟩ := hC
  have cw : CallB R s args own ix y c2 nL2 (some rt) (z_ws1 y c2 nL2 (some rt)) (z_room k) 0 0 np := callB_of np hts (z_goodIn hcd) rfl rfl rfl (hts _ hini) (hts _ hlk) hyd hro
  have hp := sg_pre (as := .ref (g.1 0) :: as) hE hS
  have hPre : PreV s H y.cls (g.1 0) (va_Pc (.ref (g.1 0) :: as) (fun U => sg_E g (fun _ => False) U U.heap)) as := ⟨hp.1, by rw [hyc]; exact vk_recv hE.1 (by decide) hS, hp.2⟩
  exact va_calli (va_runV (C := y.cls) (b := g.1 0) (As := as) (rest := rest) ⟨hx, hb, hml, hown, hts⟩ hM ⟨cw, hts _ hin, hts _ hse⟩ hPre rfl hnp hsz rfl (lv_room hw) hd hcs) hS (fun _ _ h => h.elim) (fun _ h => h.elim) (fun r' u t H1 locs1 ht hvm hp _ hz hk hS1 => by
    have hp : r' = r := hp
    rw [hp]
    exact kk H1 locs1 hS1 hz (fun q h => hk q h (fun z => z)))
end
theorem sk_J0_coder_7d493 : Cond.code yJ0_coder_7d493 cJ0_coder_7d493 1 (some .byte) ∈ z_tbl := z_in (i := 228) (by decide +kernel) rfl
theorem sn_J0_coder_7d493 : Cond.initialized yJ0_coder_7d493.cls ∈ z_tbl := z_in (i := 179) (by decide +kernel) rfl
theorem sd_J0_coder_7d493 : yJ0_coder_7d493.cls ≠ "java/lang/invoke/MethodHandle" ∧ yJ0_coder_7d493.cls ≠ "java/lang/invoke/VarHandle" ∧ (parseMethodDescriptor yJ0_coder_7d493.desc).map (fun d => d.parameters.length) = some 0 := ⟨by decide +kernel, by decide +kernel, by decide +kernel⟩
theorem sk_J0_isLatin1_aae02 : Cond.code yJ0_isLatin1_aae02 cJ0_isLatin1_aae02 1 (some .boolean) ∈ z_tbl := z_in (i := 238) (by decide +kernel) rfl
theorem sn_J0_isLatin1_aae02 : Cond.initialized yJ0_isLatin1_aae02.cls ∈ z_tbl := z_in (i := 179) (by decide +kernel) rfl
theorem sd_J0_isLatin1_aae02 : yJ0_isLatin1_aae02.cls ≠ "java/lang/invoke/MethodHandle" ∧ yJ0_isLatin1_aae02.cls ≠ "java/lang/invoke/VarHandle" ∧ (parseMethodDescriptor yJ0_isLatin1_aae02.desc).map (fun d => d.parameters.length) = some 0 := ⟨by decide +kernel, by decide +kernel, by decide +kernel⟩
theorem sk_J0_length_8abf5 : Cond.code yJ0_length_8abf5 cJ0_length_8abf5 1 (some .int) ∈ z_tbl := z_in (i := 224) (by decide +kernel) rfl
theorem sn_J0_length_8abf5 : Cond.initialized yJ0_length_8abf5.cls ∈ z_tbl := z_in (i := 179) (by decide +kernel) rfl
theorem sd_J0_length_8abf5 : yJ0_length_8abf5.cls ≠ "java/lang/invoke/MethodHandle" ∧ yJ0_length_8abf5.cls ≠ "java/lang/invoke/VarHandle" ∧ (parseMethodDescriptor yJ0_length_8abf5.desc).map (fun d => d.parameters.length) = some 0 := ⟨by decide +kernel, by decide +kernel, by decide +kernel⟩
theorem sk_J3_checkIndex_8e157 : Cond.code yJ3_checkIndex_8e157 cJ3_checkIndex_8e157 3 (some .int) ∈ z_tbl := z_in (i := 249) (by decide +kernel) rfl
theorem sn_J3_checkIndex_8e157 : Cond.initialized yJ3_checkIndex_8e157.cls ∈ z_tbl := z_in (i := 181) (by decide +kernel) rfl
theorem sd_J3_checkIndex_8e157 : yJ3_checkIndex_8e157.cls ≠ "java/lang/invoke/MethodHandle" ∧ yJ3_checkIndex_8e157.cls ≠ "java/lang/invoke/VarHandle" ∧ (parseMethodDescriptor yJ3_checkIndex_8e157.desc).map (fun d => d.parameters.length) = some 3 := ⟨by decide +kernel, by decide +kernel, by decide +kernel⟩
theorem sk_J0_checkIndex_df160 : Cond.code yJ0_checkIndex_df160 cJ0_checkIndex_df160 2 (none) ∈ z_tbl := z_in (i := 244) (by decide +kernel) rfl
theorem sn_J0_checkIndex_df160 : Cond.initialized yJ0_checkIndex_df160.cls ∈ z_tbl := z_in (i := 179) (by decide +kernel) rfl
theorem sd_J0_checkIndex_df160 : yJ0_checkIndex_df160.cls ≠ "java/lang/invoke/MethodHandle" ∧ yJ0_checkIndex_df160.cls ≠ "java/lang/invoke/VarHandle" ∧ (parseMethodDescriptor yJ0_checkIndex_df160.desc).map (fun d => d.parameters.length) = some 2 := ⟨by decide +kernel, by decide +kernel, by decide +kernel⟩
theorem sk_J1_charAt_3b067 : Cond.code yJ1_charAt_3b067 cJ1_charAt_3b067 2 (some .char) ∈ z_tbl := z_in (i := 241) (by decide +kernel) rfl
theorem sn_J1_charAt_3b067 : Cond.initialized yJ1_charAt_3b067.cls ∈ z_tbl := z_in (i := 180) (by decide +kernel) rfl
theorem sd_J1_charAt_3b067 : yJ1_charAt_3b067.cls ≠ "java/lang/invoke/MethodHandle" ∧ yJ1_charAt_3b067.cls ≠ "java/lang/invoke/VarHandle" ∧ (parseMethodDescriptor yJ1_charAt_3b067.desc).map (fun d => d.parameters.length) = some 2 := ⟨by decide +kernel, by decide +kernel, by decide +kernel⟩
theorem sk_J0_charAt_5068e : Cond.code yJ0_charAt_5068e cJ0_charAt_5068e 2 (some .char) ∈ z_tbl := z_in (i := 234) (by decide +kernel) rfl
theorem sn_J0_charAt_5068e : Cond.initialized yJ0_charAt_5068e.cls ∈ z_tbl := z_in (i := 179) (by decide +kernel) rfl
theorem sd_J0_charAt_5068e : yJ0_charAt_5068e.cls ≠ "java/lang/invoke/MethodHandle" ∧ yJ0_charAt_5068e.cls ≠ "java/lang/invoke/VarHandle" ∧ (parseMethodDescriptor yJ0_charAt_5068e.desc).map (fun d => d.parameters.length) = some 1 := ⟨by decide +kernel, by decide +kernel, by decide +kernel⟩
theorem sf_38 : Cond.fieldLink RJ0 38 RJ0 "COMPACT_STRINGS" "Z" ∈ z_tbl := z_in (i := 229) (by decide +kernel) rfl
theorem sf_9 : Cond.fieldLink RJ0 9 RJ0 "value" "[B" ∈ z_tbl := z_in (i := 2093) (by decide +kernel) rfl
theorem sf_15 : Cond.fieldLink RJ0 15 RJ0 "coder" "B" ∈ z_tbl := z_in (i := 2094) (by decide +kernel) rfl
theorem sf_1053 : Cond.fieldLink RJ0 1053 RJ3 "SIOOBE_FORMATTER" "Ljava/util/function/BiFunction;" ∈ z_tbl := z_in (i := 245) (by decide +kernel) rfl
theorem sm_coder (l : Launch) (g : sgG) : sg_Met l g yJ0_coder_7d493 cJ0_coder_7d493 1 .byte 0 [.ref (g.1 0)] 0 := by
  refine sg_met (by decide) rfl (Nat.le_of_ble_eq_true rfl) ?_
  intro p e s m args below meth c ls Q hC hE hl hend
  have hl : lv_has ls 1 [(0, .ref (g.1 0))] := hl
  have hS : va_S (fun _ => False) s.heap s.heap [] := va_S.rf
  refine va_gets hC.1 hC.2.1 hE.2.2.1 hS hC.2.2.2.1 (hC.2.2.2.2 _ sf_38) (fun _ h => h) dJ0_coder_7d493_0 ?_
  refine lv_if_eq hC.1 hC.2.1 (tgt := 13) dJ0_coder_7d493_3 rfl (fun h => absurd h (by decide)) (fun _ => ?_)
  refine lv_aload_n hC.1 hC.2.1 dJ0_coder_7d493_6 rfl (lv_at hl 0 rfl) ?_
  refine vk_getf hC.1 hC.2.1 (hE.1.1 0 (by decide)).2.1 hS hC.2.2.2.1 (hC.2.2.2.2 _ sf_15) (fun _ h => h) dJ0_coder_7d493_7 ?_
  refine lv_goto hC.1 hC.2.1 (tgt := 14) dJ0_coder_7d493_10 rfl ?_
  exact hend _ _ _ _ hS dJ0_coder_7d493_14
theorem sm_isL (l : Launch) (g : sgG) : sg_Met l g yJ0_isLatin1_aae02 cJ0_isLatin1_aae02 1 .boolean 0 [.ref (g.1 0)] 1 := by
  refine sg_met (by decide) (by decide) (Nat.le_of_ble_eq_true rfl) ?_
  intro p e s m args below meth c ls Q hC hE hl hend
  have hl : lv_has ls 1 [(0, .ref (g.1 0))] := hl
  have hS : va_S (fun _ => False) s.heap s.heap [] := va_S.rf
  refine va_gets hC.1 hC.2.1 hE.2.2.1 hS hC.2.2.2.1 (hC.2.2.2.2 _ sf_38) (fun _ h => h) dJ0_isLatin1_aae02_0 ?_
  refine lv_if_eq hC.1 hC.2.1 (tgt := 17) dJ0_isLatin1_aae02_3 rfl (fun h => absurd h (by decide)) (fun _ => ?_)
  refine lv_aload_n hC.1 hC.2.1 dJ0_isLatin1_aae02_6 rfl (lv_at hl 0 rfl) ?_
  refine vk_getf hC.1 hC.2.1 (hE.1.1 0 (by decide)).2.1 hS hC.2.2.2.1 (hC.2.2.2.2 _ sf_15) (fun _ h => h) dJ0_isLatin1_aae02_7 ?_
  refine lv_if_ne hC.1 hC.2.1 (tgt := 17) dJ0_isLatin1_aae02_10 rfl (fun h => absurd rfl h) (fun _ => ?_)
  refine lv_iconst hC.1 hC.2.1 (v := 1) dJ0_isLatin1_aae02_13 (by decide) ?_
  refine lv_goto hC.1 hC.2.1 (tgt := 18) dJ0_isLatin1_aae02_14 rfl ?_
  exact hend _ _ _ _ hS dJ0_isLatin1_aae02_18
theorem sm_len (l : Launch) (g : sgG) : sg_Met l g yJ0_length_8abf5 cJ0_length_8abf5 1 .int 1 [.ref (g.1 0)] (Int32.ofNat sgN) := by
  refine sg_met (by decide) rfl (Nat.le_of_ble_eq_true rfl) ?_
  intro p e s m args below meth c ls Q hC hE hl hend
  have hl : lv_has ls 1 [(0, .ref (g.1 0))] := hl
  have hS : va_S (fun _ => False) s.heap s.heap [] := va_S.rf
  refine lv_aload_n hC.1 hC.2.1 dJ0_length_8abf5_0 rfl (lv_at hl 0 rfl) ?_
  refine vk_getf hC.1 hC.2.1 (hE.1.1 0 (by decide)).2.2.1 hS hC.2.2.2.1 (hC.2.2.2.2 _ sf_9) (fun _ h => h) dJ0_length_8abf5_1 ?_
  refine va_tlen hC.1 hC.2.1 (hE.1.1 0 (by decide)).2.2.2 hS (v := Int32.ofNat sgN) rfl dJ0_length_8abf5_4 ?_
  refine lv_aload_n hC.1 hC.2.1 dJ0_length_8abf5_5 rfl (lv_at hl 0 rfl) ?_
  refine sg_callV (as := []) (rest := [.int (Int32.ofNat sgN)]) hC (sm_coder l g) sk_J0_coder_7d493 rfl sn_J0_coder_7d493 sd_J0_coder_7d493 (z_in (i := 226) (by decide +kernel) rfl) (z_in (i := 227) (by decide +kernel) rfl) (z_in (i := 225) (by decide +kernel) rfl) (by decide) rfl hE hS hl.1 (by decide) (by decide) dJ0_length_8abf5_6 (fun H locs hS _ _ => ?_)
  refine lv_ishr hC.1 hC.2.1 dJ0_length_8abf5_9 ?_
  exact hend _ _ _ _ hS dJ0_length_8abf5_10
theorem sm_chk3 (l : Launch) (g : sgG) {i n : Int32} (h0 : ¬ i < 0) (h1 : i < n) : sg_Met l g yJ3_checkIndex_8e157 cJ3_checkIndex_8e157 3 .int 0 [.int i, .int n, va_rf g.2.2] i := by
  refine sg_met (by decide) rfl (by rcases g with ⟨_, _, _ | _⟩ <;> exact Nat.le_of_ble_eq_true rfl) ?_
  intro p e s m args below meth c ls Q hC hE hl hend
  have hl : lv_has ls 3 ((0, .int i) :: (1, .int n) :: lv_args 2 [va_rf g.2.2]) := hl
  have hS : va_S (fun _ => False) s.heap s.heap [] := va_S.rf
  refine lv_iload_n hC.1 hC.2.1 dJ3_checkIndex_8e157_0 rfl (lv_at hl 0 rfl) ?_
  refine lv_if_lt hC.1 hC.2.1 (tgt := 9) dJ3_checkIndex_8e157_1 rfl (fun h => absurd h h0) (fun _ => ?_)
  refine lv_iload_n hC.1 hC.2.1 dJ3_checkIndex_8e157_4 rfl (lv_at hl 0 rfl) ?_
  refine lv_iload_n hC.1 hC.2.1 dJ3_checkIndex_8e157_5 rfl (lv_at hl 1 rfl) ?_
  refine lv_icmp_lt hC.1 hC.2.1 (tgt := 16) dJ3_checkIndex_8e157_6 rfl (fun _ => ?_) (fun h => absurd h1 h)
  refine lv_iload_n hC.1 hC.2.1 dJ3_checkIndex_8e157_16 rfl (lv_at hl 0 rfl) ?_
  exact hend _ _ _ _ hS dJ3_checkIndex_8e157_17
theorem sm_chk2 (l : Launch) (g : sgG) {i n : Int32} (h0 : ¬ i < 0) (h1 : i < n) : sg_MetV l g yJ0_checkIndex_df160 cJ0_checkIndex_df160 2 1 [.int i, .int n] := by
  refine sg_metV (by decide) (Nat.le_of_ble_eq_true rfl) ?_
  intro p e s m args below meth c ls Q hC hE hl hend
  have hl : lv_has ls 2 [(0, .int i), (1, .int n)] := hl
  have hS : va_S (fun _ => False) s.heap s.heap [] := va_S.rf
  refine lv_iload_n hC.1 hC.2.1 dJ0_checkIndex_df160_0 rfl (lv_at hl 0 rfl) ?_
  refine lv_iload_n hC.1 hC.2.1 dJ0_checkIndex_df160_1 rfl (lv_at hl 1 rfl) ?_
  refine va_gets hC.1 hC.2.1 hE.2.2.2 hS hC.2.2.2.1 (hC.2.2.2.2 _ sf_1053) (fun _ h => h) dJ0_checkIndex_df160_2 ?_
  refine sg_callS (as := [.int i, .int n, va_rf g.2.2]) (rest := []) hC (sm_chk3 l g h0 h1) sk_J3_checkIndex_8e157 sn_J3_checkIndex_8e157 sd_J3_checkIndex_8e157 (z_in (i := 248) (by decide +kernel) rfl) (z_in (i := 247) (by decide +kernel) rfl) (by decide) rfl hE hS hl.1 (by decide) (by decide) dJ0_checkIndex_df160_5 (fun H locs hS _ _ => ?_)
  refine lv_pop hC.1 hC.2.1 dJ0_checkIndex_df160_8 rfl ?_
  exact hend _ _ _ _ hS dJ0_checkIndex_df160_9
theorem sg_ix : ∀ j : Nat, j < sgN → (¬ Int32.ofNat j < 0) ∧ Int32.ofNat j < Int32.ofNat sgN ∧ (Int32.ofNat j).toNatClampNeg = j ∧ ((sgB.getD j 0 &&& 255).toUInt32 % 65536).toInt32 = sgB.getD j 0 ∧ narrow .char (.int (sgB.getD j 0)) = .int (sgB.getD j 0) := by
  have h : ∀ j : Nat, j < sgN → (¬ Int32.ofNat j < 0) ∧ Int32.ofNat j < Int32.ofNat sgN ∧ (Int32.ofNat j).toNatClampNeg = j ∧ ((sgB.getD j 0 &&& 255).toUInt32 % 65536).toInt32 = sgB.getD j 0 ∧ ((sgB.getD j 0).toUInt32 % 65536).toInt32 = sgB.getD j 0 := by decide +kernel
  intro j hj
  obtain ⟨a, b, c, d, e⟩ := h j hj
  exact ⟨a, b, c, d, congrArg Value.int e⟩
theorem sm_lch (l : Launch) (g : sgG) {j : Nat} (hj : j < sgN) : sg_Met l g yJ1_charAt_3b067 cJ1_charAt_3b067 2 .char 2 [.ref (g.2.1 0), .int (Int32.ofNat j)] (sgB.getD j 0) := by
  obtain ⟨h0, h1, h2, h3, h4⟩ := sg_ix j hj
  refine sg_met (by decide) h4 (Nat.le_of_ble_eq_true rfl) ?_
  intro p e s m args below meth c ls Q hC hE hl hend
  have hl : lv_has ls 2 [(0, .ref (g.2.1 0)), (1, .int (Int32.ofNat j))] := hl
  have hS : va_S (fun _ => False) s.heap s.heap [] := va_S.rf
  refine lv_iload_n hC.1 hC.2.1 dJ1_charAt_3b067_0 rfl (lv_at hl 1 rfl) ?_
  refine lv_aload_n hC.1 hC.2.1 dJ1_charAt_3b067_1 rfl (lv_at hl 0 rfl) ?_
  refine va_tlen hC.1 hC.2.1 (hE.1.1 0 (by decide)).2.2.2 hS (v := Int32.ofNat sgN) rfl dJ1_charAt_3b067_2 ?_
  refine sg_callSV (as := [.int (Int32.ofNat j), .int (Int32.ofNat sgN)]) (rest := []) hC (sm_chk2 l g h0 h1) sk_J0_checkIndex_df160 sn_J0_checkIndex_df160 sd_J0_checkIndex_df160 (z_in (i := 243) (by decide +kernel) rfl) (z_in (i := 242) (by decide +kernel) rfl) (by decide) rfl hE hS hl.1 (by decide) (by decide) dJ1_charAt_3b067_3 (fun H locs hS _ _ => ?_)
  refine lv_aload_n hC.1 hC.2.1 dJ1_charAt_3b067_6 rfl (lv_at hl 0 rfl) ?_
  refine lv_iload_n hC.1 hC.2.1 dJ1_charAt_3b067_7 rfl (lv_at hl 1 rfl) ?_
  refine va_tb hC.1 hC.2.1 (hE.1.1 0 (by decide)).2.2.2 hS (i := Int32.ofNat j) (v := .int (sgB.getD j 0)) (by rintro (h | h); exact h0 h; rw [h2] at h; exact absurd hj (Nat.not_lt.mpr h)) (by rw [h2]; rfl) dJ1_charAt_3b067_8 ?_
  refine lv_sipush hC.1 hC.2.1 (v := 255) dJ1_charAt_3b067_9 (by decide) ?_
  refine lv_iand hC.1 hC.2.1 dJ1_charAt_3b067_12 ?_
  refine lv_i2c hC.1 hC.2.1 dJ1_charAt_3b067_13 h3 ?_
  exact hend _ _ _ _ hS dJ1_charAt_3b067_14
theorem sm_ch (l : Launch) (g : sgG) {j : Nat} (hj : j < sgN) : sg_Met l g yJ0_charAt_5068e cJ0_charAt_5068e 2 .char 3 [.ref (g.1 0), .int (Int32.ofNat j)] (sgB.getD j 0) := by
  refine sg_met (by decide) (sg_ix j hj).2.2.2.2 (Nat.le_of_ble_eq_true rfl) ?_
  intro p e s m args below meth c ls Q hC hE hl hend
  have hl : lv_has ls 2 [(0, .ref (g.1 0)), (1, .int (Int32.ofNat j))] := hl
  have hS : va_S (fun _ => False) s.heap s.heap [] := va_S.rf
  refine lv_aload_n hC.1 hC.2.1 dJ0_charAt_5068e_0 rfl (lv_at hl 0 rfl) ?_
  refine sg_callV (as := []) (rest := []) hC (sm_isL l g) sk_J0_isLatin1_aae02 rfl sn_J0_isLatin1_aae02 sd_J0_isLatin1_aae02 (z_in (i := 236) (by decide +kernel) rfl) (z_in (i := 237) (by decide +kernel) rfl) (z_in (i := 235) (by decide +kernel) rfl) (by decide) rfl hE hS hl.1 (by decide) (by decide) dJ0_charAt_5068e_1 (fun H locs hS _ _ => ?_)
  refine lv_if_eq hC.1 hC.2.1 (tgt := 16) dJ0_charAt_5068e_4 rfl (fun h => absurd h (by decide)) (fun _ => ?_)
  refine lv_aload_n hC.1 hC.2.1 dJ0_charAt_5068e_7 rfl (lv_at hl 0 rfl) ?_
  refine vk_getf hC.1 hC.2.1 (hE.1.1 0 (by decide)).2.2.1 hS hC.2.2.2.1 (hC.2.2.2.2 _ sf_9) (fun _ h => h) dJ0_charAt_5068e_8 ?_
  refine lv_iload_n hC.1 hC.2.1 dJ0_charAt_5068e_11 rfl (lv_at hl 1 rfl) ?_
  refine sg_callS (as := [.ref (g.2.1 0), .int (Int32.ofNat j)]) (rest := []) hC (sm_lch l g hj) sk_J1_charAt_3b067 sn_J1_charAt_3b067 sd_J1_charAt_3b067 (z_in (i := 240) (by decide +kernel) rfl) (z_in (i := 239) (by decide +kernel) rfl) (by decide) rfl hE hS hl.1 (by decide) (by decide) dJ0_charAt_5068e_12 (fun H locs hS _ _ => ?_)
  exact hend _ _ _ _ hS dJ0_charAt_5068e_15
end
