section
/-! ===== constructors: stretches that all of them have ===== -/
def ct_Cx (p : Program) (s : State) (m : MethodId) (args : Array Value) (meth : Method) (c : Code) (own : String) (cc : ByteArray) (nL : Nat) : Prop := p.tables.exec = Jvm.exec ∧ c.code = cc ∧ c.maxLocals = nL ∧ s.vm.findClass own = some m.cls ∧ (∀ w ∈ z_tbl, w.before args s = true) ∧ meth.name = "<init>" ∧ z_Nn s
/-- the world on the way -/
def ct_R (D : va_G) (A : Nat → Prop) (s : State) (ws : va_W) (tys : List (ClassId × FieldType)) (H : Heap) (locs : List Loc) : Prop := va_P D vwCl ws H ∧ va_D A ws ∧ va_S A s.heap H locs ∧ va_K D vwCl tys s
/-- a field of the class that is made -/
def ct_Fl (own : String) (ix t k : Nat) (C : String) (T : u_T) (N : Nat) (ty0 : Nat → FieldType) : Prop := vwCl[t]? = some (C, T, N) ∧ (∀ w ∈ u_ws C T N, w ∈ z_tbl) ∧ k < N ∧ Cond.fieldLink own ix (T k).1 (T k).2.1 (T k).2.2.1 ∈ z_tbl ∧ (T k).1 = own ∧ (∀ k, k < N → parseFieldDescriptor (T k).2.2.1 = some (ty0 k)) ∧ ∀ a, a < N → ∀ b, b < N → a ≠ b → (T a).2.1 ≠ (T b).2.1
/-- a constructor's contract: h0 is made, all that it holds is new -/
def ct_Met (l : Launch) (D : va_G) (E : (Nat → Prop) → State → Prop) (y : MethodName) (cc : ByteArray) (nL : Nat) (rm : Room) (t : Nat) (df : List Value) (sh : (Nat → Nat) → (Nat → ClassId) → va_W) (ty : (Nat → ClassId) → List (ClassId × FieldType)) (mc ms : Nat) : Prop := ∀ (h0 sz : Nat), Met l y (z_ws1 y cc nL none) rm (va_Pc [.ref h0] (fun U => U.heap.size = sz ∧ va_P D vwCl [(h0, .inr (t, df))] U.heap ∧ (va_K D vwCl [] U ∧ z_Nn U ∧ E (va_A [(h0, .inr (t, df))] sz) U) ∧ va_D (fun _ => True) [(h0, .inr (t, df))])) (va_Qv (fun u : (Nat → Nat) × (Nat → ClassId) => u.1 0 = h0) (fun u t' => va_P D vwCl (sh u.1 u.2) t'.heap ∧ va_K D vwCl (ty u.2) t' ∧ va_D (va_A [(h0, .inr (t, df))] sz) (sh u.1 u.2)) (va_A [(h0, .inr (t, df))] sz)) mc ms (va_A [(h0, .inr (t, df))] sz)
/-- what a constructor's body does behind the superclass's -/
def ct_Body (l : Launch) (D : va_G) (E : (Nat → Prop) → State → Prop) (own : String) (cc : ByteArray) (nL : Nat) (rm : Room) (t : Nat) (df : List Value) (sh : (Nat → Nat) → (Nat → ClassId) → va_W) (ty : (Nat → ClassId) → List (ClassId × FieldType)) (mc ms : Nat) : Prop := ∀ (p : Program) (e : Env) (s : State) (m : MethodId) (args : Array Value) (below : List Frame) (meth : Method) (c : Code) (A : Nat → Prop) (h0 : Nat) (ls : Array Slot) (Q : State → Prop), ct_Cx p s m args meth c own cc nL → (∀ q, s.heap.size ≤ q → A q) → ct_R D A s [(h0, .inr (t, df))] [] s.heap [] → E A s → lv_has ls nL [(0, .ref h0)] → (∀ (u : (Nat → Nat) × (Nat → ClassId)) (H : Heap) (locs : List Loc) (pc : Nat) (ls2 : Array Slot), u.1 0 = h0 → ct_R D A s (sh u.1 u.2) (ty u.2) H locs → decode cc pc = .ok (.return_, 1) → W p l e rm s m args below meth c H locs mc ms Q (F0 m pc ls2 [])) → W p l e rm s m args below meth c s.heap [] 0 0 Q (F0 m 4 ls [])
theorem ct_oi : Cond.instanceMethod objectInit ∈ z_tbl := z_in (i := 206) (by decide +kernel) rfl
theorem ct_oc : Cond.code objectInit ⟨#[0xb1]⟩ 1 none ∈ z_tbl := z_in (i := 207) (by decide +kernel) rfl
theorem ct_met {l : Launch} {D : va_G} {E : (Nat → Prop) → State → Prop} {y : MethodName} {cc : ByteArray} {nL : Nat} {rm : Room} {t : Nat} {df : List Value} {sh : (Nat → Nat) → (Nat → ClassId) → va_W} {ty : (Nat → ClassId) → List (ClassId × FieldType)} {mc ms i0 : Nat} (hy : plainName y.cls = true) (hyn : y.name = "<init>") (hnL : 1 ≤ nL) (hlk : Cond.methodLink y.cls i0 objectInit ∈ z_tbl) (d0 : decode cc 0 = .ok (.aload_n 0, 1)) (d1 : decode cc 1 = .ok (.invokespecial i0, 3)) (hrf : 1 ≤ rm.frames) (hrl : 12 ≤ rm.locals) (hbd : ct_Body l D E y.cls cc nL rm t df sh ty mc ms) : ct_Met l D E y cc nL rm t df sh ty mc ms := by
  intro h0 sz
  refine Met.ofW (cc := cc) (maxL := nL) (ret := none) hy rfl ?_
  intro p e s m args below meth c s₁ B hml hv
  obtain ⟨rfl, hsz, hP, ⟨hK, hNn, hE⟩, hD0⟩ := hv
  have hts := atoms_spec (ws := z_ws1 y cc nL none) B.pre
  have hts : ∀ w ∈ z_tbl, w.before _ s = true := fun w hw => hts w (List.mem_cons_of_mem _ hw)
  have hown : s.vm.findClass y.cls = some m.cls := findClass_of_methodNamed B.named
  have hin : meth.name = "<init>" := by rw [(name_of_methodNamed B.named B.method).1]; exact hyn
  subst hsz
  have hD := hD0.self (sz := s.heap.size)
  have hl := lv_entry ([.ref h0]) (n := nL) hnL
  rw [lg_entry_eq]
  generalize (lg_sl ([.ref h0]) ++ List.replicate (nL - (lg_sl ([.ref h0])).length) Slot.unset).toArray = ls at hl ⊢
  have hl : lv_has ls nL [(0, .ref h0)] := hl
  refine lv_aload_n B.exec B.bytes d0 rfl (lv_at hl 0 rfl) ?_
  refine W.objInit B.exec B.bytes hown (hts _ hlk) (hts _ ct_oi) (hts _ ct_oc) rfl (by rw [hml]; exact hl.1) rfl d1 hrf hrl ?_
  refine W.eq (g2 := F0 m 4 ls []) rfl ?_
  exact hbd p e s m _ below meth c _ h0 ls _ ⟨B.exec, B.bytes, hml, hown, hts, hin, hNn⟩ (fun q h => Or.inr h) ⟨hP, hD, va_S.rf, hK⟩ hE hl (fun u H locs pc ls2 hu hR hd => W.vret B.exec B.bytes B.returns (fun t ht hW => ⟨⟨u, rfl, hu, by rw [ht]; exact hR.1, va_K.moved hW.alike hR.2.2.2, hR.2.1⟩, hR.2.2.1.F ht⟩) hR.2.2.1.2.2 hd (hlocks := B.notSynchronized))
theorem ct_i0 : defaultValue .int = Value.int (Int32.ofInt 0) := congrArg Value.int (by decide)
theorem ct_b0 : defaultValue .boolean = Value.int (Int32.ofInt 0) := congrArg Value.int (by decide)
theorem ct_j0 : defaultValue .long = Value.long (Int64.ofInt 0) := congrArg Value.long (by decide)
abbrev ct_I (N : Nat) (l : List Int) : vp_A := (N, .inl (fun j => Int32.ofInt (l.getD j 0)))
abbrev ct_J (N : Nat) (l : List Int) : vp_A := (N, .inr (.inl (fun j => Int64.ofInt (l.getD j 0))))
theorem ct_aI (N : Nat) : ∀ cA : ClassId, vp_cell cA (ct_I N []) = arrV cA N (fun _ => defaultValue .int) := fun cA => congrArg (arrV cA N) (funext fun _ => ct_i0.symm)
theorem ct_aZ (N : Nat) : ∀ cA : ClassId, vp_cell cA (ct_I N []) = arrV cA N (fun _ => defaultValue .boolean) := fun cA => congrArg (arrV cA N) (funext fun _ => ct_b0.symm)
theorem ct_aJ (N : Nat) : ∀ cA : ClassId, vp_cell cA (ct_J N []) = arrV cA N (fun _ => defaultValue .long) := fun cA => congrArg (arrV cA N) (funext fun _ => ct_j0.symm)
theorem ct_hI : Cond.arrayClass (newarray.typeOf .int) ∈ z_tbl := z_in (i := 316) (by decide +kernel) rfl
theorem ct_hZ : Cond.arrayClass (newarray.typeOf .boolean) ∈ z_tbl := z_in (i := 463) (by decide +kernel) rfl
theorem ct_hJ : Cond.arrayClass (newarray.typeOf .long) ∈ z_tbl := z_in (i := 654) (by decide +kernel) rfl
theorem ct_rng {ws : va_W} {q : Nat × va_E} : (List.range ws.length).map (fun i => (ws ++ [q])[i]?) = ws.map some := by
  apply List.ext_getElem?
  intro i
  rw [List.getElem?_map, List.getElem?_map]
  by_cases h : i < ws.length
  · rw [List.getElem?_range h]
    show some ((ws ++ [q])[i]?) = _
    rw [List.getElem?_append_left h, List.getElem?_eq_getElem h]
    rfl
  · rw [List.getElem?_eq_none (by simp; omega), List.getElem?_eq_none (by omega)]
    rfl
theorem ct_nd : ∀ n : Nat, va_nd (List.range n) = true := by
  have key : ∀ l : List Nat, l.Nodup → va_nd l = true := by
    intro l
    induction l with
    | nil => intro _; rfl
    | cons a l ih =>
      intro h
      have h2 := List.nodup_cons.mp h
      show (decide (a ∉ l) && va_nd l) = true
      rw [ih h2.2, decide_eq_true h2.1]
      rfl
  exact fun n => key _ List.nodup_range
section
variable {p : Program} {l : Launch} {e : Env} {R : Room} {s : State} {m : MethodId} {args : Array Value} {below : List Frame} {meth : Method} {c : Code} {H : Heap} {locs : List Loc} {cells slots : Nat} {Q : State → Prop} {own : String} {cc : ByteArray} {nL : Nat} {D : va_G} {A : Nat → Prop} {ls : Array Slot} {pc : Nat} {ws : va_W} {tys : List (ClassId × FieldType)} {h0 : Nat} {rest : List Value}
theorem ct_put (hC : ct_Cx p s m args meth c own cc nL) {ix t k N : Nat} {C : String} {T : u_T} {ty0 : Nat → FieldType} (hF : ct_Fl own ix t k C T N ty0) {v : Value} (hn : narrow (ty0 k) v = v) (hfit : fits (ty0 k) v = true) (hR : ct_R D A s ws tys H locs) (oi : Nat) {fs : List Value} (he : ws[oi]? = some (h0, .inr (t, fs))) (hl : k < fs.length) (hdg : decode cc pc = .ok (.putfield ix, 3)) (kk : ∀ (H1 : Heap) (locs1 : List Loc), ct_R D A s (ws.set oi (h0, .inr (t, fs.set k v))) tys H1 locs1 → W p l e R s m args below meth c H1 locs1 cells slots Q (F0 m (pc + 3) ls rest)) : W p l e R s m args below meth c H locs cells slots Q (F0 m pc ls (v :: .ref h0 :: rest)) := by
  obtain ⟨hx, hb, hml, hown, hts, hin2, hNn⟩ := hC
  obtain ⟨hcl, hin, hk, hlk, hdecl, hty, hnm⟩ := hF
  obtain ⟨hP, hD, hS, hK⟩ := hR
  cases hfin : (T k).2.2.2 with
  | false => exact va_put (D := D) (ci := t) hx hb hts hin ty0 hty hnm hown hK hP hD hS oi he hcl k hk (hts _ hlk) (fun _ h => h) hfin (hty k hk) hn hfit hl hdg (fun H1 locs1 p1 p2 p3 => kk H1 locs1 ⟨p1, p2, p3, hK⟩)
  | true => exact va_putF (D := D) (ci := t) hx hb hts hin ty0 hty hnm hown hK hP hD hS oi he hcl k hk (hts _ hlk) (fun _ h => h) hfin hin2 hdecl (hty k hk) hn hfit hl hdg (fun H1 locs1 p1 p2 p3 => kk H1 locs1 ⟨p1, p2, p3, hK⟩)
theorem ct_newa (hC : ct_Cx p s m args meth c own cc nL) {atype : ArrayType} {ty : FieldType} (harr : Cond.arrayClass (newarray.typeOf atype) ∈ z_tbl) (hty : newarray.typeOf atype = ty) (hR : ct_R D A s ws tys H locs) (hA : ∀ q, s.heap.size ≤ q → A q) {n : Int32} {N' : Nat} {a0 : vp_A} (ha : ∀ cA : ClassId, vp_cell cA a0 = arrV cA N' (fun _ => defaultValue ty)) (hn : ¬ n < 0) (hN : n.toNatClampNeg = N') (hbytes : N' * componentBytes ty ≤ 536870912) (hcells : cells + 1 ≤ R.cells) (hslots : slots + N' ≤ R.slots) (hdg : decode cc pc = .ok (.newarray atype, 2)) (kk : ∀ (q : Nat) (cA : ClassId) (H1 : Heap), ct_R D A s (ws ++ [(q, .inl (cA, a0))]) (tys ++ [(cA, ty)]) H1 locs → W p l e R s m args below meth c H1 locs (cells + 1) (slots + N') Q (F0 m (pc + 2) ls (.ref q :: rest))) : W p l e R s m args below meth c H locs cells slots Q (F0 m pc ls (.int n :: rest)) := by
  obtain ⟨hx, hb, hml, hown, hts, hin2, hNn⟩ := hC
  obtain ⟨hP, hD, hS, hK⟩ := hR
  exact va_newa hx hb (hts _ harr) hty hK hP hD hS hA ha hn hN hbytes hcells hslots hdg (fun q cA H1 k1 p1 d1 s1 => kk q cA H1 ⟨p1, d1, s1, k1⟩)
/-- aload_0; a number; putfield -/
theorem ct_set (hC : ct_Cx p s m args meth c own cc nL) {ix t k N : Nat} {C : String} {T : u_T} {ty0 : Nat → FieldType} (hF : ct_Fl own ix t k C T N ty0) {v : Value} (hn : narrow (ty0 k) v = v) (hfit : fits (ty0 k) v = true) (hR : ct_R D A s ws tys H locs) (oi : Nat) {fs : List Value} (he : ws[oi]? = some (h0, .inr (t, fs))) (hl : k < fs.length) (h0l : ls[0]? = some (.val (.ref h0))) (d0 : decode cc pc = .ok (.aload_n 0, 1)) {pc2 : Nat} (ld : ∀ (H : Heap) (locs : List Loc) (rest : List Value), W p l e R s m args below meth c H locs cells slots Q (F0 m pc2 ls (v :: rest)) → W p l e R s m args below meth c H locs cells slots Q (F0 m (pc + 1) ls rest)) (hdg : decode cc pc2 = .ok (.putfield ix, 3)) (kk : ∀ (H1 : Heap) (locs1 : List Loc), ct_R D A s (ws.set oi (h0, .inr (t, fs.set k v))) tys H1 locs1 → W p l e R s m args below meth c H1 locs1 cells slots Q (F0 m (pc2 + 3) ls rest)) : W p l e R s m args below meth c H locs cells slots Q (F0 m pc ls rest) := by
  refine lv_aload_n hC.1 hC.2.1 d0 rfl h0l ?_
  refine ld H locs _ ?_
  exact ct_put hC hF hn hfit hR oi he hl hdg kk
/-- aload_0; a number; newarray; putfield -/
theorem ct_arr (hC : ct_Cx p s m args meth c own cc nL) {ix t k N : Nat} {C : String} {T : u_T} {ty0 : Nat → FieldType} (hF : ct_Fl own ix t k C T N ty0) {atype : ArrayType} {ty : FieldType} (harr : Cond.arrayClass (newarray.typeOf atype) ∈ z_tbl) (hty : newarray.typeOf atype = ty) (hnr : ∀ q : Nat, narrow (ty0 k) (.ref q) = .ref q) (hfr : ∀ q : Nat, fits (ty0 k) (.ref q) = true) (hR : ct_R D A s ws tys H locs) (hA : ∀ q, s.heap.size ≤ q → A q) (oi : Nat) {fs : List Value} (he : ws[oi]? = some (h0, .inr (t, fs))) (hl : k < fs.length) {n : Int32} {N' : Nat} {a0 : vp_A} (ha : ∀ cA : ClassId, vp_cell cA a0 = arrV cA N' (fun _ => defaultValue ty)) (hn : ¬ n < 0) (hN : n.toNatClampNeg = N') (hbytes : N' * componentBytes ty ≤ 536870912) (hcells : cells + 1 ≤ R.cells) (hslots : slots + N' ≤ R.slots) (h0l : ls[0]? = some (.val (.ref h0))) (d0 : decode cc pc = .ok (.aload_n 0, 1)) {pc2 : Nat} (ld : ∀ (H : Heap) (locs : List Loc) (rest : List Value), W p l e R s m args below meth c H locs cells slots Q (F0 m pc2 ls (.int n :: rest)) → W p l e R s m args below meth c H locs cells slots Q (F0 m (pc + 1) ls rest)) (dn : decode cc pc2 = .ok (.newarray atype, 2)) (hdg : decode cc (pc2 + 2) = .ok (.putfield ix, 3)) (kk : ∀ (q : Nat) (cA : ClassId) (H1 : Heap) (locs1 : List Loc), ct_R D A s ((ws ++ [(q, (Sum.inl (cA, a0) : va_E))]).set oi (h0, (Sum.inr (t, fs.set k (.ref q)) : va_E))) (tys ++ [(cA, ty)]) H1 locs1 → W p l e R s m args below meth c H1 locs1 (cells + 1) (slots + N') Q (F0 m (pc2 + 2 + 3) ls rest)) : W p l e R s m args below meth c H locs cells slots Q (F0 m pc ls rest) := by
  refine lv_aload_n hC.1 hC.2.1 d0 rfl h0l ?_
  refine ld H locs _ ?_
  refine ct_newa hC harr hty hR hA ha hn hN hbytes hcells hslots dn (fun q cA H1 hR1 => ?_)
  have hlt : oi < ws.length := (List.getElem?_eq_some_iff.mp he).1
  exact ct_put hC hF (hnr q) (hfr q) hR1 oi (by rw [List.getElem?_append_left hlt]; exact he) hl hdg (fun H2 locs2 hR2 => kk q cA H2 locs2 hR2)
/-- what a constructor's call needs -/
def ct_Cl (own : String) (ic ii : Nat) (y : MethodName) (c2 : ByteArray) (nL2 t N : Nat) (C : String) (T : u_T) (ty0 : Nat → FieldType) (host : String) : Prop := vwCl[t]? = some (C, T, N) ∧ (∀ w ∈ u_ws C T N, w ∈ z_tbl) ∧ (∀ k, k < N → parseFieldDescriptor (T k).2.2.1 = some (ty0 k)) ∧ Cond.classLink own ic C ∈ z_tbl ∧ Cond.instantiable C N ∈ z_tbl ∧ Cond.initialized C ∈ z_tbl ∧ y.cls = C ∧ y.name = "<init>" ∧ Cond.code y c2 nL2 none ∈ z_tbl ∧ (y.cls ≠ "java/lang/invoke/MethodHandle" ∧ y.cls ≠ "java/lang/invoke/VarHandle" ∧ (parseMethodDescriptor y.desc).map (fun d => d.parameters.length) = some 0) ∧ Cond.instanceMethod y ∈ z_tbl ∧ Cond.methodLinkNest own ii y host ∈ z_nst
/-- aload_0; new; dup; invokespecial; putfield -/
theorem ct_obj (hC : ct_Cx p s m args meth c own cc nL) {ix t k N : Nat} {C : String} {T : u_T} {ty0 : Nat → FieldType} (hF : ct_Fl own ix t k C T N ty0) (hnr : ∀ q : Nat, narrow (ty0 k) (.ref q) = .ref q) (hfr : ∀ q : Nat, fits (ty0 k) (.ref q) = true) {ic ii nL2 t2 N2 mc ms : Nat} {y : MethodName} {c2 : ByteArray} {C2 host : String} {T2 : u_T} {ty2 : Nat → FieldType} {rm : Room} {df : List Value} {sh : (Nat → Nat) → (Nat → ClassId) → va_W} {ty : (Nat → ClassId) → List (ClassId × FieldType)} {E2 : (Nat → Prop) → State → Prop} (hM : ct_Met l D E2 y c2 nL2 rm t2 df sh ty mc ms) (hEb : ∀ (A : Nat → Prop) (U : State) g mk a, E2 A U → E2 A (U.calling g mk a)) (hEs : ∀ (A2 : Nat → Prop) (H1 : Heap) (U : State), va_S A s.heap H1 locs → U.heap = H1 → s.WarmedH U.vm → (∀ z, A2 z → A z) → E2 A2 U) (hcl : ct_Cl own ic ii y c2 nL2 t2 N2 C2 T2 ty2 host) (hdf : ∀ j, j < N2 → defaultValue (ty2 j) = vp_V df j) (hrc : rm.cells = mc) (hrs : rm.slots = ms) (hrf : rm.frames + 1 ≤ R.frames) (hrl : 8 + (nL2 + 11) + rm.locals ≤ R.locals)
    (hR : ct_R D A s ws tys H locs) (hA : ∀ q, s.heap.size ≤ q → A q) (oi : Nat) {fs : List Value} (he : ws[oi]? = some (h0, .inr (t, fs))) (hl : k < fs.length) (hcells : cells + 1 + mc ≤ R.cells) (hslots : slots + N2 + ms ≤ R.slots) (hsz : ls.size = nL) (h0l : ls[0]? = some (.val (.ref h0))) (d0 : decode cc pc = .ok (.aload_n 0, 1)) (d1 : decode cc (pc + 1) = .ok (.new ic, 3)) (d2 : decode cc (pc + 1 + 3) = .ok (.dup, 1)) (d3 : decode cc (pc + 1 + 3 + 1) = .ok (.invokespecial ii, 3)) (d4 : decode cc (pc + 1 + 3 + 1 + 3) = .ok (.putfield ix, 3))
    (kk : ∀ (u : (Nat → Nat) × (Nat → ClassId)) (H1 : Heap) (locs1 : List Loc), ct_R D A s ((ws ++ sh u.1 u.2).set oi (h0, (Sum.inr (t, fs.set k (.ref (u.1 0))) : va_E))) (tys ++ ty u.2) H1 locs1 → W p l e R s m args below meth c H1 locs1 (cells + 1 + mc) (slots + N2 + ms) Q (F0 m (pc + 1 + 3 + 1 + 3 + 3) ls [])) : W p l e R s m args below meth c H locs cells slots Q (F0 m pc ls []) := by
  have hC0 := hC
  obtain ⟨hx, hb, hml, hown, hts, hin2, hNn⟩ := hC
  obtain ⟨hcl0, hin0, hty0, hlk0, hins, hini, hyC, hyn, hcode, hyd, hinst, hnest⟩ := hcl
  obtain ⟨hP, hD, hS, hK⟩ := hR
  have hlt : oi < ws.length := (List.getElem?_eq_some_iff.mp he).1
  refine lv_aload_n hx hb d0 rfl h0l ?_
  refine va_new (ci := t2) (fs := df) (C := C2) (T := T2) (N := N2) hx hb hts hin0 ty2 hty0 hown (hts _ hlk0) (hts _ hins) (hts _ hini) hK hP hD hS hA hcl0 hdf (by omega) (by omega) d1 (fun q H1 hP1 hD1 hS1 => ?_)
  refine lv_dup hx hb d2 rfl ?_
  have hq : (ws ++ [(q, Sum.inr (t2, df))])[ws.length]? = some (q, Sum.inr (t2, df)) := by rw [List.getElem?_append_right (Nat.le_refl _), Nat.sub_self]; rfl
  have hsel : [ws.length].map (fun i => (ws ++ [(q, (Sum.inr (t2, df) : va_E))])[i]?) = [(q, (Sum.inr (t2, df) : va_E))].map some := by
    show [(ws ++ [(q, (Sum.inr (t2, df) : va_E))])[ws.length]?] = _
    rw [hq]; rfl
  have hPc : va_P D vwCl [(q, .inr (t2, df))] H1 := fun k x hk => by
    have hz : k < 1 := (List.getElem?_eq_some_iff.mp hk).1
    rw [show k = 0 by omega] at hk
    cases hk
    exact hP1 ws.length _ hq
  have hDc : va_D (fun _ => True) [(q, (Sum.inr (t2, df) : va_E))] := ⟨fun i j a b h1 h2 _ => by
    have z1 : i < 1 := (List.getElem?_eq_some_iff.mp h1).1
    have z2 : j < 1 := (List.getElem?_eq_some_iff.mp h2).1
    omega, fun _ _ _ => trivial⟩
  have hFc := va_free (wc := [(q, .inr (t2, df))]) hD1 hS1 hA [ws.length] hsel
  have cw : va_CN R s args own ii y host c2 nL2 none (z_ws1 y c2 nL2 none) rm mc ms 0 := ⟨⟨hrc, hrs, hrf, hrl, pay_in hts (z_goodIn hcode), List.mem_cons_self⟩, hts _ hcode, by rw [hyC]; exact hts _ hini, ⟨hyd.1, hyd.2.1⟩, fun sig h => by have h2 := hyd.2.2; rw [h] at h2; exact (Option.some.inj h2).symm, va_Nw.use rfl (hNn _ hnest)⟩
  refine va_callv (va_runIN (As := []) (rest := [.ref q, .ref h0]) ⟨hx, hb, hml, hown, hts⟩ (hM q H1.size) ⟨cw, hyn, hts _ hinst⟩ ⟨fun a U g mk z => by obtain ⟨z0, z1, z2, ⟨z3, z4, z6⟩, z5⟩ := z; exact ⟨z0, z1, z2, ⟨va_K.moved (u := U) (U := U.calling g mk a) (Vm.Alike.refl U.vm) z3, z_Nn.same (u := U) rfl z4, hEb _ U _ _ _ z6⟩, z5⟩, fun U hU hWm => ⟨rfl, by rw [hU], by rw [hU]; exact hPc, ⟨va_K.moved hWm.alike (hK.sub (tys' := []) [] rfl), z_Nn.warm hWm hNn, hEs _ H1 U hS1 hU hWm hFc⟩, hDc⟩⟩ rfl rfl hsz rfl (lv_room (Nat.le_of_ble_eq_true rfl)) d3 ⟨by omega, by omega⟩) hS1 (fun z _ h => hFc z h) hFc (fun u t' H2 locs2 ht hvm hw hB hz1 hk1 hS2 => ?_)
  obtain ⟨hP2, hK2, hD2⟩ := hB
  rw [ht] at hP2
  have hK2 := va_K.moved hvm.symm hK2
  obtain ⟨hP3, hD3⟩ := va_join (wr := ws) (w1 := sh u.1 u.2) hP1 hD1 [ws.length] (List.range ws.length) hsel ct_rng (ct_nd _) (fun i hi h => by
    have h1 := List.mem_range.mp hi
    have h2 := List.mem_singleton.mp h
    omega) hk1 hFc hP2 hD2
  have hw : u.1 0 = q := hw
  have hKj := hK.app hK2
  rw [← hw]
  exact ct_put hC0 hF (hnr _) (hfr _) ⟨hP3, hD3, hS2, hKj⟩ oi (by rw [List.getElem?_append_left hlt]; exact he) hl d4 (fun H4 locs4 hR4 => kk u H4 locs4 hR4)
end
end
