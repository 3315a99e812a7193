section
/-! ===== constructors: arrays by lists, calls that change nothing of theirs ===== -/
theorem va_P.lt {D : va_G} {cl : List vw_C} {ws : va_W} {H : Heap} (h : va_P D cl ws H) {k : Nat} {q : Nat × va_E} (hk : ws[k]? = some q) : q.1 < H.size := by
  have h1 := h k q hk
  obtain ⟨a, e⟩ := q
  cases e with
  | inl e =>
    have h1 : H[a]? = some (vp_cell e.1 e.2) := h1
    exact (Array.getElem?_eq_some_iff.mp h1).1
  | inr e =>
    obtain ⟨r, -, cell, h2, -⟩ := h1
    exact (Array.getElem?_eq_some_iff.mp h2).1
theorem ct_R.kept {D : va_G} {A : Nat → Prop} {s : State} {ws : va_W} {tys : List (ClassId × FieldType)} {H H1 : Heap} {locs locs1 : List Loc} (h : ct_R D A s ws tys H locs) (hk : ∀ q : Nat, q < H.size → H1[q]? = H[q]?) (hS : va_S A s.heap H1 locs1) : ct_R D A s ws tys H1 locs1 := ⟨h.1.kept (fun _ _ hq => hk _ (h.1.lt hq)), h.2.1, hS, h.2.2.2⟩
theorem ct_upd {L : List Int} {i : Nat} {x : Int} (hi : i < L.length) : upd (fun j => Int32.ofInt (L.getD j 0)) i (Int32.ofInt x) = fun j => Int32.ofInt ((L.set i x).getD j 0) := by
  funext j
  show (if j = i then Int32.ofInt x else Int32.ofInt (L.getD j 0)) = Int32.ofInt ((L.set i x).getD j 0)
  rw [List.getD_eq_getElem?_getD, List.getD_eq_getElem?_getD, List.getElem?_set]
  by_cases h : j = i
  · subst h
    rw [if_pos rfl, if_pos rfl, if_pos hi]
    rfl
  · rw [if_neg h, if_neg (fun e => h e.symm)]
theorem ct_rep (N n : Nat) : ct_I N [] = ct_I N (List.replicate n 0) := by
  unfold ct_I
  congr 2
  funext j
  rw [List.getD_eq_getElem?_getD, List.getD_eq_getElem?_getD, List.getElem?_replicate]
  split <;> rfl
section
variable {p : Program} {l : Launch} {e : Env} {R : Room} {s : State} {m : MethodId} {args : Array Value} {below : List Frame} {meth : Method} {c : Code} {H : Heap} {locs : List Loc} {cells slots : Nat} {Q : State → Prop} {own : String} {cc : ByteArray} {nL : Nat} {D : va_G} {A : Nat → Prop} {ls : Array Slot} {pc : Nat} {ws : va_W} {tys : List (ClassId × FieldType)} {rest : List Value}
theorem ct_ild (hC : ct_Cx p s m args meth c own cc nL) (hR : ct_R D A s ws tys H locs) (q0 t0 : Nat) {a N : Nat} {cA : ClassId} {L : List Int} (ha : ws[q0]? = some (a, .inl (cA, ct_I N L))) (ht : tys[t0]? = some (cA, .int)) {iv : Int32} {i : Nat} (hiv : iv.toNatClampNeg = i) (hi0 : ¬ iv < 0) (hi : i < N) (hdg : decode cc pc = .ok (.iaload, 1)) (kk : W p l e R s m args below meth c H locs cells slots Q (F0 m (pc + 1) ls (.int (Int32.ofInt (L.getD i 0)) :: rest))) : W p l e R s m args below meth c H locs cells slots Q (F0 m pc ls (.int iv :: .ref a :: rest)) := by
  subst hiv
  exact va_iald hC.1 hC.2.1 hR.2.2.2 hR.1 q0 t0 ha ht (by rintro (h | h); exact hi0 h; omega) hdg kk
theorem ct_ist (hC : ct_Cx p s m args meth c own cc nL) (hR : ct_R D A s ws tys H locs) (q0 t0 : Nat) {a N : Nat} {cA : ClassId} {L : List Int} (ha : ws[q0]? = some (a, .inl (cA, ct_I N L))) (ht : tys[t0]? = some (cA, .int)) {iv : Int32} {i : Nat} {xv : Int32} {x : Int} (hiv : iv.toNatClampNeg = i) (hi0 : ¬ iv < 0) (hi : i < N) (hL : i < L.length) (hx : xv = Int32.ofInt x) (hdg : decode cc pc = .ok (.iastore, 1)) (kk : ∀ (H1 : Heap) (locs1 : List Loc), ct_R D A s (ws.set q0 (a, (Sum.inl (cA, ct_I N (L.set i x)) : va_E))) tys H1 locs1 → W p l e R s m args below meth c H1 locs1 cells slots Q (F0 m (pc + 1) ls rest)) : W p l e R s m args below meth c H locs cells slots Q (F0 m pc ls (.int xv :: .int iv :: .ref a :: rest)) := by
  subst hiv
  subst hx
  refine va_iast hC.1 hC.2.1 hR.2.2.2 hR.1 hR.2.1 hR.2.2.1 q0 t0 ha ht (by rintro (h | h); exact hi0 h; omega) hdg (fun H1 locs1 p1 p2 p3 => ?_)
  rw [ct_upd hL] at p1 p2
  exact kk H1 locs1 ⟨p1, p2, p3, hR.2.2.2⟩
/-- a static method that needs no world -/
theorem ct_simS (hC : ct_Cx p s m args meth c own cc nL) (hR : ct_R D A s ws tys H locs) (hA : ∀ q, s.heap.size ≤ q → A q) {y : MethodName} {c2 : ByteArray} {nL2 np k ix : Nat} {rt : FieldType} {f : zD} {as : List zV} {v : Int} {M : zM} (hM : z_Sim y c2 nL2 (some rt) k f) (hf : f zLa as M = some ([zI v], M)) (hok : ∀ v ∈ as, z_ok 0 zTy v) (hcd : Cond.code y c2 nL2 (some rt) ∈ z_tbl) (hini : Cond.initialized y.cls ∈ z_tbl) (hyd : y.cls ≠ "java/lang/invoke/MethodHandle" ∧ y.cls ≠ "java/lang/invoke/VarHandle" ∧ (parseMethodDescriptor y.desc).map (fun d => d.parameters.length) = some np) (hst : Cond.static y ∈ z_tbl) (hlk : Cond.methodLink own ix y ∈ z_tbl) (hro : k + 1 ≤ R.frames ∧ 8 + (nL2 + 11) + 38 * k ≤ R.locals) (hnp : as.length = np) (hsz : ls.size = nL) (hw : (rest.map fun v => v.category).sum ≤ 8) (hcs : cells ≤ R.cells ∧ slots ≤ R.slots) (hd : decode cc pc = .ok (.invokestatic ix, 3)) {st0 : List Value} (hst0 : st0 = (as.map (z_cv (fun _ => 0))).reverse ++ rest) (kk : ∀ (H1 : Heap) (locs1 : List Loc), ct_R D A s ws tys H1 locs1 → W p l e R s m args below meth c H1 locs1 cells slots Q (F0 m (pc + 3) ls (.int (Int32.ofInt v) :: rest))) : W p l e R s m args below meth c H locs cells slots Q (F0 m pc ls st0) := by
  have hR0 := hR
  obtain ⟨hx, hb, hml, hown, hts, hin2, hNn⟩ := hC
  obtain ⟨hP, hD, hS, hK⟩ := hR
  have hMet := hM l D H.size (fun _ => 0) (fun _ => 0) 0 zTy zLa as M _ hf hok (fun i hi => absurd hi (Nat.not_lt_zero i))
  have hPre : PreS s H (va_Pc (as.map (z_cv (fun _ => 0))) (fun U => va_P D vwCl (z_ws (fun _ => 0) (fun _ => 0) 0 zTy zLa M) U.heap ∧ va_D (fun q => H.size ≤ q) (z_ws (fun _ => 0) (fun _ => 0) 0 zTy zLa M) ∧ z_Kn D (fun _ => 0) 0 zTy zLa U)) (as.map (z_cv (fun _ => 0))) := ⟨z_blind, fun U hU hWm => ⟨rfl, fun k q hk => (by cases hk), ⟨fun i j a b h => (by cases h), fun i q h => (by cases h)⟩, z_Kn.warm hWm ⟨hK.sub (tys' := []) [] rfl, ⟨fun i hi => absurd hi (Nat.not_lt_zero i), hNn⟩, fun i hi => absurd hi (Nat.not_lt_zero i)⟩⟩⟩
  have cw : CallB R s args own ix y c2 nL2 (some rt) (z_ws1 y c2 nL2 (some rt)) (z_room k) 0 0 np := callB_of np hts (z_goodIn hcd) rfl rfl rfl (hts _ hini) (hts _ hlk) hyd hro
  have hr := va_runS (p := p) (l := l) (e := e) (R := R) (s := s) (m := m) (args := args) (below := below) (meth := meth) (c := c) (H := H) (locs := locs) (cells := cells) (slots := slots) (g := F0 m pc ls st0) (As := as.map (z_cv (fun _ => 0))) (rest := rest) ⟨hx, hb, hml, hown, hts⟩ hMet ⟨cw, hts _ hst⟩ hPre rfl (by rw [List.length_map]; exact hnp) hsz hst0 (lv_room hw) hd hcs
  intro T hT X0
  obtain ⟨v', st₀, t, T', L, h0, X', hL, e1, e2, ⟨hv, -, -, -, -, hz, hk⟩, st⟩ := hr T hT X0
  have hv := Outcome.returned.inj hv
  rw [h0] at hz hk
  have hk2 : ∀ q : Nat, q < H.size → T'.heap[q]? = H[q]? := fun q h => by rw [e1]; exact hk q h (Nat.not_le.mpr h)
  have hS2 : va_S A s.heap T'.heap (locs ++ L) := by
    refine ⟨Nat.le_trans hS.1 (by rw [e1]; exact hz), fun q h1 h2 => ?_, fun q hq => ?_⟩
    · rw [hk2 q (Nat.lt_of_lt_of_le h1 hS.1)]
      exact hS.2.1 q h1 h2
    · rcases List.mem_append.mp hq with h | h
      · exact hS.2.2 q h
      · exact hA _ (Nat.le_trans hS.1 (hL q h))
  obtain ⟨t2, a1, b1⟩ := kk T'.heap (locs ++ L) (hR0.kept hk2 hS2) T' rfl X'
  refine ⟨t2, st t2 ?_, b1⟩
  have e3 : v'.toList ++ rest = .int (Int32.ofInt v) :: rest := by rw [hv]; rfl
  rw [e3]
  exact a1
end
end
