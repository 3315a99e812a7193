section
/-! ===== SaidSoModel(): with the class beside it ===== -/
def z_okB (n : Nat) (τ : Nat → Nat) (k : Nat) (x : Int) : Bool := match k with
  | 0 => decide (-2147483648 ≤ x ∧ x < 2147483648)
  | 1 => decide (-9223372036854775808 ≤ x ∧ x < 9223372036854775808)
  | t + 2 => decide (0 ≤ x ∧ x.toNat < n ∧ τ x.toNat = t)
theorem z_okB_ok {n : Nat} {τ : Nat → Nat} {k : Nat} {x : Int} (h : z_okB n τ k x = true) : z_okk n τ k x := by
  rcases k with _ | _ | k
  · have h : decide (-2147483648 ≤ x ∧ x < 2147483648) = true := h
    have h2 : -2147483648 ≤ x ∧ x < 2147483648 := of_decide_eq_true h
    exact h2
  · have h : decide (-9223372036854775808 ≤ x ∧ x < 9223372036854775808) = true := h
    have h2 : -9223372036854775808 ≤ x ∧ x < 9223372036854775808 := of_decide_eq_true h
    exact h2
  · have h : decide (0 ≤ x ∧ x.toNat < n ∧ τ x.toNat = k) = true := h
    have h2 : 0 ≤ x ∧ x.toNat < n ∧ τ x.toNat = k := of_decide_eq_true h
    exact h2
theorem m0_ob : ∀ i : Nat, i < 117 → zTy i < 13 → ∀ j : Nat, j < (z_fld (zTy i)).length → z_okB 116 zTy ((z_fld (zTy i)).getD j 0) (M0 i j) = true := by decide +kernel
theorem m0_ar : ∀ i : Nat, i < 117 → ¬ zTy i < 13 → ∀ x ∈ M0r.getD i [], 0 ≤ x ∧ x < 2147483648 := by decide +kernel
theorem getD_in {l : List Int} {P : Int → Prop} (h0 : P 0) (h : ∀ x ∈ l, P x) (j : Nat) : P (l.getD j 0) := by
  rw [List.getD_eq_getElem?_getD]
  cases e : l[j]? with
  | none => exact h0
  | some v => exact h v (List.mem_of_getElem? e)
theorem m0_TM : z_TM 116 zTy zLa M0 := by
  intro i hi
  refine ⟨fun ht j k hk => ?_, fun ht j _ => ?_, fun ht j _ => ?_⟩
  · have hl : j < (z_fld (zTy i)).length := (List.getElem?_eq_some_iff.mp hk).1
    have h := m0_ob i (by omega) ht j hl
    rw [List.getD_eq_getElem?_getD, hk] at h
    exact z_okB_ok h
  · have h := getD_in (P := fun x => 0 ≤ x ∧ x < 2147483648) ⟨by decide, by decide⟩ (m0_ar i (by omega) (by omega)) j
    exact ⟨by have := h.1; show (-2147483648 : Int) ≤ (M0r.getD i []).getD j 0; omega, h.2⟩
  · have h := getD_in (P := fun x => 0 ≤ x ∧ x < 2147483648) ⟨by decide, by decide⟩ (m0_ar i (by omega) (by omega)) j
    exact ⟨by have := h.1; show (-9223372036854775808 : Int) ≤ (M0r.getD i []).getD j 0; omega, by have := h.2; show (M0r.getD i []).getD j 0 < (9223372036854775808 : Int); omega⟩
theorem m0_La : ∀ i : Nat, i < 117 → 0 ≤ zLa i ∧ zLa i < 2147483648 := by decide +kernel
/-- two parts of a numbering -/
def al2 {X : Type} (n : Nat) (a b : Nat → X) : Nat → X := fun i => cond (Nat.ble n i) (b (i - n)) (a i)
theorem al2_lt {X : Type} {n i : Nat} {a b : Nat → X} (h : i < n) : al2 n a b i = a i := by
  unfold al2
  cases e : Nat.ble n i with
  | false => rfl
  | true => have := Nat.le_of_ble_eq_true e; omega
theorem al2_ge {X : Type} {n i : Nat} {a b : Nat → X} : al2 n a b (n + i) = b i := by
  unfold al2
  have e : Nat.ble n (n + i) = true := Nat.ble_eq_true_of_le (Nat.le_add_right n i)
  rw [e, Nat.add_sub_cancel_left]
  rfl
set_option maxRecDepth 100000 in
set_option maxHeartbeats 4000000 in
theorem sh_11c (α β : Nat → Nat) (γ δ : Nat → ClassId) : shX11 (al2 84 α β) (al2 84 γ δ) = shX11 α γ := rfl
theorem sh_116 (α β : Nat → Nat) (γ δ : Nat → ClassId) : z_ws (al2 84 α β) (al2 84 γ δ) 116 zTy zLa M0 = z_ws α γ 84 zTy zLa M0 ++ shX12 β δ := by
  have h := z_ws_add (al2 84 α β) (al2 84 γ δ) 84 32 zTy zLa M0
  rw [← sh_12 (al2 84 α β) (al2 84 γ δ), ← sh_11 (al2 84 α β) (al2 84 γ δ), sh_11c, sh_11] at h
  have e1 : (fun i => al2 84 α β (84 + i)) = β := funext fun i => al2_ge
  have e2 : (fun i => al2 84 γ δ (84 + i)) = δ := funext fun i => al2_ge
  rw [e1, e2] at h
  exact h
theorem va_S.mono {A B : Nat → Prop} {H0 H : Heap} {locs : List Loc} (h : va_S A H0 H locs) (hAB : ∀ q, A q → B q) : va_S B H0 H locs := ⟨h.1, fun q a b => h.2.1 q a (fun z => b (hAB q z)), fun q hq => hAB _ (h.2.2 q hq)⟩
def kF : Nat → FieldType := fun t => match t with
  | 14 => .boolean
  | 15 => .long
  | _ => .int
theorem kF13 : kF 13 = .int := rfl
theorem kF14 : kF 14 = .boolean := rfl
theorem kF15 : kF 15 = .long := rfl
theorem kn_map {D : va_G} {γ : Nat → ClassId} {s : State} {L : List (Nat × Nat)} (hK : va_K D vwCl (L.map (fun x => (γ x.1, kF x.2))) s) {i t : Nat} (h : (i, t) ∈ L) : va_K D vwCl [(γ i, kF t)] s := by
  obtain ⟨k, hk⟩ := List.getElem?_of_mem h
  refine hK.sub [k] ?_
  simp [hk]
theorem kn_one {D : va_G} {γ : Nat → ClassId} {s : State} {L : List (Nat × Nat)} (hK : ∀ x ∈ L, va_K D vwCl [(γ x.1, kF x.2)] s) {i T : Nat} (h : 13 ≤ T → (i, T) ∈ L) : (T = 13 → va_K D vwCl [(γ i, .int)] s) ∧ (T = 14 → va_K D vwCl [(γ i, .boolean)] s) ∧ (T = 15 → va_K D vwCl [(γ i, .long)] s) :=
  ⟨fun e => by subst e; exact hK _ (h (by decide)), fun e => by subst e; exact hK _ (h (by decide)), fun e => by subst e; exact hK _ (h (by decide))⟩
def lK12 : List (Nat × Nat) := (1, 13) :: (2, 13) :: (3, 13) :: (4, 13) :: (5, 13) :: (6, 13) :: (7, 13) :: (8, 13) :: (9, 13) :: (10, 13) :: (11, 13) :: (12, 13) :: (13, 14) :: (14, 13) :: (15, 13) :: (16, 13) :: (17, 13) :: (18, 13) :: (19, 13) :: (20, 13) :: (21, 13) :: (22, 13) :: (23, 13) :: (24, 13) :: (25, 13) :: (26, 13) :: (27, 13) :: (28, 13) :: (29, 13) :: (30, 15) :: (31, 15) :: []
def lK11 : List (Nat × Nat) := (3, 13) :: (4, 13) :: (5, 13) :: (6, 13) :: (7, 13) :: (10, 13) :: (11, 13) :: (12, 13) :: (13, 13) :: (14, 13) :: (16, 13) :: (17, 13) :: (18, 13) :: (19, 13) :: (20, 13) :: (22, 14) :: (23, 13) :: (24, 13) :: (25, 13) :: (26, 13) :: (28, 13) :: (29, 13) :: (30, 13) :: (31, 13) :: (32, 13) :: (34, 13) :: (36, 13) :: (38, 13) :: (39, 13) :: (40, 13) :: (41, 13) :: (44, 13) :: (45, 13) :: (46, 13) :: (47, 13) :: (48, 13) :: (50, 13) :: (51, 13) :: (52, 13) :: (53, 13) :: (54, 13) :: (56, 14) :: (57, 13) :: (58, 13) :: (59, 13) :: (60, 13) :: (62, 13) :: (63, 13) :: (64, 13) :: (65, 13) :: (66, 13) :: (68, 13) :: (70, 13) :: (72, 13) :: (73, 13) :: (74, 13) :: (77, 13) :: (78, 15) :: (80, 13) :: (81, 13) :: (82, 13) :: (83, 13) :: []
set_option maxRecDepth 20000 in
set_option maxHeartbeats 2000000 in
theorem ty11_map (γ : Nat → ClassId) : tyX11s γ = lK11.map (fun x => (γ x.1, kF x.2)) := by
  simp only [tyX11s, tyX7s, tyX10s, tyX0s, tyX9s, tyX8s, tyX3s, tyX6s, tyX2s, tyX5s, tyX4s, tyX1s, lK11, List.map_cons, List.map_nil, List.cons_append, List.nil_append, List.append_nil] <;> rfl
theorem kn_app {D : va_G} {cl : List vw_C} {A B : List (ClassId × FieldType)} {s : State} (h : va_K D cl (A ++ B) s) : va_K D cl A s ∧ va_K D cl B s := ⟨⟨h.1, fun k q hk => h.2 k q (by rw [List.getElem?_append_left (List.getElem?_eq_some_iff.mp hk).1]; exact hk)⟩, ⟨h.1, fun k q hk => h.2 (A.length + k) q (by rw [List.getElem?_append_right (Nat.le_add_right _ _), Nat.add_sub_cancel_left]; exact hk)⟩⟩
theorem md_Kall {D : va_G} {δ : Nat → ClassId} {s : State} (hK : va_K D vwCl (tyX12s δ) s) : ∀ x ∈ lK12, va_K D vwCl [(δ x.1, kF x.2)] s := by
  have h31 : va_K D vwCl _ s ∧ va_K D vwCl [(δ 31, .long)] s := kn_app hK
  have h30 : va_K D vwCl _ s ∧ va_K D vwCl [(δ 30, .long)] s := kn_app h31.1
  have h29 : va_K D vwCl _ s ∧ va_K D vwCl [(δ 29, .int)] s := kn_app h30.1
  have h28 : va_K D vwCl _ s ∧ va_K D vwCl [(δ 28, .int)] s := kn_app h29.1
  have h27 : va_K D vwCl _ s ∧ va_K D vwCl [(δ 27, .int)] s := kn_app h28.1
  have h26 : va_K D vwCl _ s ∧ va_K D vwCl [(δ 26, .int)] s := kn_app h27.1
  have h25 : va_K D vwCl _ s ∧ va_K D vwCl [(δ 25, .int)] s := kn_app h26.1
  have h24 : va_K D vwCl _ s ∧ va_K D vwCl [(δ 24, .int)] s := kn_app h25.1
  have h23 : va_K D vwCl _ s ∧ va_K D vwCl [(δ 23, .int)] s := kn_app h24.1
  have h22 : va_K D vwCl _ s ∧ va_K D vwCl [(δ 22, .int)] s := kn_app h23.1
  have h21 : va_K D vwCl _ s ∧ va_K D vwCl [(δ 21, .int)] s := kn_app h22.1
  have h20 : va_K D vwCl _ s ∧ va_K D vwCl [(δ 20, .int)] s := kn_app h21.1
  have h19 : va_K D vwCl _ s ∧ va_K D vwCl [(δ 19, .int)] s := kn_app h20.1
  have h18 : va_K D vwCl _ s ∧ va_K D vwCl [(δ 18, .int)] s := kn_app h19.1
  have h17 : va_K D vwCl _ s ∧ va_K D vwCl [(δ 17, .int)] s := kn_app h18.1
  have h16 : va_K D vwCl _ s ∧ va_K D vwCl [(δ 16, .int)] s := kn_app h17.1
  have h15 : va_K D vwCl _ s ∧ va_K D vwCl [(δ 15, .int)] s := kn_app h16.1
  have h14 : va_K D vwCl _ s ∧ va_K D vwCl [(δ 14, .int)] s := kn_app h15.1
  have h13 : va_K D vwCl _ s ∧ va_K D vwCl [(δ 13, .boolean)] s := kn_app h14.1
  have h12 : va_K D vwCl _ s ∧ va_K D vwCl [(δ 12, .int)] s := kn_app h13.1
  have h11 : va_K D vwCl _ s ∧ va_K D vwCl [(δ 11, .int)] s := kn_app h12.1
  have h10 : va_K D vwCl _ s ∧ va_K D vwCl [(δ 10, .int)] s := kn_app h11.1
  have h9 : va_K D vwCl _ s ∧ va_K D vwCl [(δ 9, .int)] s := kn_app h10.1
  have h8 : va_K D vwCl _ s ∧ va_K D vwCl [(δ 8, .int)] s := kn_app h9.1
  have h7 : va_K D vwCl _ s ∧ va_K D vwCl [(δ 7, .int)] s := kn_app h8.1
  have h6 : va_K D vwCl _ s ∧ va_K D vwCl [(δ 6, .int)] s := kn_app h7.1
  have h5 : va_K D vwCl _ s ∧ va_K D vwCl [(δ 5, .int)] s := kn_app h6.1
  have h4 : va_K D vwCl _ s ∧ va_K D vwCl [(δ 4, .int)] s := kn_app h5.1
  have h3 : va_K D vwCl _ s ∧ va_K D vwCl [(δ 3, .int)] s := kn_app h4.1
  have h2 : va_K D vwCl _ s ∧ va_K D vwCl [(δ 2, .int)] s := kn_app h3.1
  intro x hx
  simp only [lK12, List.mem_cons, List.not_mem_nil, or_false] at hx
  rcases hx with rfl | rfl | rfl | rfl | rfl | rfl | rfl | rfl | rfl | rfl | rfl | rfl | rfl | rfl | rfl | rfl | rfl | rfl | rfl | rfl | rfl | rfl | rfl | rfl | rfl | rfl | rfl | rfl | rfl | rfl | rfl
  · exact h2.1
  · exact h2.2
  · exact h3.2
  · exact h4.2
  · exact h5.2
  · exact h6.2
  · exact h7.2
  · exact h8.2
  · exact h9.2
  · exact h10.2
  · exact h11.2
  · exact h12.2
  · exact h13.2
  · exact h14.2
  · exact h15.2
  · exact h16.2
  · exact h17.2
  · exact h18.2
  · exact h19.2
  · exact h20.2
  · exact h21.2
  · exact h22.2
  · exact h23.2
  · exact h24.2
  · exact h25.2
  · exact h26.2
  · exact h27.2
  · exact h28.2
  · exact h29.2
  · exact h30.2
  · exact h31.2
theorem lK12_in : ∀ i : Nat, i < 32 → 13 ≤ zTy (84 + i) → (i, zTy (84 + i)) ∈ lK12 := by decide +kernel
theorem lK11_in : ∀ i : Nat, i < 84 → 13 ≤ zTy i → (i, zTy i) ∈ lK11 := by decide +kernel
theorem cl_K {D : va_G} {γ : Nat → ClassId} {s : State} (hN : z_Nn s) (hK : va_K D vwCl (tyX11s γ) s) : z_Kn D γ 84 zTy zLa s := by
  rw [ty11_map] at hK
  exact ⟨hK.sub [] rfl, ⟨fun i hi => m0_La i (by omega), hN⟩, fun i hi => kn_one (fun x hx => kn_map hK (i := x.1) (t := x.2) hx) (lK11_in i hi)⟩
theorem md_K {D : va_G} {γ δ : Nat → ClassId} {s : State} (h : z_Kn D γ 84 zTy zLa s) (hK : va_K D vwCl (tyX12s δ) s) : z_Kn D (al2 84 γ δ) 116 zTy zLa s := by
  refine ⟨h.1, ⟨fun i hi => m0_La i (by omega), h.2.1.2⟩, fun i hi => ?_⟩
  by_cases hl : i < 84
  · rw [al2_lt hl]; exact h.2.2 i hl
  · obtain ⟨j, rfl⟩ : ∃ j, i = 84 + j := ⟨i - 84, by omega⟩
    rw [al2_ge]
    exact kn_one (md_Kall hK) (lK12_in j (by omega))
theorem md_ok84 : z_ok 116 zTy (zA 12 84) := ⟨by decide, by decide, by decide⟩
set_option maxHeartbeats 4000000 in
theorem md_met (l : Launch) (D : va_G) (bs h0 sz : Nat) (α : Nat → Nat) (γ : Nat → ClassId) (hbs : bs ≤ sz) : Met l yX12_init (z_ws1 yX12_init cX12_init 1 none) { frames := 2, cells := 31, slots := 2484, locals := 76 } (va_Pc [.ref h0] (fun U => U.heap.size = sz ∧ va_P D vwCl (z_ws α γ 84 zTy zLa M0 ++ [(h0, .inr (12, mdF))]) U.heap ∧ va_D (fun q => bs ≤ q) (z_ws α γ 84 zTy zLa M0 ++ [(h0, .inr (12, mdF))]) ∧ z_Kn D γ 84 zTy zLa U)) (va_Qv (fun u : (Nat → Nat) × (Nat → ClassId) × zM => u.1 0 = h0 ∧ gI u.2.2 ∧ z_TM 116 zTy zLa u.2.2) (fun u t' => va_P D vwCl (z_ws (al2 84 α u.1) (al2 84 γ u.2.1) 116 zTy zLa u.2.2) t'.heap ∧ va_D (fun q => bs ≤ q) (z_ws (al2 84 α u.1) (al2 84 γ u.2.1) 116 zTy zLa u.2.2) ∧ z_Kn D (al2 84 γ u.2.1) 116 zTy zLa t') (fun q => bs ≤ q)) 31 2484 (fun q => bs ≤ q) := by
  refine Met.ofW (cc := cX12_init) (maxL := 1) (ret := none) (by decide) rfl ?_
  intro p e s m args below meth c s₁ B hml hv
  obtain ⟨rfl, hsz, hP, hD, hK⟩ := hv
  have hts := atoms_spec (ws := z_ws1 yX12_init cX12_init 1 none) B.pre
  have hts : ∀ w ∈ z_tbl, w.before _ s = true := fun w hw => hts w (List.mem_cons_of_mem _ hw)
  have hown : s.vm.findClass RX12 = some m.cls := findClass_of_methodNamed B.named
  have hin : meth.name = "<init>" := (name_of_methodNamed B.named B.method).1
  subst hsz
  have hP : va_P D vwCl (z_ws α γ 84 zTy zLa M0 ++ [(h0, .inr (12, mdF))]) s.heap := hP
  have hlen : (z_ws α γ 84 zTy zLa M0).length = 84 := by simp [z_ws]
  have h84 : (z_ws α γ 84 zTy zLa M0 ++ [(h0, (Sum.inr (12, mdF) : va_E))])[84]? = some (h0, .inr (12, mdF)) := by rw [List.getElem?_append_right (by omega), hlen]; rfl
  have hlt : ∀ (k : Nat) (q : Nat × va_E), (z_ws α γ 84 zTy zLa M0)[k]? = some q → k < 84 ∧ (z_ws α γ 84 zTy zLa M0 ++ [(h0, (Sum.inr (12, mdF) : va_E))])[k]? = some q := fun k q hk => by
    have h1 := (List.getElem?_eq_some_iff.mp hk).1
    exact ⟨by omega, by rw [List.getElem?_append_left h1]; exact hk⟩
  have hh0 : bs ≤ h0 := hD.2 84 _ h84
  have hA1 : ∀ q, va_A [(h0, (Sum.inr (12, mdF) : va_E))] s.heap.size q → bs ≤ q := by
    rintro q (⟨k, e1, hk⟩ | h)
    · have : k < 1 := (List.getElem?_eq_some_iff.mp hk).1
      rw [show k = 0 by omega] at hk
      cases hk
      exact hh0
    · omega
  have hnA : ∀ (k : Nat) (q : Nat × va_E), (z_ws α γ 84 zTy zLa M0)[k]? = some q → q.1 < s.heap.size ∧ ¬ va_A [(h0, (Sum.inr (12, mdF) : va_E))] s.heap.size q.1 := fun k q hk => by
    obtain ⟨h1, h2⟩ := hlt k q hk
    have h3 := hP.lt h2
    refine ⟨h3, ?_⟩
    rintro (⟨k', e1, hk'⟩ | h)
    · have : k' < 1 := (List.getElem?_eq_some_iff.mp hk').1
      rw [show k' = 0 by omega] at hk'
      have e2 : h0 = q.1 := by cases hk'; rfl
      have := hD.1 84 k _ _ h84 h2 e2
      omega
    · omega
  have hl := lv_entry ([.ref h0]) (n := 1) (Nat.le_of_ble_eq_true rfl)
  rw [lg_entry_eq]
  generalize (lg_sl ([.ref h0]) ++ List.replicate (1 - (lg_sl ([.ref h0])).length) Slot.unset).toArray = ls at hl ⊢
  have hl : lv_has ls 1 [(0, .ref h0)] := hl
  refine lv_aload_n B.exec B.bytes dX12_init_0 rfl (lv_at hl 0 rfl) ?_
  refine W.objInit B.exec B.bytes hown (hts _ (z_in (i := 1413) (by decide +kernel) rfl)) (hts _ ct_oi) (hts _ ct_oc) rfl (by rw [hml]; exact hl.1) rfl dX12_init_1 (by decide) (Nat.le_of_ble_eq_true rfl) ?_
  refine W.eq (g2 := F0 m 4 ls []) rfl ?_
  refine md_body l D (by decide) (by decide) p e s m _ below meth c (va_A [(h0, (Sum.inr (12, mdF) : va_E))] s.heap.size) h0 ls _ ⟨B.exec, B.bytes, hml, hown, hts, hin, hK.2.1.2⟩ (fun q h => Or.inr h) ⟨fun k q hk => ?_, ⟨fun i j a b h1 h2 _ => ?_, fun k q hk => Or.inl ⟨k, q.2, hk⟩⟩, va_S.rf, hK.1⟩ hl (fun u H locs hu hR => ?_)
  · have : k < 1 := (List.getElem?_eq_some_iff.mp hk).1
    rw [show k = 0 by omega] at hk
    cases hk
    exact hP 84 _ h84
  · have z1 : i < 1 := (List.getElem?_eq_some_iff.mp h1).1
    have z2 : j < 1 := (List.getElem?_eq_some_iff.mp h2).1
    omega
  · obtain ⟨β, δ⟩ := u
    have hu : β 0 = h0 := hu
    subst hu
    obtain ⟨hP2, hD2, hS2, hK2⟩ := hR
    have hPc : va_P D vwCl (z_ws α γ 84 zTy zLa M0) H := va_P.kept (H := s.heap) (fun k q hk => hP k q (hlt k q hk).2) (fun k q hk => hS2.2.1 q.1 (hnA k q hk).1 (hnA k q hk).2)
    have hPa := hPc.app hP2
    have hDc : va_D (fun q => bs ≤ q) (z_ws α γ 84 zTy zLa M0) := ⟨fun i j a b h1 h2 h3 => hD.1 i j a b (hlt i a h1).2 (hlt j b h2).2 h3, fun k q hk => hD.2 k q (hlt k q hk).2⟩
    have hDa : va_D (fun q => bs ≤ q) (z_ws α γ 84 zTy zLa M0 ++ shX12 β δ) := hDc.app (hD2.weaken (fun _ q _ h => hA1 q.1 h)) (fun i j a b h1 h2 h3 => (hnA i a h1).2 (by rw [h3]; exact hD2.2 j b h2))
    rw [← sh_116] at hPa hDa
    obtain ⟨m1, m2, e1, e2, hI⟩ := st_gI
    let X : zX := ((p, l, e, { frames := 2, cells := 31, slots := 2484, locals := 76 }, s), (m, #[Value.ref (β 0)], below, meth, c), (31, 2484, MQ below (va_Qv (fun u : (Nat → Nat) × (Nat → ClassId) × zM => u.1 0 = β 0 ∧ gI u.2.2 ∧ z_TM 116 zTy zLa u.2.2) (fun u t' => va_P D vwCl (z_ws (al2 84 α u.1) (al2 84 γ u.2.1) 116 zTy zLa u.2.2) t'.heap ∧ va_D (fun q => bs ≤ q) (z_ws (al2 84 α u.1) (al2 84 γ u.2.1) 116 zTy zLa u.2.2) ∧ z_Kn D (al2 84 γ u.2.1) 116 zTy zLa t') (fun q => bs ≤ q)) #[Value.ref (β 0)] s 31 2484 (fun q => bs ≤ q)), (D, bs, al2 84 α β, al2 84 γ δ), (116, zTy, zLa), fun _ => False)
    have hC : z_Cx X RX12 cX12_init 1 none 2 := ⟨B.exec, B.bytes, hml, hown, hts, B.notSynchronized, B.returns, md_K hK hK2, ⟨Nat.le_refl _, Nat.le_refl _, Nat.le_refl _, Nat.le_refl _⟩, fun _ h => h.elim⟩
    have hR : z_Rl X M0 H locs := ⟨hPa, hDa, hS2.mono hA1, m0_TM⟩
    have ha : x_ok X (zA 12 84) := md_ok84
    refine lv_aload_n B.exec B.bytes dX12_init_1068 rfl (lv_at hl 0 rfl) ?_
    refine z_callL (X := X) hC zsim_X12_plain ⟨zk_X12_plain, zi_X12, zd_X12_plain, by decide, by decide⟩ zn_X12_plain ze_X12_plain rfl (by decide) (z_in (i := 1414) (by decide +kernel) rfl) dX12_init_1069 (as := []) (rest := []) e1 (fun v hv => by rcases List.mem_cons.mp hv with rfl | h; exact ha; cases h) rfl hR hl.1 (by decide) (fun H1 locs1 hR1 _ => ?_)
    refine lv_aload_n B.exec B.bytes dX12_init_1072 rfl (lv_at hl 0 rfl) ?_
    refine z_callL (X := X) hC zsim_X12_keep ⟨zk_X12_keep, zi_X12, zd_X12_keep, by decide, by decide⟩ zn_X12_keep ze_X12_keep rfl (by decide) (z_in (i := 1418) (by decide +kernel) rfl) dX12_init_1073 (as := []) (rest := []) e2 (fun v hv => by rcases List.mem_cons.mp hv with rfl | h; exact ha; cases h) rfl hR1 hl.1 (by decide) (fun H2 locs2 hR2 _ => ?_)
    exact W.vret B.exec B.bytes B.returns (fun t ht hW => ⟨⟨(β, δ, m2), rfl, ⟨rfl, hI, hR2.2.2.2⟩, by rw [ht]; exact hR2.1, hR2.2.1, z_Kn.warm hW (md_K hK hK2)⟩, hR2.2.2.1.F ht⟩) hR2.2.2.1.2.2 dX12_init_1076 (hlocks := B.notSynchronized)
end
