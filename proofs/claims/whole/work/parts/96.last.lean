section
/-! ===== SaidSoModel(): with the class beside it ===== -/
def z_okB (n : Nat) (τ : Nat → Nat) (k : Nat) (x : Int) : Bool := match k with
  | 0 => decide (-2147483648 ≤ x ∧ x < 2147483648)
  | 1 => decide (-9223372036854775808 ≤ x ∧ x < 9223372036854775808)
  | t + 2 => decide (0 ≤ x ∧ x.toNat < n ∧ τ x.toNat = t)
theorem z_okB_ok {n : Nat} {τ : Nat → Nat} {k : Nat} {x : Int} (h : z_okB n τ k x = true) : z_okk n τ k x := by
  rcases k with _ | _ | k
  · have h : decide (-2147483648 ≤ x ∧ x < 2147483648) = true := h
    have h2 : -2147483648 ≤ x ∧ x < 2147483648 := of_decide_eq_true h
    exact h2
  · have h : decide (-9223372036854775808 ≤ x ∧ x < 9223372036854775808) = true := h
    have h2 : -9223372036854775808 ≤ x ∧ x < 9223372036854775808 := of_decide_eq_true h
    exact h2
  · have h : decide (0 ≤ x ∧ x.toNat < n ∧ τ x.toNat = k) = true := h
    have h2 : 0 ≤ x ∧ x.toNat < n ∧ τ x.toNat = k := of_decide_eq_true h
    exact h2
theorem m0_ob : ∀ i : Nat, i < 117 → zTy i < 13 → ∀ j : Nat, j < (z_fld (zTy i)).length → z_okB 116 zTy ((z_fld (zTy i)).getD j 0) (M0 i j) = true := by decide +kernel
theorem m0_ar : ∀ i : Nat, i < 117 → ¬ zTy i < 13 → ∀ x ∈ M0r.getD i [], 0 ≤ x ∧ x < 2147483648 := by decide +kernel
theorem getD_in {l : List Int} {P : Int → Prop} (h0 : P 0) (h : ∀ x ∈ l, P x) (j : Nat) : P (l.getD j 0) := by
  rw [List.getD_eq_getElem?_getD]
  cases e : l[j]? with
  | none => exact h0
  | some v => exact h v (List.mem_of_getElem? e)
theorem m0_TM : z_TM 116 zTy zLa M0 := by
  intro i hi
  refine ⟨fun ht j k hk => ?_, fun ht j _ => ?_, fun ht j _ => ?_⟩
  · have hl : j < (z_fld (zTy i)).length := (List.getElem?_eq_some_iff.mp hk).1
    have h := m0_ob i (by omega) ht j hl
    rw [List.getD_eq_getElem?_getD, hk] at h
    exact z_okB_ok h
  · have h := getD_in (P := fun x => 0 ≤ x ∧ x < 2147483648) ⟨by decide, by decide⟩ (m0_ar i (by omega) (by omega)) j
    exact ⟨by have := h.1; show (-2147483648 : Int) ≤ (M0r.getD i []).getD j 0; omega, h.2⟩
  · have h := getD_in (P := fun x => 0 ≤ x ∧ x < 2147483648) ⟨by decide, by decide⟩ (m0_ar i (by omega) (by omega)) j
    exact ⟨by have := h.1; show (-9223372036854775808 : Int) ≤ (M0r.getD i []).getD j 0; omega, by have := h.2; show (M0r.getD i []).getD j 0 < (9223372036854775808 : Int); omega⟩
theorem m0_La : ∀ i : Nat, i < 117 → 0 ≤ zLa i ∧ zLa i < 2147483648 := by decide +kernel
/-- two parts of a numbering -/
def al2 {X : Type} (n : Nat) (a b : Nat → X) : Nat → X := fun i => cond (Nat.ble n i) (b (i - n)) (a i)
theorem al2_lt {X : Type} {n i : Nat} {a b : Nat → X} (h : i < n) : al2 n a b i = a i := by
  unfold al2
  cases e : Nat.ble n i with
  | false => rfl
  | true => have := Nat.le_of_ble_eq_true e; omega
theorem al2_ge {X : Type} {n i : Nat} {a b : Nat → X} : al2 n a b (n + i) = b i := by
  unfold al2
  have e : Nat.ble n (n + i) = true := Nat.ble_eq_true_of_le (Nat.le_add_right n i)
  rw [e, Nat.add_sub_cancel_left]
  rfl
set_option maxRecDepth 100000 in
set_option maxHeartbeats 4000000 in
theorem sh_11c (α β : Nat → Nat) (γ δ : Nat → ClassId) : shX11 (al2 84 α β) (al2 84 γ δ) = shX11 α γ := rfl
theorem sh_116 (α β : Nat → Nat) (γ δ : Nat → ClassId) : z_ws (al2 84 α β) (al2 84 γ δ) 116 zTy zLa M0 = z_ws α γ 84 zTy zLa M0 ++ shX12 β δ := by
  have h := z_ws_add (al2 84 α β) (al2 84 γ δ) 84 32 zTy zLa M0
  rw [← sh_12 (al2 84 α β) (al2 84 γ δ), ← sh_11 (al2 84 α β) (al2 84 γ δ), sh_11c, sh_11] at h
  have e1 : (fun i => al2 84 α β (84 + i)) = β := funext fun i => al2_ge
  have e2 : (fun i => al2 84 γ δ (84 + i)) = δ := funext fun i => al2_ge
  rw [e1, e2] at h
  exact h
theorem va_S.mono {A B : Nat → Prop} {H0 H : Heap} {locs : List Loc} (h : va_S A H0 H locs) (hAB : ∀ q, A q → B q) : va_S B H0 H locs := ⟨h.1, fun q a b => h.2.1 q a (fun z => b (hAB q z)), fun q hq => hAB _ (h.2.2 q hq)⟩
def kF : Nat → FieldType := fun t => match t with
  | 14 => .boolean
  | 15 => .long
  | _ => .int
theorem kn_map {D : va_G} {γ : Nat → ClassId} {s : State} {L : List (Nat × Nat)} (hK : va_K D vwCl (L.map (fun x => (γ x.1, kF x.2))) s) {i t : Nat} (h : (i, t) ∈ L) : va_K D vwCl [(γ i, kF t)] s := by
  obtain ⟨k, hk⟩ := List.getElem?_of_mem h
  refine hK.sub [k] ?_
  simp [hk]
theorem kn_one {D : va_G} {γ : Nat → ClassId} {s : State} {L : List (Nat × Nat)} (hK : va_K D vwCl (L.map (fun x => (γ x.1, kF x.2))) s) {i T : Nat} (h : 13 ≤ T → (i, T) ∈ L) : (T = 13 → va_K D vwCl [(γ i, .int)] s) ∧ (T = 14 → va_K D vwCl [(γ i, .boolean)] s) ∧ (T = 15 → va_K D vwCl [(γ i, .long)] s) :=
  ⟨fun e => by subst e; exact kn_map hK (h (by decide)), fun e => by subst e; exact kn_map hK (h (by decide)), fun e => by subst e; exact kn_map hK (h (by decide))⟩
def lK12 : List (Nat × Nat) := (1, 13) :: (2, 13) :: (3, 13) :: (4, 13) :: (5, 13) :: (6, 13) :: (7, 13) :: (8, 13) :: (9, 13) :: (10, 13) :: (11, 13) :: (12, 13) :: (13, 14) :: (14, 13) :: (15, 13) :: (16, 13) :: (17, 13) :: (18, 13) :: (19, 13) :: (20, 13) :: (21, 13) :: (22, 13) :: (23, 13) :: (24, 13) :: (25, 13) :: (26, 13) :: (27, 13) :: (28, 13) :: (29, 13) :: (30, 15) :: (31, 15) :: []
def lK11 : List (Nat × Nat) := (3, 13) :: (4, 13) :: (5, 13) :: (6, 13) :: (7, 13) :: (10, 13) :: (11, 13) :: (12, 13) :: (13, 13) :: (14, 13) :: (16, 13) :: (17, 13) :: (18, 13) :: (19, 13) :: (20, 13) :: (22, 14) :: (23, 13) :: (24, 13) :: (25, 13) :: (26, 13) :: (28, 13) :: (29, 13) :: (30, 13) :: (31, 13) :: (32, 13) :: (34, 13) :: (36, 13) :: (38, 13) :: (39, 13) :: (40, 13) :: (41, 13) :: (44, 13) :: (45, 13) :: (46, 13) :: (47, 13) :: (48, 13) :: (50, 13) :: (51, 13) :: (52, 13) :: (53, 13) :: (54, 13) :: (56, 14) :: (57, 13) :: (58, 13) :: (59, 13) :: (60, 13) :: (62, 13) :: (63, 13) :: (64, 13) :: (65, 13) :: (66, 13) :: (68, 13) :: (70, 13) :: (72, 13) :: (73, 13) :: (74, 13) :: (77, 13) :: (78, 15) :: (80, 13) :: (81, 13) :: (82, 13) :: (83, 13) :: []
set_option maxRecDepth 20000 in
set_option maxHeartbeats 2000000 in
theorem ty12_map (γ : Nat → ClassId) : tyX12s γ = lK12.map (fun x => (γ x.1, kF x.2)) := by
  simp only [tyX12s, lK12, List.map_cons, List.map_nil, List.cons_append, List.nil_append] <;> rfl
set_option maxRecDepth 20000 in
set_option maxHeartbeats 2000000 in
theorem ty11_map (γ : Nat → ClassId) : tyX11s γ = lK11.map (fun x => (γ x.1, kF x.2)) := by
  simp only [tyX11s, tyX7s, tyX10s, tyX0s, tyX9s, tyX8s, tyX3s, tyX6s, tyX2s, tyX5s, tyX4s, tyX1s, lK11, List.map_cons, List.map_nil, List.cons_append, List.nil_append, List.append_nil] <;> rfl
theorem lK12_in : ∀ i : Nat, i < 32 → 13 ≤ zTy (84 + i) → (i, zTy (84 + i)) ∈ lK12 := by decide +kernel
theorem lK11_in : ∀ i : Nat, i < 84 → 13 ≤ zTy i → (i, zTy i) ∈ lK11 := by decide +kernel
theorem cl_K {D : va_G} {γ : Nat → ClassId} {s : State} (hN : z_Nn s) (hK : va_K D vwCl (tyX11s γ) s) : z_Kn D γ 84 zTy zLa s := by
  rw [ty11_map] at hK
  exact ⟨hK.sub [] rfl, ⟨fun i hi => m0_La i (by omega), hN⟩, fun i hi => kn_one hK (lK11_in i hi)⟩
theorem md_K {D : va_G} {γ δ : Nat → ClassId} {s : State} (h : z_Kn D γ 84 zTy zLa s) (hK : va_K D vwCl (tyX12s δ) s) : z_Kn D (al2 84 γ δ) 116 zTy zLa s := by
  rw [ty12_map] at hK
  refine ⟨h.1, ⟨fun i hi => m0_La i (by omega), h.2.1.2⟩, fun i hi => ?_⟩
  by_cases hl : i < 84
  · rw [al2_lt hl]; exact h.2.2 i hl
  · obtain ⟨j, rfl⟩ : ∃ j, i = 84 + j := ⟨i - 84, by omega⟩
    rw [al2_ge]
    exact kn_one hK (lK12_in j (by omega))
theorem md_ok84 : z_ok 116 zTy (zA 12 84) := ⟨by decide, by decide, by decide⟩
set_option maxHeartbeats 4000000 in
theorem md_met (l : Launch) (D : va_G) (bs h0 sz : Nat) (α : Nat → Nat) (γ : Nat → ClassId) (hbs : bs ≤ sz) : Met l yX12_init (z_ws1 yX12_init cX12_init 1 none) { frames := 2, cells := 31, slots := 2484, locals := 76 } (va_Pc [.ref h0] (fun U => U.heap.size = sz ∧ va_P D vwCl (z_ws α γ 84 zTy zLa M0 ++ [(h0, .inr (12, mdF))]) U.heap ∧ va_D (fun q => bs ≤ q) (z_ws α γ 84 zTy zLa M0 ++ [(h0, .inr (12, mdF))]) ∧ z_Kn D γ 84 zTy zLa U)) (va_Qv (fun u : (Nat → Nat) × (Nat → ClassId) × zM => u.1 0 = h0 ∧ gI u.2.2 ∧ z_TM 116 zTy zLa u.2.2) (fun u t' => va_P D vwCl (z_ws (al2 84 α u.1) (al2 84 γ u.2.1) 116 zTy zLa u.2.2) t'.heap ∧ va_D (fun q => bs ≤ q) (z_ws (al2 84 α u.1) (al2 84 γ u.2.1) 116 zTy zLa u.2.2) ∧ z_Kn D (al2 84 γ u.2.1) 116 zTy zLa t') (fun q => bs ≤ q)) 31 2484 (fun q => bs ≤ q) := by
  refine Met.ofW (cc := cX12_init) (maxL := 1) (ret := none) (by decide) rfl ?_
  intro p e s m args below meth c s₁ B hml hv
  obtain ⟨rfl, hsz, hP, hD, hK⟩ := hv
  have hts := atoms_spec (ws := z_ws1 yX12_init cX12_init 1 none) B.pre
  have hts : ∀ w ∈ z_tbl, w.before _ s = true := fun w hw => hts w (List.mem_cons_of_mem _ hw)
  have hown : s.vm.findClass RX12 = some m.cls := findClass_of_methodNamed B.named
  have hin : meth.name = "<init>" := (name_of_methodNamed B.named B.method).1
  subst hsz
  have hP : va_P D vwCl (z_ws α γ 84 zTy zLa M0 ++ [(h0, .inr (12, mdF))]) s.heap := hP
  have hlen : (z_ws α γ 84 zTy zLa M0).length = 84 := by simp [z_ws]
  have h84 : (z_ws α γ 84 zTy zLa M0 ++ [(h0, (Sum.inr (12, mdF) : va_E))])[84]? = some (h0, .inr (12, mdF)) := by rw [List.getElem?_append_right (by omega), hlen]; rfl
  have hlt : ∀ (k : Nat) (q : Nat × va_E), (z_ws α γ 84 zTy zLa M0)[k]? = some q → k < 84 ∧ (z_ws α γ 84 zTy zLa M0 ++ [(h0, (Sum.inr (12, mdF) : va_E))])[k]? = some q := fun k q hk => by
    have h1 := (List.getElem?_eq_some_iff.mp hk).1
    exact ⟨by omega, by rw [List.getElem?_append_left h1]; exact hk⟩
  have hh0 : bs ≤ h0 := hD.2 84 _ h84
  have hA1 : ∀ q, va_A [(h0, (Sum.inr (12, mdF) : va_E))] s.heap.size q → bs ≤ q := by
    rintro q (⟨k, e1, hk⟩ | h)
    · have : k < 1 := (List.getElem?_eq_some_iff.mp hk).1
      rw [show k = 0 by omega] at hk
      cases hk
      exact hh0
    · omega
  have hnA : ∀ (k : Nat) (q : Nat × va_E), (z_ws α γ 84 zTy zLa M0)[k]? = some q → q.1 < s.heap.size ∧ ¬ va_A [(h0, (Sum.inr (12, mdF) : va_E))] s.heap.size q.1 := fun k q hk => by
    obtain ⟨h1, h2⟩ := hlt k q hk
    have h3 := hP.lt h2
    refine ⟨h3, ?_⟩
    rintro (⟨k', e1, hk'⟩ | h)
    · have : k' < 1 := (List.getElem?_eq_some_iff.mp hk').1
      rw [show k' = 0 by omega] at hk'
      have e2 : h0 = q.1 := by cases hk'; rfl
      have := hD.1 84 k _ _ h84 h2 e2
      omega
    · omega
  have hl := lv_entry ([.ref h0]) (n := 1) (Nat.le_of_ble_eq_true rfl)
  rw [lg_entry_eq]
  generalize (lg_sl ([.ref h0]) ++ List.replicate (1 - (lg_sl ([.ref h0])).length) Slot.unset).toArray = ls at hl ⊢
  have hl : lv_has ls 1 [(0, .ref h0)] := hl
  refine lv_aload_n B.exec B.bytes dX12_init_0 rfl (lv_at hl 0 rfl) ?_
  refine W.objInit B.exec B.bytes hown (hts _ (z_in (i := 1413) (by decide +kernel) rfl)) (hts _ ct_oi) (hts _ ct_oc) rfl (by rw [hml]; exact hl.1) rfl dX12_init_1 (by decide) (Nat.le_of_ble_eq_true rfl) ?_
  refine W.eq (g2 := F0 m 4 ls []) rfl ?_
  refine md_body l D (by decide) (by decide) p e s m _ below meth c (va_A [(h0, (Sum.inr (12, mdF) : va_E))] s.heap.size) h0 ls _ ⟨B.exec, B.bytes, hml, hown, hts, hin, hK.2.1.2⟩ (fun q h => Or.inr h) ⟨fun k q hk => ?_, ⟨fun i j a b h1 h2 _ => ?_, fun k q hk => Or.inl ⟨k, q.2, hk⟩⟩, va_S.rf, hK.1⟩ hl (fun u H locs hu hR => ?_)
  · have : k < 1 := (List.getElem?_eq_some_iff.mp hk).1
    rw [show k = 0 by omega] at hk
    cases hk
    exact hP 84 _ h84
  · have z1 : i < 1 := (List.getElem?_eq_some_iff.mp h1).1
    have z2 : j < 1 := (List.getElem?_eq_some_iff.mp h2).1
    omega
  · obtain ⟨β, δ⟩ := u
    have hu : β 0 = h0 := hu
    subst hu
    obtain ⟨hP2, hD2, hS2, hK2⟩ := hR
    have hPc : va_P D vwCl (z_ws α γ 84 zTy zLa M0) H := va_P.kept (H := s.heap) (fun k q hk => hP k q (hlt k q hk).2) (fun k q hk => hS2.2.1 q.1 (hnA k q hk).1 (hnA k q hk).2)
    have hPa := hPc.app hP2
    have hDc : va_D (fun q => bs ≤ q) (z_ws α γ 84 zTy zLa M0) := ⟨fun i j a b h1 h2 h3 => hD.1 i j a b (hlt i a h1).2 (hlt j b h2).2 h3, fun k q hk => hD.2 k q (hlt k q hk).2⟩
    have hDa : va_D (fun q => bs ≤ q) (z_ws α γ 84 zTy zLa M0 ++ shX12 β δ) := hDc.app (hD2.weaken (fun _ q _ h => hA1 q.1 h)) (fun i j a b h1 h2 h3 => (hnA i a h1).2 (by rw [h3]; exact hD2.2 j b h2))
    rw [← sh_116] at hPa hDa
    obtain ⟨m1, m2, e1, e2, hI⟩ := st_gI
    let X : zX := ((p, l, e, { frames := 2, cells := 31, slots := 2484, locals := 76 }, s), (m, #[Value.ref (β 0)], below, meth, c), (31, 2484, MQ below (va_Qv (fun u : (Nat → Nat) × (Nat → ClassId) × zM => u.1 0 = β 0 ∧ gI u.2.2 ∧ z_TM 116 zTy zLa u.2.2) (fun u t' => va_P D vwCl (z_ws (al2 84 α u.1) (al2 84 γ u.2.1) 116 zTy zLa u.2.2) t'.heap ∧ va_D (fun q => bs ≤ q) (z_ws (al2 84 α u.1) (al2 84 γ u.2.1) 116 zTy zLa u.2.2) ∧ z_Kn D (al2 84 γ u.2.1) 116 zTy zLa t') (fun q => bs ≤ q)) #[Value.ref (β 0)] s 31 2484 (fun q => bs ≤ q)), (D, bs, al2 84 α β, al2 84 γ δ), (116, zTy, zLa), fun _ => False)
    have hC : z_Cx X RX12 cX12_init 1 none 2 := ⟨B.exec, B.bytes, hml, hown, hts, B.notSynchronized, B.returns, md_K hK hK2, ⟨Nat.le_refl _, Nat.le_refl _, Nat.le_refl _, Nat.le_refl _⟩, fun _ h => h.elim⟩
    have hR : z_Rl X M0 H locs := ⟨hPa, hDa, hS2.mono hA1, m0_TM⟩
    have ha : x_ok X (zA 12 84) := md_ok84
    refine lv_aload_n B.exec B.bytes dX12_init_1068 rfl (lv_at hl 0 rfl) ?_
    refine z_callL (X := X) hC zsim_X12_plain ⟨zk_X12_plain, zi_X12, zd_X12_plain, by decide, by decide⟩ zn_X12_plain ze_X12_plain rfl (by decide) (z_in (i := 1414) (by decide +kernel) rfl) dX12_init_1069 (as := []) (rest := []) e1 (fun v hv => by rcases List.mem_cons.mp hv with rfl | h; exact ha; cases h) rfl hR hl.1 (by decide) (fun H1 locs1 hR1 _ => ?_)
    refine lv_aload_n B.exec B.bytes dX12_init_1072 rfl (lv_at hl 0 rfl) ?_
    refine z_callL (X := X) hC zsim_X12_keep ⟨zk_X12_keep, zi_X12, zd_X12_keep, by decide, by decide⟩ zn_X12_keep ze_X12_keep rfl (by decide) (z_in (i := 1418) (by decide +kernel) rfl) dX12_init_1073 (as := []) (rest := []) e2 (fun v hv => by rcases List.mem_cons.mp hv with rfl | h; exact ha; cases h) rfl hR1 hl.1 (by decide) (fun H2 locs2 hR2 _ => ?_)
    exact W.vret B.exec B.bytes B.returns (fun t ht hW => ⟨⟨(β, δ, m2), rfl, ⟨rfl, hI, hR2.2.2.2⟩, by rw [ht]; exact hR2.1, hR2.2.1, z_Kn.warm hW (md_K hK hK2)⟩, hR2.2.2.1.F ht⟩) hR2.2.2.1.2.2 dX12_init_1076 (hlocks := B.notSynchronized)
end
section
/-! ===== the law: its start ===== -/
theorem z_fv_eq {n : Nat} {τ : Nat → Nat} {α α' : Nat → Nat} (hα : ∀ i : Nat, i < n → α' i = α i) {k : Nat} {x : Int} (h : z_okk n τ k x) : z_fv α' k x = z_fv α k x := by
  rcases k with _ | _ | k
  · rfl
  · rfl
  · have h2 : 0 ≤ x ∧ x.toNat < n ∧ τ x.toNat = k := h
    show Value.ref (α' x.toNat) = Value.ref (α x.toNat)
    rw [hα _ h2.2.1]
theorem z_cell_eq {n i : Nat} {τ : Nat → Nat} {Λ : Int → Int} {M : zM} {α α' : Nat → Nat} (hα : ∀ i : Nat, i < n → α' i = α i) (hT : z_TM n τ Λ M) (hi : i < n) (hτ : τ i < 16) {row : Int → Int} (hr : row = M i) {cA : ClassId} {len : Nat} : z_cell α' (τ i) len row cA = z_cell α (τ i) len (M i) cA := by
  subst hr
  unfold z_cell
  by_cases h1 : τ i = 13
  · rw [if_pos h1, if_pos h1]
  · rw [if_neg h1, if_neg h1]
    by_cases h2 : τ i = 14
    · rw [if_pos h2, if_pos h2]
    · rw [if_neg h2, if_neg h2]
      by_cases h3 : τ i = 15
      · rw [if_pos h3, if_pos h3]
      · rw [if_neg h3, if_neg h3]
        have ht : τ i < 13 := by omega
        have e : (z_fld (τ i)).mapIdx (fun j k => z_fv α' k (M i j)) = (z_fld (τ i)).mapIdx (fun j k => z_fv α k (M i j)) := by
          apply List.ext_getElem?
          intro j
          rw [List.getElem?_mapIdx, List.getElem?_mapIdx]
          cases e : (z_fld (τ i))[j]? with
          | none => rfl
          | some k =>
            show some (z_fv α' k (M i j)) = some (z_fv α k (M i j))
            rw [z_fv_eq hα ((hT i hi).1 ht j k e)]
        rw [e]
theorem z_ws_grow {n : Nat} {τ : Nat → Nat} {Λ : Int → Int} {M M' : zM} {α α' : Nat → Nat} {γ γ' : Nat → ClassId} (hT : z_TM n τ Λ M) (hτ : ∀ i : Nat, i < n → τ i < 16) (hα : ∀ i : Nat, i < n → α' i = α i) (hγ : ∀ i : Nat, i < n → γ' i = γ i) (hM : ∀ i : Nat, i < n → M' i = M i) : z_ws α' γ' n τ Λ M' = z_ws α γ n τ Λ M := by
  unfold z_ws
  apply List.map_congr_left
  intro i hi
  have hi : i < n := List.mem_range.mp hi
  show (α' i, z_cell α' (τ i) (Λ i).toNat (M' i) (γ' i)) = (α i, z_cell α (τ i) (Λ i).toNat (M i) (γ i))
  rw [hα i hi, hγ i hi, z_cell_eq hα hT hi (hτ i hi) (hM i hi)]
/-- the memory with the law's array beside it -/
def mZ (M : zM) : zM := fun a k => if a = 116 then 0 else M a k
theorem mZ_ne {M : zM} {a : Int} (h : a ≠ 116) : mZ M a = M a := funext fun k => if_neg h
theorem mZ_lt {M : zM} {i : Nat} (h : i < 116) : mZ M i = M i := mZ_ne (by omega)
theorem zTy16 : ∀ i : Nat, i < 117 → zTy i < 16 := by decide +kernel
theorem mZ_ws {α : Nat → Nat} {γ : Nat → ClassId} {M : zM} (hT : z_TM 116 zTy zLa M) (q : Nat) (cA : ClassId) : z_ws (al2 116 α (fun _ => q)) (al2 116 γ (fun _ => cA)) 117 zTy zLa (mZ M) = z_ws α γ 116 zTy zLa M ++ [(q, .inl (cA, ct_J 1 []))] := by
  have h := z_ws_add (al2 116 α (fun _ => q)) (al2 116 γ (fun _ => cA)) 116 1 zTy zLa (mZ M)
  have hg : z_ws (al2 116 α (fun _ => q)) (al2 116 γ (fun _ => cA)) 116 zTy zLa (mZ M) = z_ws α γ 116 zTy zLa M := z_ws_grow hT (fun i hi => zTy16 i (by omega)) (fun i hi => al2_lt hi) (fun i hi => al2_lt hi) (fun i hi => mZ_lt hi)
  rw [hg] at h
  exact h
theorem mZ_TM {M : zM} (hT : z_TM 116 zTy zLa M) : z_TM 117 zTy zLa (mZ M) := by
  intro i hi
  by_cases hl : i < 116
  · rw [mZ_lt hl]
    obtain ⟨h1, h2, h3⟩ := hT i hl
    refine ⟨fun ht j k hk => ?_, h2, h3⟩
    have h := h1 ht j k hk
    rcases k with _ | _ | k
    · exact h
    · exact h
    · have h4 : 0 ≤ M i j ∧ (M i j).toNat < 116 ∧ zTy (M i j).toNat = k := h
      have h5 : 0 ≤ M i j ∧ (M i j).toNat < 117 ∧ zTy (M i j).toNat = k := ⟨h4.1, by omega, h4.2.2⟩
      exact h5
  · have e : i = 116 := by omega
    subst e
    have z : zTy 116 = 15 := rfl
    refine ⟨fun h => ?_, fun h => ?_, fun _ j _ => ?_⟩
    · rw [z] at h; omega
    · rw [z] at h; omega
    · show z_rJ (0 : Int)
      exact ⟨by decide, by decide⟩
theorem mZ_Sm (M : zM) : Sm M (mZ M) := fun a k h => by
  by_cases e : a = 116
  · exact absurd (Or.inr (Or.inl ⟨by omega, by omega⟩)) h
  · rw [mZ_ne e]
theorem gI.sm {M M' : zM} (hs : Sm M M') (h : gI M) : gI M' := by
  obtain ⟨c, V, h1, h2, h3, h4⟩ := h
  exact ⟨c, V, h1.sm hs, h2.sm hs, h3, h4⟩
theorem df12 : ∀ j, j < 66 → defaultValue (tyX12 j) = vp_V mdF j := fun j hj => match j, hj with | 0, _ => rfl | 1, _ => ct_i0 | 2, _ => ct_i0 | 3, _ => rfl | 4, _ => ct_i0 | 5, _ => ct_i0 | 6, _ => ct_i0 | 7, _ => ct_i0 | 8, _ => ct_i0 | 9, _ => ct_i0 | 10, _ => ct_i0 | 11, _ => ct_i0 | 12, _ => ct_i0 | 13, _ => ct_i0 | 14, _ => ct_i0 | 15, _ => ct_i0 | 16, _ => ct_i0 | 17, _ => ct_i0 | 18, _ => ct_i0 | 19, _ => ct_i0 | 20, _ => ct_i0 | 21, _ => rfl | 22, _ => rfl | 23, _ => rfl | 24, _ => rfl | 25, _ => rfl | 26, _ => rfl | 27, _ => rfl | 28, _ => rfl | 29, _ => rfl | 30, _ => rfl | 31, _ => rfl | 32, _ => rfl | 33, _ => rfl | 34, _ => rfl | 35, _ => rfl | 36, _ => rfl | 37, _ => rfl | 38, _ => rfl | 39, _ => rfl | 40, _ => rfl | 41, _ => rfl | 42, _ => rfl | 43, _ => rfl | 44, _ => ct_i0 | 45, _ => ct_i0 | 46, _ => ct_i0 | 47, _ => ct_i0 | 48, _ => ct_i0 | 49, _ => ct_i0 | 50, _ => rfl | 51, _ => rfl | 52, _ => ct_i0 | 53, _ => ct_i0 | 54, _ => ct_i0 | 55, _ => ct_i0 | 56, _ => ct_b0 | 57, _ => ct_b0 | 58, _ => ct_j0 | 59, _ => ct_j0 | 60, _ => rfl | 61, _ => rfl | 62, _ => rfl | 63, _ => rfl | 64, _ => ct_b0 | 65, _ => ct_j0 | _ + 66, h => absurd h (by omega)
theorem df11 : ∀ j, j < 8 → defaultValue (tyX11 j) = vp_V [.null, .null, .int (Int32.ofInt 0), .int (Int32.ofInt 0), .int (Int32.ofInt 0), .null, .null, .null] j := fun j hj => match j, hj with | 0, _ => rfl | 1, _ => rfl | 2, _ => ct_i0 | 3, _ => ct_i0 | 4, _ => ct_i0 | 5, _ => rfl | 6, _ => rfl | 7, _ => rfl | _ + 8, h => absurd h (by omega)
theorem kn_117 {D : va_G} {γ : Nat → ClassId} {s : State} {cA : ClassId} (h : z_Kn D γ 116 zTy zLa s) (hK : va_K D vwCl [(cA, .long)] s) : z_Kn D (al2 116 γ (fun _ => cA)) 117 zTy zLa s := by
  refine ⟨h.1, ⟨fun i hi => m0_La i (by omega), h.2.1.2⟩, fun i hi => ?_⟩
  by_cases hl : i < 116
  · rw [al2_lt hl]; exact h.2.2 i hl
  · have e : i = 116 := by omega
    subst e
    have z : zTy 116 = 15 := rfl
    refine ⟨fun h => ?_, fun h => ?_, fun _ => hK⟩
    · rw [z] at h; omega
    · rw [z] at h; omega
set_option maxHeartbeats 4000000 in
theorem lw_begin {p : Program} {e : Env} {s : State} {m : MethodId} {below : List Frame} {meth : Method} {c : Code} {l : Launch} {b L : Nat} {xs : Nat → Int32} (hL : L ≤ 3072) (C0 : lw_At p s m meth c b L xs) (hgo : ∀ (D : va_G) (α : Nat → Nat) (γ : Nat → ClassId), lw_Kx p l e s m b below meth c D α γ L xs → lw_Hd p l e s m b below meth c D α γ 0 117 7432) : W p l e room_1 s m #[Value.ref b] below meth c s.heap [] 0 0 (lw_Z below #[Value.ref b] s) (entryFrame m ([Value.ref b] : List Value).toArray 7) := by
  obtain ⟨hx, hb, hr, hml, hown, hts0, hX, hbl, hlocks, hgv⟩ := id C0
  have hts : ∀ w ∈ z_tbl, w.before #[Value.ref b] s = true := fun w hw => hts0 w (List.mem_filter.mp hw).1
  have hNn : z_Nn s := fun w hw => va_Nw.of (z_nst_tab hw) (hts0 w (List.mem_filter.mp hw).1)
  have hown : s.vm.findClass RL = some m.cls := hown
  obtain ⟨D, hK⟩ := st_K hts
  obtain ⟨g, hE⟩ := st_E hgv hts0
  have hA : ∀ q : Nat, s.heap.size ≤ q → (fun q : Nat => s.heap.size ≤ q) q := fun _ h => h
  have hl := lv_entry ([.ref b]) (n := 7) (Nat.le_of_ble_eq_true rfl)
  rw [lg_entry_eq]
  generalize (lg_sl ([.ref b]) ++ List.replicate (7 - (lg_sl ([.ref b])).length) Slot.unset).toArray = ls at hl ⊢
  have hl : lv_has ls 7 [(0, .ref b)] := hl
  refine va_new (ws := []) (A := fun q => s.heap.size ≤ q) (H0 := s.heap) (tys := []) (ci := 11) (fs := [.null, .null, .int (Int32.ofInt 0), .int (Int32.ofInt 0), .int (Int32.ofInt 0), .null, .null, .null]) (own := RL) (C := RX11) (T := TX11) (N := 8) hx hb hts z_inX11 tyX11 tyX11_ok hown (hts _ (z_in (i := 200) (by decide +kernel) rfl)) (hts _ (z_in (i := 201) (by decide +kernel) rfl)) (hts _ lwi_X11) hK (fun k x h => by simp at h) ⟨fun i j a b h1 => by simp at h1, fun k q h => by simp at h⟩ va_S.rf hA rfl df11 (by decide) (by decide) dL_law_0 (fun q1 H1 hP1 hD1 hS1 => ?_)
  refine lv_dup hx hb dL_law_3 rfl ?_
  have hP1 : va_P D vwCl [(q1, .inr (11, [.null, .null, .int (Int32.ofInt 0), .int (Int32.ofInt 0), .int (Int32.ofInt 0), .null, .null, .null]))] H1 := hP1
  have hD1 : va_D (fun q => s.heap.size ≤ q) [(q1, (.inr (11, [.null, .null, .int (Int32.ofInt 0), .int (Int32.ofInt 0), .int (Int32.ofInt 0), .null, .null, .null]) : va_E))] := hD1
  have hF1 := va_free (wc := [(q1, .inr (11, [.null, .null, .int (Int32.ofInt 0), .int (Int32.ofInt 0), .int (Int32.ofInt 0), .null, .null, .null]))]) hD1 hS1 hA [0] rfl
  have hT1 : va_D (fun _ => True) [(q1, (.inr (11, [.null, .null, .int (Int32.ofInt 0), .int (Int32.ofInt 0), .int (Int32.ofInt 0), .null, .null, .null]) : va_E))] := hD1.weaken (fun _ _ _ _ => trivial)
  have cw1 : CallB room_1 s #[Value.ref b] RL 17 yX11_init cX11_init 1 none (z_ws1 yX11_init cX11_init 1 none) { frames := 7, cells := 83, slots := 4873, locals := 266 } 83 4873 0 := callB_of 0 hts (z_goodIn (z_in (i := 204) (by decide +kernel) rfl)) rfl rfl rfl (hts _ lwi_X11) (hts _ (z_in (i := 202) (by decide +kernel) rfl)) ⟨by decide +kernel, by decide +kernel, by decide +kernel⟩ ⟨by decide, by decide⟩
  refine va_callv (va_runI (As := []) (rest := [.ref q1]) ⟨hx, hb, hml, hown, hts⟩ (ci_X11 l D g q1 H1.size) ⟨cw1, rfl, (hts _ (z_in (i := 203) (by decide +kernel) rfl))⟩ ⟨fun a U g2 mk z => by obtain ⟨z0, z1, z2, ⟨z3, z4, z6⟩, z5⟩ := z; exact ⟨z0, z1, z2, ⟨va_K.moved (u := U) (U := U.calling g2 mk a) (Vm.Alike.refl U.vm) z3, z_Nn.same (u := U) rfl z4, sg_E.same (u := U) (U := U.calling g2 mk a) rfl z6⟩, z5⟩, fun U hU hWm => ⟨rfl, by rw [hU], by rw [hU]; exact hP1, ⟨va_K.moved hWm.alike hK, z_Nn.warm hWm hNn, by show sg_E g _ U U.heap; rw [hU]; exact ((hE.kept hS1.2.1).nar hF1).warm hWm⟩, hT1⟩⟩ rfl rfl hl.1 rfl (lv_room (Nat.le_of_ble_eq_true rfl)) dL_law_4 ⟨by decide, by decide⟩) hS1 (fun z _ h => hF1 z h) hF1 (fun u t' H2 locs2 ht hvm hw hB hz1 hk1 hS2 => ?_)
  obtain ⟨α, γ⟩ := u
  obtain ⟨hP2, hK2, hD2⟩ := hB
  have hw : α 0 = q1 := hw
  have hP2 : va_P D vwCl (shX11 α γ) t'.heap := hP2
  have hK2 : va_K D vwCl (tyX11s γ) t' := hK2
  have hD2 : va_D _ (shX11 α γ) := hD2
  rw [ht, sh_11] at hP2
  rw [sh_11] at hD2
  have hD2 : va_D (fun q => s.heap.size ≤ q) (z_ws α γ 84 zTy zLa M0) := hD2.weaken (fun _ q _ h => hF1 q.1 h)
  have hKc : z_Kn D γ 84 zTy zLa s := cl_K hNn (va_K.moved hvm.symm hK2)
  refine lv_astore_n (lv' := [(1, .ref q1), (0, .ref b)]) hx hb dL_law_7 rfl hl (by decide) rfl (fun ls hl => ?_)
  refine va_new (A := fun q => s.heap.size ≤ q) (H0 := s.heap) (tys := []) (ci := 12) (fs := mdF) (own := RL) (C := RX12) (T := TX12) (N := 66) hx hb hts z_inX12 tyX12 tyX12_ok hown (hts _ (z_in (i := 1408) (by decide +kernel) rfl)) (hts _ (z_in (i := 1409) (by decide +kernel) rfl)) (hts _ lwi_X12) hK hP2 hD2 hS2 hA rfl df12 (by decide) (by decide) dL_law_8 (fun q2 H3 hP3 hD3 hS3 => ?_)
  refine lv_dup hx hb dL_law_11 rfl ?_
  have cw2 : CallB room_1 s #[Value.ref b] RL 20 yX12_init cX12_init 1 none (z_ws1 yX12_init cX12_init 1 none) { frames := 2, cells := 31, slots := 2484, locals := 76 } 31 2484 0 := callB_of 0 hts (z_goodIn (z_in (i := 1412) (by decide +kernel) rfl)) rfl rfl rfl (hts _ lwi_X12) (hts _ (z_in (i := 1410) (by decide +kernel) rfl)) ⟨by decide +kernel, by decide +kernel, by decide +kernel⟩ ⟨by decide, by decide⟩
  refine va_callv (va_runI (As := []) (rest := [.ref q2]) ⟨hx, hb, hml, hown, hts⟩ (md_met l D s.heap.size q2 H3.size α γ hS3.1) ⟨cw2, rfl, (hts _ (z_in (i := 1411) (by decide +kernel) rfl))⟩ ⟨fun a U g2 mk z => by obtain ⟨z0, z1, z2, z3, z4⟩ := z; exact ⟨z0, z1, z2, z3, z_Kn.same (u := U) rfl z4⟩, fun U hU hWm => ⟨rfl, by rw [hU], by rw [hU]; exact hP3, hD3, z_Kn.warm hWm hKc⟩⟩ rfl rfl hl.1 rfl (lv_room (Nat.le_of_ble_eq_true rfl)) dL_law_12 ⟨by decide, by decide⟩) hS3 (fun z _ h => h) (fun z h => h) (fun u t2 H4 locs4 ht2 hvm2 hw2 hB2 hz2 hk2 hS4 => ?_)
  obtain ⟨β, δ, m2⟩ := u
  obtain ⟨hw2, hI, hT⟩ := hw2
  obtain ⟨hP4, hD4, hK4⟩ := hB2
  have hw2 : β 0 = q2 := hw2
  have hI : gI m2 := hI
  have hT : z_TM 116 zTy zLa m2 := hT
  have hP4 : va_P D vwCl (z_ws (al2 84 α β) (al2 84 γ δ) 116 zTy zLa m2) t2.heap := hP4
  have hD4 : va_D (fun q => s.heap.size ≤ q) (z_ws (al2 84 α β) (al2 84 γ δ) 116 zTy zLa m2) := hD4
  have hK4 : z_Kn D (al2 84 γ δ) 116 zTy zLa t2 := hK4
  have hK4 : z_Kn D (al2 84 γ δ) 116 zTy zLa s := z_Kn.moved0 hvm2.symm hNn hK4
  rw [ht2] at hP4
  refine lv_astore_n (lv' := [(2, .ref q2), (1, .ref q1), (0, .ref b)]) hx hb dL_law_15 rfl hl (by decide) rfl (fun ls hl => ?_)
  refine lv_iconst (v := 1) hx hb dL_law_16 (by decide) ?_
  refine va_newa (a0 := ct_J 1 []) (N' := 1) (ty := .long) (tys := []) hx hb (hts _ ct_hJ) rfl hK hP4 hD4 hS4 hA (ct_aJ 1) (by decide) (by decide) (by decide) (by decide) (by decide) dL_law_17 (fun q3 cA H5 hK5 hP5 hD5 hS5 => ?_)
  refine lv_astore_n (lv' := [(3, .ref q3), (2, .ref q2), (1, .ref q1), (0, .ref b)]) hx hb dL_law_19 rfl hl (by decide) rfl (fun ls hl => ?_)
  refine lv_iconst (v := nI 0) hx hb dL_law_20 (by decide) ?_
  refine lv_istore (lv' := [(4, .int (nI 0)), (3, .ref q3), (2, .ref q2), (1, .ref q1), (0, .ref b)]) hx hb dL_law_21 hl (by decide) rfl (fun ls hl => ?_)
  rw [← mZ_ws hT] at hP5 hD5
  have hK7 : z_Kn D (al2 116 (al2 84 γ δ) (fun _ => cA)) 117 zTy zLa s := kn_117 hK4 hK5
  have hKx : lw_Kx p l e s m b below meth c D (al2 116 (al2 84 α β) (fun _ => q3)) (al2 116 (al2 84 γ δ) (fun _ => cA)) L xs := ⟨fun nc ns h1 h2 => ⟨hx, hb, hml, hown, hts, hlocks, hr, hK7, ⟨h1, h2, Nat.le_of_ble_eq_true rfl, Nat.le_of_ble_eq_true rfl⟩, fun _ h => h.elim⟩, hX, hbl, hL⟩
  have a0 : al2 116 (al2 84 α β) (fun _ => q3) 0 = q1 := by rw [al2_lt (by decide), al2_lt (by decide)]; exact hw
  have a84 : al2 116 (al2 84 α β) (fun _ => q3) 84 = q2 := by rw [al2_lt (by decide)]; exact (al2_ge (n := 84) (i := 0)).trans hw2
  have a116 : al2 116 (al2 84 α β) (fun _ => q3) 116 = q3 := al2_ge (n := 116) (i := 0)
  refine hgo D _ _ hKx (mZ m2) H5 locs4 ls (hI.sm (mZ_Sm m2)) ⟨hP5, hD5, hS5, mZ_TM hT⟩ ?_
  show lv_has ls 7 [(0, .ref b), (1, .ref (al2 116 (al2 84 α β) (fun _ => q3) 0)), (2, .ref (al2 116 (al2 84 α β) (fun _ => q3) 84)), (3, .ref (al2 116 (al2 84 α β) (fun _ => q3) 116)), (4, .int (nI 0))]
  rw [a0, a84, a116]
  exact lv_sub hl [4, 3, 2, 1, 0] rfl
end
section
/-! ===== 'throw new E("text")' where E's own constructor calls its super's by any index ===== -/
section
variable {p : Program} {l : Launch} {e : Env} {R : Room} {s : State} {m₀ : MethodId} {args : Array Value} {below : List Frame} {meth : Method} {c : Code} {U0 : State} {locs : List Loc} {cells slots : Nat}
set_option maxHeartbeats 1000000 in
theorem th_ctor (X : Stand p l e R s m₀ args below meth c U0 locs cells slots) (hexec : p.tables.exec = Jvm.exec) (htr : e.platform.stackTraces = false) {own cls : String} {names : List String} {ic ix : Nat} {rx : ByteArray}
    (x0 : decode rx 0 = .ok (.aload_n 0, 1)) (x1 : decode rx 1 = .ok (.aload_n 1, 1)) (x2 : decode rx 2 = .ok (.invokespecial ix, 3)) (x5 : decode rx 5 = .ok (.return_, 1))
    (hown : s.vm.findClass own = some m₀.cls) (hcls : Bundle.fit cls = true) (hnames : ∀ n ∈ names, Bundle.fit n = true)
    (h : ∀ a ∈ Bundle.ownAtomsX own ic cls ix rx names, a.before args s = true)
    (hlocs : ∀ x ∈ locs, ∀ cell, s.heap[x.base]? = some cell → cell.vm.isStatics = false)
    {a : Addr} {cX : ClassId} {kX : Class} (hfoundX : s.vm.findClass cls = some cX) (hkX : s.vm.classes[cX]? = some kX) (hcell : U0.heap[a]? = some (freshCell cX kX)) (hnew : s.heap.size ≤ a)
    {msg : Value} (hmsg : msg.isRef = true)
    {g : JFrame} (hg : g.method = m₀) (hsize : g.locals.size = c.maxLocals) (hlocked : g.locked = none) (hentered : g.entered = []) {rest : List Value} (hstack : g.stack = msg :: .ref a :: .ref a :: rest)
    (hd6 : decode c.code g.pc = .ok (.invokespecial ic, 3)) (hd9 : decode c.code (g.pc + 3) = .ok (.athrow, 1)) (hout : ∀ x ∈ c.exceptionTable.toList, covers x (g.pc + 3) = false)
    (hRframes : names.length + 3 < R.frames) (hRlocals : 2 * g.monitorRoom + ((Value.ref a :: rest).map fun v => v.category).sum + (13 * (names.length + 1) + 42) ≤ R.locals) (hlocks : meth.locks = false) :
    ∃ U : State, Steps p.tables e below (U0.setTop g) U ∧ U.status = .running ∧ Ended U below (.threw a) ∧ s.WarmedH U.vm ∧ s.sameButNew ({ U with vm := s.vm } : State) locs cells slots ∧
      ∃ ce : Cell, U.heap[a]? = some ce ∧ ce.vm = .none ∧ s.vm.findClass cls = some ce.cls := by
  have howns : e.platform.frameOwnsMonitors = true := by rw [X.admits.platform]
  have hfin : e.platform.finalization = false := by rw [X.admits.platform]
  have hpl : e.platform.magicAccessors = ({} : Platform).magicAccessors := by rw [X.admits.platform]
  have a' : ∀ x, x ∈ Bundle.ownAtomsX own ic cls ix rx names → x.holds args s none s [] = true := fun x hx => h x hx
  obtain ⟨T, Z0, L, -, Y⟩ := ThrowableC.of_atoms (args := args) howns hfin hpl (fun x hx => h x (by simp [Bundle.ownAtomsX, hx]))
  obtain ⟨Z, M, LZ, LM, hnZ⟩ := Init0T.ofS_atoms (args := args) hpl L Y (fun x hx => h x (by simp [Bundle.ownAtomsX, hx]))
  obtain ⟨P1, Ps, hlen, L1, hL, hP1m, hlink1, hlink⟩ := Bundle.chainSX (args := args) hpl hnZ x0 x1 x2 x5 names cls hcls hnames (fun x hx => h x (by simp [Bundle.ownAtomsX, hx]))
  have hfound : s.vm.findClass cls = some P1.m.cls := findClass_of_methodNamed hP1m
  cases Option.some.inj (hfoundX.symm.trans hfound)
  obtain ⟨c1, kX', hc1, hk, hord, -, -, hn6⟩ := Cond.instantiable_spec (a' (.instantiable cls 6) (by simp [Bundle.ownAtomsX]))
  cases Option.some.inj (hc1.symm.trans hfound)
  cases Option.some.inj (hkX.symm.trans hk)
  have hsel0 : selectMethod e.platform s.vm P1.m.cls T.fill0 = .method T.fill0 := by
    obtain ⟨c2, r2, m2, q1, q2, q3, q4, -⟩ := Cond.selects_spec (a' (.selects cls Bundle.tFill0 Bundle.tFill0) (by simp [Bundle.ownAtomsX]))
    cases Option.some.inj (q1.symm.trans hfound)
    cases Option.some.inj (q2.symm.trans (State.methodFound?_of_named Y.fill0 (by decide)))
    cases Option.some.inj (q3.symm.trans Y.fill0)
    rw [Launch.admits_selectMethod X.admits]; exact q4
  have hselF : selectMethod e.platform s.vm P1.m.cls T.fill = .method T.fill := by
    obtain ⟨c2, r2, m2, q1, q2, q3, q4, -⟩ := Cond.selects_spec (a' (.selects cls Bundle.tFill Bundle.tFill) (by simp [Bundle.ownAtomsX]))
    cases Option.some.inj (q1.symm.trans hfound)
    cases Option.some.inj (q2.symm.trans (State.methodFound?_of_named Y.fill (by decide)))
    cases Option.some.inj (q3.symm.trans Y.fill)
    rw [Launch.admits_selectMethod X.admits]; exact q4
  obtain ⟨cellS0, hcS0, hiss⟩ := Y.statics
  obtain ⟨u0, hu0⟩ := Cond.staticRefV Y.unassigned L.unassignedStatic L.statics hcS0 hiss (a' (.isRef (.static Bundle.tN "UNASSIGNED_STACK" Bundle.steD)) (by simp [Bundle.ownAtomsX]))
  obtain ⟨sen, hsen⟩ := Cond.staticRefV Y.sentinel L.sentinelStatic L.statics hcS0 hiss (a' (.isRef (.static Bundle.tN "SUPPRESSED_SENTINEL" Bundle.listD)) (by simp [Bundle.ownAtomsX]))
  obtain ⟨ci198, i198, fB, hk198, hg198, ha198, hsB, -, hnB, htB, hffB⟩ := Cond.ownField (t := .object "java/lang/Object") Y.found L.cls (by decide +kernel) (a' (.fieldLink Bundle.tN 198 Bundle.tN "backtrace" "Ljava/lang/Object;") (by simp [Bundle.ownAtomsX])) (a' (.lays Bundle.tN Bundle.tN "backtrace" "Ljava/lang/Object;") (by simp [Bundle.ownAtomsX])) e.platform hpl
  obtain ⟨cellS, hcS', heS, -, hkeep⟩ := X.same.2.2.2.2.2 T.aS cellS0 hcS0
  have hcellS : U0.heap[T.aS]? = some cellS := hcS'
  have hout' : ∀ i, (⟨T.aS, i⟩ : Loc) ∉ locs := fun i hmem => by
    have := hlocs _ hmem cellS0 hcS0
    rw [hiss] at this; cases this
  have hknownS : cellS.vm ≠ .unknown := by
    rw [heS]; intro hu
    rw [show cellS0.vm = .unknown from hu] at hiss
    cases hiss
  have hneS : T.aS ≠ a := Nat.ne_of_lt (Nat.lt_of_lt_of_le (Array.getElem?_eq_some_iff.mp hcS0).1 hnew)
  obtain ⟨iM, hffM⟩ := Y.msg
  obtain ⟨tyC, dC, hdC, hdnC⟩ := Cond.laysAt hfound hk Y.cause (a' (.lays cls Bundle.tN "cause" "Ljava/lang/Throwable;") (by simp [Bundle.ownAtomsX]))
  obtain ⟨tyS, dS, hdS, hdnS⟩ := Cond.laysAt hfound hk Y.stack (a' (.lays cls Bundle.tN "stackTrace" Bundle.steD) (by simp [Bundle.ownAtomsX]))
  obtain ⟨tyP, dP, hdP, hdnP⟩ := Cond.laysAt hfound hk Y.supp (a' (.lays cls Bundle.tN "suppressedExceptions" Bundle.listD) (by simp [Bundle.ownAtomsX]))
  obtain ⟨tyM, dM, hdM, hdnM⟩ := Cond.laysAt hfound hk hffM (a' (.lays cls Bundle.tN "detailMessage" "Ljava/lang/String;") (by simp [Bundle.ownAtomsX]))
  obtain ⟨tyB, dB, hdB, hdnB⟩ := Cond.laysAt hfound hk hffB (a' (.lays cls Bundle.tN "backtrace" "Ljava/lang/Object;") (by simp [Bundle.ownAtomsX]))
  have bC := Cond.laysApart hdB hdC hdnB hdnC (by rw [hnB, Y.causeName]; decide)
  have bS := Cond.laysApart hdB hdS hdnB hdnS (by rw [hnB, Y.stackName]; decide)
  have bP := Cond.laysApart hdB hdP hdnB hdnP (by rw [hnB, Y.suppName]; decide)
  have hskip : SkipFacts T e.platform s (fun u => u) u0 ((preparedCellV T.toThrowableT (freshCell P1.m.cls kX) a u0 sen).withEntry U0.cur) :=
    ⟨{ ci198 := ci198, i198 := i198, fBack := fB }, ⟨hk198, hg198, ha198, hsB⟩, by
      have := fresh_default (c := P1.m.cls) tyB
      rw [htB] at this
      simpa [preparedCellV, Cell.setSlot, Cell.withEntry, Array.getElem?_setIfInBounds, bC, bS, bP, bC.symm, bS.symm, bP.symm, defaultValue] using this, fun _ _ => rfl⟩
  obtain ⟨tm, methC, cdC, kC, vm₁, hnC, -, -, -, -, -, -, -, hW₁, st1⟩ := Steps.initColdS (tb := p.tables) (e := e) (below := below) (s := s) (U := U0) X.here hexec X.warmed hpl hown (t := Bundle.initS cls) rfl rfl (Bundle.fit_spec hcls).2
    (a' (.methodLink own ic (Bundle.initS cls)) (by simp [Bundle.ownAtomsX])) (h (.instanceMethod (Bundle.initS cls)) (by cases names <;> simp [Bundle.ownAtomsX, Bundle.chainSAtomsX, Bundle.passSAtoms])) (bytes := rx) (maxL := 2) (h (.code (Bundle.initS cls) rx 2 none) (by cases names <;> simp [Bundle.ownAtomsX, Bundle.chainSAtomsX, Bundle.passSAtoms]))
    (f := g) hg (a := a) (msg := msg) (rest := .ref a :: rest) hstack hd6
  cases Option.some.inj (hnC.symm.trans hP1m)
  have X₁ := X.noted hW₁
  obtain ⟨vm₂, X₂, st2⟩ := X₁.ctorMessageOffV hexec (g := { g with stack := .ref a :: rest }) hg hsize T L Z LZ M LM (P1 :: Ps)
    (fun P hP => by rcases List.mem_cons.mp hP with rfl | hP; exact L1; exact hL P hP) ⟨hlink1, hlink⟩ (u0 := u0) (sen := sen) (self := a) hmsg (cell := freshCell P1.m.cls kX) (cellS := cellS)
    hcell (fun _ => by simp) (by simp) rfl rfl hsel0 hselF hcellS hneS hknownS (by rw [hkeep _ (hout' _)]; exact hu0) (by rw [hkeep _ (hout' _)]; exact hsen)
    (Takes.of_laid hk hord tyC (by rw [Y.causeType]; rfl)) (Takes.of_laid hk hord tyS (by rw [Y.stackType]; exact fits_refV_array _ u0)) (Takes.of_laid hk hord tyP (by rw [Y.suppType]; exact fits_refV_object _ sen))
    (Takes.of_laid hk hord tyM (by rw [Y.msgType]; exact fits_refV_object _ ⟨msg, hmsg⟩)) Y.objLocals hskip htr [] hd6
    (by simp only [List.length_cons, hlen]; omega) (by simp only [List.length_cons, hlen]; exact hRlocals)
  obtain ⟨hwalk, hrun, hended, hWU, hsame⟩ := X₂.athrowLeaves hexec (g := { g with stack := .ref a :: rest, pc := g.pc + 3 }) hg hlocked hentered hout (a := a) (rest := rest) rfl hd9
  have hlt : a < ((U0.setVm vm₁).setVm vm₂).heap.size := (Array.getElem?_eq_some_iff.mp hcell).1
  have hU := heapAt_setCell_self (s := (U0.setVm vm₁).setVm vm₂) (plainBareV T.toThrowableT (freshCell P1.m.cls kX) a u0 sen msg) hlt
  refine ⟨_, st1 _ (fun acts => ?_), hrun, hended, hWU, hsame.weaken (fun y hy hlt' => ?_) (Nat.le_refl _) (Nat.le_refl _), _, hU, rfl, hfound⟩
  · rw [doInvoke_state]
    exact st2 _ hwalk
  · rcases List.mem_append.mp hy with h1 | h1
    · exact h1
    · exfalso
      have hb : y.base = a := by
        simp only [List.mem_cons, List.not_mem_nil, or_false] at h1
        rcases h1 with rfl | rfl | rfl | rfl | rfl <;> rfl
      rw [hb] at hlt'
      exact Nat.not_lt.mpr hnew hlt'
end
section
variable {p : Program} {l : Launch} {e : Env} {R : Room} {s : State} {m : MethodId} {args : Array Value} {below : List Frame} {meth : Method} {c : Code} {H : Heap} {locs : List Loc} {cells slots : Nat} {free : Addr → Prop} {ls : Array Slot} {rest : List Value} {Qc : Array Value → State → Outcome → State → Prop} {XC : String → State → State → Prop}
theorem th_throw {cc : ByteArray} {pc : Nat} (hexec : p.tables.exec = Jvm.exec) (hb : c.code = cc) (hl : l.stackTraces = false) {own cls text : String} {names : List String} {ik is ic ix mc ms sa : Nat} {rx : ByteArray} {A : Nat → Prop}
    (x0 : decode rx 0 = .ok (.aload_n 0, 1)) (x1 : decode rx 1 = .ok (.aload_n 1, 1)) (x2 : decode rx 2 = .ok (.invokespecial ix, 3)) (x5 : decode rx 5 = .ok (.return_, 1))
    (hown : s.vm.findClass own = some m.cls) (hcls : Bundle.fit cls = true) (hnames : ∀ n ∈ names, Bundle.fit n = true)
    (hk : (Cond.classLink own ik cls).before args s = true) (hini : (Cond.initialized cls).before args s = true) (hstr : vk_R own is text sa s) (hat : ∀ w ∈ (Bundle.ownAtomsX own ic cls ix rx names).filter vx_no, w.before args s = true)
    (hgood : ∀ w ∈ (Bundle.ownAtomsX own ic cls ix rx names).filter vx_no, vx_ot w = true)
    (hU : vx_Zq Bundle.tN "UNASSIGNED_STACK" Bundle.steD A s s.heap) (hN : vx_Zq Bundle.tN "SUPPRESSED_SENTINEL" Bundle.listD A s s.heap) (hS : va_S A s.heap H locs) (hsize : ls.size = c.maxLocals)
    (d0 : decode cc pc = .ok (.new ik, 3)) (d3 : decode cc (pc + 3) = .ok (.dup, 1)) (d4 : decode cc (pc + 4) = .ok (.ldc is, 2)) (d6 : decode cc (pc + 6) = .ok (.invokespecial ic, 3)) (d9 : decode cc (pc + 9) = .ok (.athrow, 1))
    (hout : ∀ x ∈ c.exceptionTable.toList, covers x (pc + 9) = false)
    (hRframes : names.length + 3 < R.frames) (hRlocals : (rest.map fun v => v.category).sum + (13 * (names.length + 1) + 43) ≤ R.locals) (hRcells : cells + 1 ≤ R.cells) (hRslots : slots + 6 ≤ R.slots) (hlocks : meth.locks = false)
    (hx : ∀ t : State, s.vm.Alike t.vm → H.size ≤ t.heap.size → (∀ q : Nat, q < H.size → t.heap[q]? = H[q]?) → XC cls s t)
    (hf : ∀ z ∈ locs, free z.base) (hc : cells + 1 ≤ mc) (hs : slots + 6 ≤ ms) :
    W p l e R s m args below meth c H locs cells slots (vx_MQ below Qc XC args s mc ms free) (F0 m pc ls rest) := by
  intro T hT X
  have htr : e.platform.stackTraces = false := (show e.platform.stackTraces = l.stackTraces by rw [X.admits.platform]).trans hl
  have Y := vx_rebase X (R' := { frames := R.frames, locals := R.locals, cells := 1, slots := 6 }) (Nat.le_refl _) (Nat.le_refl _) hRcells hRslots
  obtain ⟨s', hA⟩ : ∃ z, z = (T.setVm s.vm).setFrames (.invoking m args :: below) := ⟨_, rfl⟩
  rw [← hA] at Y
  have hvm : s'.vm = s.vm := by rw [hA]; rfl
  have hhp : s'.heap = H := by rw [hA]; exact hT
  have hW0 : s.WarmedH s'.vm := by rw [hvm]; exact State.WarmedH.refl s
  have hat' : ∀ w ∈ (Bundle.ownAtomsX own ic cls ix rx names).filter vx_no, w.before args s' = true := fun w hw => vx_ot_at hW0 hvm.symm (hgood w hw) (hat w hw)
  have hk' : (Cond.classLink own ik cls).before args s' = true := vx_ot_at hW0 hvm.symm rfl hk
  have hini' : (Cond.initialized cls).before args s' = true := vx_ot_at hW0 hvm.symm rfl hini
  have hU' : vx_Zq Bundle.tN "UNASSIGNED_STACK" Bundle.steD A s' s'.heap := by rw [hhp]; exact vx_Zq.moved hW0.alike (hU.kept hS.2.1)
  have hN' : vx_Zq Bundle.tN "SUPPRESSED_SENTINEL" Bundle.listD A s' s'.heap := by rw [hhp]; exact vx_Zq.moved hW0.alike (hN.kept hS.2.1)
  have h : ∀ w ∈ Bundle.ownAtomsX own ic cls ix rx names, w.before args s' = true := vx_own hat' (vx_isRefq hU'.1) (vx_isRefq hN'.1) hU'.2.word hN'.2.word
  have hown' : s'.vm.findClass own = some m.cls := by rw [hvm]; exact hown
  have hins : (Cond.instantiable cls 6).before args s' = true := h _ (by simp [Bundle.ownAtomsX])
  obtain ⟨vm₁, cX, kX, hfX, hkX, -, -, X₁, st1⟩ := Y.newCold hexec (own := own) (C := cls) (index := ik) (n := 6) hown' hk' hins hini'
    (g := F0 m pc ls rest) rfl (by rw [hb]; exact d0) (Nat.le_refl _) (Nat.le_refl _)
  generalize hT1 : (T.setVm vm₁).pushCell { cls := cX, slots := kX.instanceTypes.map defaultValue, vm := .none } = T1 at X₁ st1
  have hcat : (Value.ref T.heap.size).category = 1 := rfl
  have hcellA : T1.heap[T.heap.size]? = some (freshCell cX kX) := by rw [← hT1]; exact State.heap_pushCell_size _ _
  have d3' : decode c.code (pc + 3) = .ok (.dup, 1) := by rw [hb]; exact d3
  have d4' : decode c.code (pc + 4) = .ok (.ldc is, 2) := by rw [hb]; exact d4
  have hstr' : vk_R own is text sa s' := vk_R.warm hW0 hstr
  obtain ⟨U, hsteps, hrun, hend, hW, hsame, ce, hce, hcv, hcc⟩ := th_ctor X₁ hexec htr (own := own) (cls := cls) (names := names) (ic := ic) (ix := ix) (rx := rx) x0 x1 x2 x5 hown' hcls hnames h (fun x hx => nomatch hx) hfX hkX hcellA (by rw [hhp, hT]; exact Nat.le_refl _) (msg := .ref sa) rfl
    (g := { method := m, pc := pc + 6, locals := ls, stack := .ref sa :: .ref T.heap.size :: .ref T.heap.size :: rest, locked := none }) rfl hsize rfl rfl (rest := rest) rfl
    (by rw [hb]; exact d6) (by rw [hb]; exact d9) hout hRframes (by simp only [List.map_cons, List.sum_cons, hcat]; omega) hlocks
  obtain ⟨f1, f2⟩ := vx_frame hsame
  rw [hhp] at f1 f2
  have hWs : s.WarmedH U.vm := State.WarmedH.trans hW0 hW
  have hcl : s.vm.findClass cls = some ce.cls := by rw [hvm] at hcc; exact hcc
  have hall : s.sameButNew ({ U with vm := s.vm } : State) locs mc ms := by
    subst hA
    obtain ⟨e1, e2⟩ := hsame
    rw [State.setFrames_setFrames] at e1
    have h2 : (T.setVm s.vm).sameButNew ({ U with vm := s.vm } : State) [] (0 + 1) (0 + 6) := ⟨e1, e2⟩
    have h3 := X.same.trans h2
    rw [List.append_nil] at h3
    exact h3.mono hc hs
  refine ⟨U, ?_, .threw T.heap.size, hrun, hend, Or.inr ⟨T.heap.size, rfl, cls, ce, locs, hx U hWs.alike f1 (fun q hq => f2 q hq (fun z hz => nomatch hz)), hce, hcv, hcl, hWs, hall, hf⟩⟩
  refine st1 _ ?_
  show Steps p.tables e below (T1.setTop { method := m, pc := pc + 3, locals := ls, stack := .ref T.heap.size :: rest, locked := none }) _
  jvm_step X₁.here [X₁.here.top, hexec, d3', Value.category]
  exact X₁.ldcString hexec (own := own) (text := text) (index := is) (a := sa) hown' hstr'.1 hstr'.2
    (g := { method := m, pc := pc + 4, locals := ls, stack := .ref T.heap.size :: .ref T.heap.size :: rest, locked := none }) rfl d4' _ hsteps
end
end
section
/-! ===== look: the one call that throws ===== -/
theorem zf_X11_114 : z_Fl RX11 114 9 2 RX9 TX9 6 := ⟨rfl, z_inX9, by decide, by decide, Or.inr ⟨"SaidSo", z_inN (i := 339) (by decide +kernel) rfl⟩⟩
theorem zf_X11_118 : z_Fl RX11 118 9 3 RX9 TX9 6 := ⟨rfl, z_inX9, by decide, by decide, Or.inr ⟨"SaidSo", z_inN (i := 344) (by decide +kernel) rfl⟩⟩
theorem zf_X11_121 : z_Fl RX11 121 9 4 RX9 TX9 6 := ⟨rfl, z_inX9, by decide, by decide, Or.inr ⟨"SaidSo", z_inN (i := 348) (by decide +kernel) rfl⟩⟩
theorem zf_X11_124 : z_Fl RX11 124 9 5 RX9 TX9 6 := ⟨rfl, z_inX9, by decide, by decide, Or.inr ⟨"SaidSo", z_inN (i := 352) (by decide +kernel) rfl⟩⟩
def lk_56 (Λ : Int → Int) : zTm := z_seq (z_al 3) (z_seq (z_getA 9 2 13) (z_seq (z_il 1) (z_seq (z_ald 13 Λ) z_iret)))
theorem lk_t56 (Λ : Int → Int) : z_Tl (lk_56 Λ) := z_tl_seq (z_ot_al 3) (z_tl_seq (z_ot_getA 9 2 13) (z_tl_seq (z_ot_il 1) (z_tl_seq (z_ot_ald 13 _) z_tl_iret)))
def lk_63 (Λ : Int → Int) : zTm := z_seq (z_al 3) (z_seq (z_getA 9 3 13) (z_seq (z_il 1) (z_seq (z_ald 13 Λ) z_iret)))
theorem lk_t63 (Λ : Int → Int) : z_Tl (lk_63 Λ) := z_tl_seq (z_ot_al 3) (z_tl_seq (z_ot_getA 9 3 13) (z_tl_seq (z_ot_il 1) (z_tl_seq (z_ot_ald 13 _) z_tl_iret)))
def lk_70 (Λ : Int → Int) : zTm := z_seq (z_al 3) (z_seq (z_getA 9 4 13) (z_seq (z_il 1) (z_seq (z_ald 13 Λ) z_iret)))
theorem lk_t70 (Λ : Int → Int) : z_Tl (lk_70 Λ) := z_tl_seq (z_ot_al 3) (z_tl_seq (z_ot_getA 9 4 13) (z_tl_seq (z_ot_il 1) (z_tl_seq (z_ot_ald 13 _) z_tl_iret)))
def lk_77 (Λ : Int → Int) : zTm := z_seq (z_al 3) (z_seq (z_getA 9 5 13) (z_seq (z_il 1) (z_seq (z_ald 13 Λ) z_iret)))
theorem lk_t77 (Λ : Int → Int) : z_Tl (lk_77 Λ) := z_tl_seq (z_ot_al 3) (z_tl_seq (z_ot_getA 9 5 13) (z_tl_seq (z_ot_il 1) (z_tl_seq (z_ot_ald 13 _) z_tl_iret)))
def lk_26 (Λ : Int → Int) : zTm := z_seq (z_il 2) (z_sw [(0, lk_56 Λ), (1, lk_63 Λ), (2, lk_70 Λ), (3, lk_77 Λ)] (z_go 2))
theorem lk_t26 (Λ : Int → Int) : z_Tl (lk_26 Λ) := z_tl_seq (z_ot_il 2) (z_tl_sw (z_tl_c (lk_t56 Λ) (z_tl_c (lk_t63 Λ) (z_tl_c (lk_t70 Λ) (z_tl_c (lk_t77 Λ) z_tl_n)))) (z_tl_go 2))
def lk_0 (Λ : Int → Int) : zTm := z_seq (z_al 0) (z_seq (z_getA 11 1 0) (z_seq (z_getA 0 0 9) (z_seq (z_as 3) (z_seq (z_al 3) (z_seq (z_il 1) (z_seq (z_callv Λ z_BI zm_X9_has 2 9) (z_ifeq (z_go 1) (lk_26 Λ))))))))
theorem lk_t0 (Λ : Int → Int) : z_Tl (lk_0 Λ) := z_tl_seq (z_ot_al 0) (z_tl_seq (z_ot_getA 11 1 0) (z_tl_seq (z_ot_getA 0 0 9) (z_tl_seq (z_ot_as 3) (z_tl_seq (z_ot_al 3) (z_tl_seq (z_ot_il 1) (z_tl_seq (z_ot_callv _ z_hbI _ _ _) (z_tl_ifeq (z_tl_go 1) (lk_t26 Λ))))))))
def lk_no : zTm := fun _ _ _ _ => none
def lk_P (n : Nat) : Nat := match n with
  | 0 => 0
  | 1 => 16
  | _ => 84
def zcd_X11_look (Λ : Int → Int) (l : Nat) : zTm := match l with
  | 0 => lk_0 Λ
  | _ + 1 => lk_no
theorem ztl_X11_look (Λ : Int → Int) (l : Nat) : z_Tl (zcd_X11_look Λ l) := match l with
  | 0 => lk_t0 Λ
  | _ + 1 => fun _ _ _ => Or.inl ⟨none, fun _ => rfl⟩
noncomputable def zm_X11_look : zD := z_me zcd_X11_look 4 1
theorem lk_s56 {X : zX} (hC : z_Cx X RX11 cX11_look 4 (some .int) 1) : z_St X lk_P 56 (lk_56 (x_La X)) := z_st_seq (z_ot_al 3) (z_so_aload_n hC dX11_look_56 rfl) (z_st_seq (z_ot_getA 9 2 13) (z_so_getA hC zf_X11_114 rfl rfl dX11_look_57) (z_st_seq (z_ot_il 1) (z_so_iload_n hC dX11_look_60 rfl) (z_st_seq (z_ot_ald 13 _) (z_so_iald hC dX11_look_61) (z_st_iret hC dX11_look_62))))
theorem lk_s63 {X : zX} (hC : z_Cx X RX11 cX11_look 4 (some .int) 1) : z_St X lk_P 63 (lk_63 (x_La X)) := z_st_seq (z_ot_al 3) (z_so_aload_n hC dX11_look_63 rfl) (z_st_seq (z_ot_getA 9 3 13) (z_so_getA hC zf_X11_118 rfl rfl dX11_look_64) (z_st_seq (z_ot_il 1) (z_so_iload_n hC dX11_look_67 rfl) (z_st_seq (z_ot_ald 13 _) (z_so_iald hC dX11_look_68) (z_st_iret hC dX11_look_69))))
theorem lk_s70 {X : zX} (hC : z_Cx X RX11 cX11_look 4 (some .int) 1) : z_St X lk_P 70 (lk_70 (x_La X)) := z_st_seq (z_ot_al 3) (z_so_aload_n hC dX11_look_70 rfl) (z_st_seq (z_ot_getA 9 4 13) (z_so_getA hC zf_X11_121 rfl rfl dX11_look_71) (z_st_seq (z_ot_il 1) (z_so_iload_n hC dX11_look_74 rfl) (z_st_seq (z_ot_ald 13 _) (z_so_iald hC dX11_look_75) (z_st_iret hC dX11_look_76))))
theorem lk_s77 {X : zX} (hC : z_Cx X RX11 cX11_look 4 (some .int) 1) : z_St X lk_P 77 (lk_77 (x_La X)) := z_st_seq (z_ot_al 3) (z_so_aload_n hC dX11_look_77 rfl) (z_st_seq (z_ot_getA 9 5 13) (z_so_getA hC zf_X11_124 rfl rfl dX11_look_78) (z_st_seq (z_ot_il 1) (z_so_iload_n hC dX11_look_81 rfl) (z_st_seq (z_ot_ald 13 _) (z_so_iald hC dX11_look_82) (z_st_iret hC dX11_look_83))))
theorem lk_s26 {X : zX} (hC : z_Cx X RX11 cX11_look 4 (some .int) 1) : z_St X lk_P 26 (lk_26 (x_La X)) := z_st_seq (z_ot_il 2) (z_so_iload_n hC dX11_look_26 rfl) (z_st_table hC dX11_look_27 (by decide) (fun v h => by simp at h; omega) (⟨⟨56, ⟨by dsimp only; decide, by dsimp only; decide, 29, rfl, by decide⟩, lk_s56 hC⟩, ⟨⟨63, ⟨by dsimp only; decide, by dsimp only; decide, 36, rfl, by decide⟩, lk_s63 hC⟩, ⟨⟨70, ⟨by dsimp only; decide, by dsimp only; decide, 43, rfl, by decide⟩, lk_s70 hC⟩, ⟨⟨77, ⟨by dsimp only; decide, by dsimp only; decide, 50, rfl, by decide⟩, lk_s77 hC⟩, trivial⟩⟩⟩⟩) (z_st_go 2))
theorem lk_s0 {X : zX} (hC : z_Cx X RX11 cX11_look 4 (some .int) 1) : z_St X lk_P 0 (lk_0 (x_La X)) := z_st_seq (z_ot_al 0) (z_so_aload_n hC dX11_look_0 rfl) (z_st_seq (z_ot_getA 11 1 0) (z_so_getA hC zf_X11_19 rfl rfl dX11_look_1) (z_st_seq (z_ot_getA 0 0 9) (z_so_getA hC zf_X11_86 rfl rfl dX11_look_4) (z_st_seq (z_ot_as 3) (z_so_astore_n hC dX11_look_7 rfl (by decide)) (z_st_seq (z_ot_al 3) (z_so_aload_n hC dX11_look_8 rfl) (z_st_seq (z_ot_il 1) (z_so_iload_n hC dX11_look_9 rfl) (z_st_seq (z_ot_callv _ z_hbI _ _ _) (z_so_callv hC z_hbI zsim_X9_has ⟨zk_X9_has, zi_X9, zd_X9_has, by decide, by decide⟩ zn_X9_has ze_X9_has rfl (by decide) zl_X11_103 dX11_look_10) (z_st_ifne hC dX11_look_13 (by decide) (lk_s26 hC) (z_st_go 1))))))))
theorem zst_X11_look (X : zX) (hC : z_Cx X RX11 cX11_look 4 (some .int) 1) (l : Nat) : z_St X lk_P (lk_P l) (zcd_X11_look (x_La X) l) := match l with
  | 0 => lk_s0 hC
  | _ + 1 => fun _ _ _ => z_st_none (T := lk_no) (fun _ => rfl)
theorem zsim_X11_look : z_Sim yX11_look cX11_look 4 (some .int) 1 zm_X11_look := z_met (by decide) rfl ztl_X11_look zst_X11_look
theorem lk_ev (Λ : Int → Int) (x1 x2 a0 : Int) (M : zM) (G : zG) : lk_0 Λ [zA 11 a0, zI x1, zI x2, zU] [] M G = z_bI (zm_X9_has Λ [zA 9 (M (M a0 1) 0), zI x1] M) (fun r2 M1 => if r2 = 0 then G 1 [zA 11 a0, zI x1, zI x2, zA 9 (M (M a0 1) 0)] [] M1 else if x2 = (0:Int) then if 0 ≤ x1 ∧ x1 < Λ (M1 (M (M a0 1) 0) 2) then some (.inl ([zI (M1 (M1 (M (M a0 1) 0) 2) x1)], M1)) else none else if x2 = (1:Int) then if 0 ≤ x1 ∧ x1 < Λ (M1 (M (M a0 1) 0) 3) then some (.inl ([zI (M1 (M1 (M (M a0 1) 0) 3) x1)], M1)) else none else if x2 = (2:Int) then if 0 ≤ x1 ∧ x1 < Λ (M1 (M (M a0 1) 0) 4) then some (.inl ([zI (M1 (M1 (M (M a0 1) 0) 4) x1)], M1)) else none else if x2 = (3:Int) then if 0 ≤ x1 ∧ x1 < Λ (M1 (M (M a0 1) 0) 5) then some (.inl ([zI (M1 (M1 (M (M a0 1) 0) 5) x1)], M1)) else none else G 2 [zA 11 a0, zI x1, zI x2, zA 9 (M (M a0 1) 0)] [] M1) := rfl
theorem zr_X11_look (Λ : Int → Int) (x1 x2 a0 : Int) (M : zM) : zm_X11_look Λ [zA 11 a0, zI x1, zI x2] M = z_out (z_ev (zcd_X11_look Λ) 0 [zA 11 a0, zI x1, zI x2, zU] [] M) := rfl
theorem zb_X11_look_0 (Λ : Int → Int) (x1 x2 a0 : Int) (M : zM) : z_ev (zcd_X11_look Λ) 0 [zA 11 a0, zI x1, zI x2, zU] [] M = lk_0 Λ [zA 11 a0, zI x1, zI x2, zU] [] M (z_ev (zcd_X11_look Λ)) := z_ev_eq (ztl_X11_look Λ) 0 _ _ _
theorem e_X12_fails (N : zM) (x : Int) : zm_X12_fails zLa [zA 12 84, zI x] N = some ([zI 0], z_wr N 84 2 x) := by
  rw [zr_X12_fails]
  refine z_out_some ?_
  rw [zb_X12_fails_0, z_lt_eq]
section
variable {N0 V : zM} {y w : Int}
theorem e_X12_look0 (hE : mOk (z_wr N0 84 2 0) V) (qy : 0 ≤ y ∧ y < V 1 0) (qw : w = 0 ∨ w = 1 ∨ w = 2 ∨ w = 3) : zm_X12_look zLa [zA 12 84, zI y, zI w] N0 = some ([zI (if w = 0 then V 3 y else if w = 1 then V 4 y else if w = 2 then V 5 y else V 6 y)], z_wr N0 84 2 0) := by
  have hN := hE.2.2.1
  have hΛ2 := zLo_ok
  have hb2 : 0 ≤ y ∧ y < 16 := by omega
  rw [zr_X12_look]
  refine z_out_some ?_
  rw [zb_X12_look_0, z_lt_eq]
  generalize z_wr N0 84 2 0 = N at hE ⊢
  simp only [e_X12_isThing hE, z_bI_mk, hE.1, hΛ2]
  have ms := hE.2.1.2.1 y qy.1 qy.2
  rw [b2i_pos qy, if_neg (by decide)]
  simp only [hb2, and_self, if_true, ms]
  rcases qw with rfl | rfl | rfl | rfl <;> first | rfl | simp
theorem e_X12_look1 (hE : mOk (z_wr N0 84 2 0) V) (qy : ¬ (0 ≤ y ∧ y < V 1 0)) : zm_X12_look zLa [zA 12 84, zI y, zI w] N0 = some ([zI 0], z_wr (z_wr N0 84 2 0) 84 2 1) := by
  rw [zr_X12_look]
  refine z_out_some ?_
  rw [zb_X12_look_0, z_lt_eq]
  generalize z_wr N0 84 2 0 = N at hE ⊢
  simp only [e_X12_isThing hE, z_bI_mk]
  rw [b2i_neg qy, if_pos rfl, e_X12_fails, z_bI_mk]
theorem e_X12_look2 (hE : mOk (z_wr N0 84 2 0) V) (qy : 0 ≤ y ∧ y < V 1 0) (qw : ¬ (w = 0 ∨ w = 1 ∨ w = 2 ∨ w = 3)) : zm_X12_look zLa [zA 12 84, zI y, zI w] N0 = some ([zI 0], z_wr (z_wr N0 84 2 0) 84 2 2) := by
  obtain ⟨w0, w1, w2, w3⟩ : w ≠ 0 ∧ w ≠ 1 ∧ w ≠ 2 ∧ w ≠ 3 := by omega
  rw [zr_X12_look]
  refine z_out_some ?_
  rw [zb_X12_look_0, z_lt_eq]
  generalize z_wr N0 84 2 0 = N at hE ⊢
  simp only [e_X12_isThing hE, z_bI_mk]
  rw [b2i_pos qy, if_neg (by decide), if_neg w0, if_neg w1, if_neg w2, if_neg w3, e_X12_fails, z_bI_mk]
end
/-- both sides' look, without the machine -/
theorem i_look {M : zM} (hI : gI M) (y w : Int) : (∃ v : Int, zm_X11_look zLa [zA 11 0, zI y, zI w] M = some ([zI v], M) ∧ ∃ M2, zm_X12_look zLa [zA 12 84, zI y, zI w] (z_wr M 116 0 v) = some ([zI v], M2) ∧ M2 84 2 = 0 ∧ M2 116 0 = v ∧ gI M2) ∨ (∃ (k : Nat) (L' : List zV) (M2 : zM), (k = 1 ∨ k = 2) ∧ (∀ G : zG, lk_0 zLa [zA 11 0, zI y, zI w, zU] [] M G = G k L' [] M) ∧ zm_X12_look zLa [zA 12 84, zI y, zI w] M = some ([zI 0], M2) ∧ M2 84 2 = (k : Int) ∧ gI M2) := by
  obtain ⟨c, V, hCS, hRS, hv, hx⟩ := hI
  have hn : M 0 1 = c := hCS.2.1
  have hC : cOk M c V := hCS.co hv
  have hD : mOk M V := hRS.mo hv
  have hL := hC.2.1
  have hV := hC.2.2.1
  have hN := hv.1
  have hΛ := zLc_of hC.1
  have s2 : ∀ x, Sm M (z_wr (z_wr M 84 2 0) 84 2 x) := fun x => (Sm.wr (by decide)).tr (Sm.wr (by decide))
  have s1 : Sm M (z_wr M 84 2 0) := Sm.wr (by decide)
  by_cases qy : 0 ≤ y ∧ y < V 1 0
  · have hb : 0 ≤ y ∧ y < 8 := by omega
    by_cases qw : w = 0 ∨ w = 1 ∨ w = 2 ∨ w = 3
    · have s3 : ∀ v, Sm M (z_wr (z_wr M 116 0 v) 84 2 0) := fun v => (Sm.wr (by decide)).tr (Sm.wr (by decide))
      refine Or.inl ⟨if w = 0 then V 3 y else if w = 1 then V 4 y else if w = 2 then V 5 y else V 6 y, ?_, z_wr (z_wr M 116 0 (if w = 0 then V 3 y else if w = 1 then V 4 y else if w = 2 then V 5 y else V 6 y)) 84 2 0, e_X12_look0 (hD.sm (s3 _)) qy qw, z_wr_eq _ _ _ _, ?_, gI.sm (s3 _) ⟨c, V, hCS, hRS, hv, hx⟩⟩
      · rw [zr_X11_look]
        refine z_out_some ?_
        rw [zb_X11_look_0, lk_ev]
        simp only [hn, hL, hΛ, e_X9_has hC, z_bI_mk]
        simp only [hV]
        rw [b2i_pos qy, if_neg (by decide)]
        simp only [hb, and_self, if_true]
        rcases qw with rfl | rfl | rfl | rfl <;> first | rfl | simp
      · rw [z_wr_ne (Or.inl (by decide)), z_wr_eq]
    · obtain ⟨w0, w1, w2, w3⟩ : w ≠ 0 ∧ w ≠ 1 ∧ w ≠ 2 ∧ w ≠ 3 := by omega
      refine Or.inr ⟨2, [zA 11 0, zI y, zI w, zA 9 (c + 1)], z_wr (z_wr M 84 2 0) 84 2 2, Or.inr rfl, fun G => ?_, e_X12_look2 (hD.sm s1) qy qw, z_wr_eq _ _ _ _, gI.sm (s2 _) ⟨c, V, hCS, hRS, hv, hx⟩⟩
      rw [lk_ev]
      simp only [hn, hL, e_X9_has hC, z_bI_mk]
      rw [b2i_pos qy, if_neg (by decide), if_neg w0, if_neg w1, if_neg w2, if_neg w3]
  · refine Or.inr ⟨1, [zA 11 0, zI y, zI w, zA 9 (c + 1)], z_wr (z_wr M 84 2 0) 84 2 1, Or.inl rfl, fun G => ?_, e_X12_look1 (hD.sm s1) qy, z_wr_eq _ _ _ _, gI.sm (s2 _) ⟨c, V, hCS, hRS, hv, hx⟩⟩
    rw [lk_ev]
    simp only [hn, hL, e_X9_has hC, z_bI_mk]
    rw [b2i_neg qy, if_pos rfl]
/-! the machine's side -/
def lk_I : String := "java/lang/IndexOutOfBoundsException"
def lk_N : String := "java/util/NoSuchElementException"
def lk_U : List String := ["java/lang/RuntimeException", "java/lang/Exception"]
def lk_A0 : List Cond := (Bundle.ownAtomsX RX11 111 lk_I 7 prog_19_method_2_code lk_U).filter vx_no
def lk_A1 : List Cond := (Bundle.ownAtomsX RX11 131 lk_N 13 prog_29_method_4_code lk_U).filter vx_no
/-- words that the tables say and that don't go along by themselves -/
def lk_B : List Cond := [.declares (Bundle.initS "java/lang/RuntimeException"), .declares (Bundle.initS "java/lang/Exception"), .declares (Bundle.initS "java/lang/Throwable"), .castable lk_I lk_I, .castable lk_N lk_N]
theorem lk_x0 : ∀ w ∈ lk_A0.filter goodWord, w ∈ lw_tbl := by decide +kernel
theorem lk_x1 : ∀ w ∈ lk_A1.filter goodWord, w ∈ lw_tbl := by decide +kernel
theorem lk_y0 : ∀ w ∈ lk_A0.filter (fun w => !goodWord w), w ∈ lk_B := by decide +kernel
theorem lk_y1 : ∀ w ∈ lk_A1.filter (fun w => !goodWord w), w ∈ lk_B := by decide +kernel
theorem lk_g0 : ∀ w ∈ lk_A0, vx_ot w = true := by decide +kernel
theorem lk_g1 : ∀ w ∈ lk_A1, vx_ot w = true := by decide +kernel
theorem lk_ot : ∀ w ∈ lk_B, w.onTables = true := by decide +kernel
theorem lk_Bt : ∀ w ∈ lk_B, w ∈ lw_tbl := by decide +kernel
/-- what look's throws need of the start, kept along -/
def lk_E (g : Nat × Nat) (A : Nat → Prop) (U : State) (H : Heap) : Prop := vk_R RX11 109 "no such thing" g.1 U ∧ vk_R RX11 129 "no such what" g.2 U ∧ vx_Zq Bundle.tN "UNASSIGNED_STACK" Bundle.steD A U H ∧ vx_Zq Bundle.tN "SUPPRESSED_SENTINEL" Bundle.listD A U H ∧ (∀ w ∈ lk_B, va_Nw w U) ∧ va_Nc lk_N lk_I U
theorem lk_E.warm {g : Nat × Nat} {A : Nat → Prop} {s U : State} {H : Heap} (hW : s.WarmedH U.vm) (h : lk_E g A s H) : lk_E g A U H := by
  obtain ⟨h1, h2, h3, h4, h5, h6⟩ := h
  refine ⟨vk_R.warm hW h1, vk_R.warm hW h2, vx_Zq.moved hW.alike h3, vx_Zq.moved hW.alike h4, fun w hw => ?_, va_Nc.moved hW.alike h6⟩
  have key := h5 w hw
  simp only [lk_B, List.mem_cons, List.not_mem_nil, or_false] at hw
  rcases hw with rfl | rfl | rfl | rfl | rfl
  · exact va_Nw.warmD hW key
  · exact va_Nw.warmD hW key
  · exact va_Nw.warmD hW key
  · exact va_Nw.warmC hW key
  · exact va_Nw.warmC hW key
theorem lk_E.same {g : Nat × Nat} {A : Nat → Prop} {u U : State} {H : Heap} (hv : u.vm = U.vm) (h : lk_E g A u H) : lk_E g A U H := lk_E.warm (s := u) (by rw [← hv]; exact State.WarmedH.refl u) h
theorem lk_E.kept {g : Nat × Nat} {A : Nat → Prop} {U : State} {H H1 : Heap} (hq : ∀ a : Nat, a < H.size → ¬ A a → H1[a]? = H[a]?) (h : lk_E g A U H) : lk_E g A U H1 := ⟨h.1, h.2.1, h.2.2.1.kept hq, h.2.2.2.1.kept hq, h.2.2.2.2⟩
theorem lk_at {args : Array Value} {s : State} {g : Nat × Nat} {A : Nat → Prop} {H : Heap} (hts : ∀ w ∈ z_tbl, w.before args s = true) (hE : lk_E g A s H) {Lw : List Cond} (hx : ∀ w ∈ Lw.filter goodWord, w ∈ lw_tbl) (hy : ∀ w ∈ Lw.filter (fun w => !goodWord w), w ∈ lk_B) : ∀ w ∈ Lw, w.before args s = true :=
  vx_hat (B := lk_B) (fun w hw => hts w (List.mem_filter.mpr ⟨hx w hw, (List.mem_filter.mp hw).2⟩)) hy (fun w hw => va_Nw.use (lk_ot w hw) (hE.2.2.2.2.1 w hw))
/-- where both begin: the world, and what the throws need -/
def lk_Pc (D : va_G) (bs : Nat) (α : Nat → Nat) (γ : Nat → ClassId) (M : zM) (g : Nat × Nat) (vs : List Value) : Array Value → State → Prop := va_Pc vs (fun U => va_P D vwCl (z_ws α γ 117 zTy zLa M) U.heap ∧ va_D (fun q => bs ≤ q) (z_ws α γ 117 zTy zLa M) ∧ z_Kn D γ 117 zTy zLa U ∧ lk_E g (fun q => bs ≤ q) U U.heap)
theorem lk_blind {D : va_G} {bs : Nat} {α : Nat → Nat} {γ : Nat → ClassId} {M : zM} {g : Nat × Nat} {vs : List Value} : FrameBlind (lk_Pc D bs α γ M g vs) := by
  intro a U f mk z
  obtain ⟨z0, z1, z2, z3, z4⟩ := z
  exact ⟨z0, z1, z2, z_Kn.same (u := U) rfl z3, lk_E.same (u := U) (U := U.calling f mk a) rfl z4⟩
theorem lk_ok0 : z_ok 117 zTy (zA 11 0) := ⟨by decide, by decide, by decide⟩
def lk_R : Room := { frames := 6, cells := 1, slots := 6, locals := 90 }
def ll_R : Room := { frames := 7, cells := 1, slots := 6, locals := 120 }
def lk_C (k : Nat) : String := match k with
  | 1 => lk_I
  | _ => lk_N
abbrev lk_XC (D : va_G) (bs : Nat) (α : Nat → Nat) (γ : Nat → ClassId) (M : zM) (k : Nat) : String → State → State → Prop := vx_X (fun _ : Unit => True) (fun E _ t => E = lk_C k ∧ va_P D vwCl (z_ws α γ 117 zTy zLa M) t.heap) (fun q => bs ≤ q)
abbrev lk_Qc (bs : Nat) : Array Value → State → Outcome → State → Prop := va_Qi (fun _ (_ : Unit) => False) (fun _ _ => True) (fun q => bs ≤ q)
set_option maxHeartbeats 2000000 in
/-- SaidSo.look, where it throws -/
theorem lk_thr (l : Launch) (hl : l.stackTraces = false) (D : va_G) (bs : Nat) (α : Nat → Nat) (γ : Nat → ClassId) (M : zM) (g : Nat × Nat) (y w : Int) (hy : z_rI y) (hw : z_rI w) (hT : z_TM 117 zTy zLa M) {k : Nat} {L' : List zV} (hk : k = 1 ∨ k = 2) (hev : ∀ G : zG, lk_0 zLa [zA 11 0, zI y, zI w, zU] [] M G = G k L' [] M) : vx_Met l yX11_look (z_ws1 yX11_look cX11_look 4 (some .int)) lk_R (lk_Pc D bs α γ M g [.ref (α 0), .int (Int32.ofInt y), .int (Int32.ofInt w)]) (lk_Qc bs) (lk_XC D bs α γ M k) 1 6 (fun q => bs ≤ q) := by
  refine vx_ofW (cc := cX11_look) (maxL := 4) (ret := some .int) (by decide) rfl ?_
  intro p e s m args below meth c s₁ B hml htab hv
  obtain ⟨rfl, hPw, hDw, hKw, hE⟩ := hv
  have hts0 := atoms_spec (ws := z_ws1 yX11_look cX11_look 4 (some .int)) B.pre
  have hts : ∀ w ∈ z_tbl, w.before _ s = true := fun w hw => hts0 w (List.mem_cons_of_mem _ hw)
  have hown : s.vm.findClass RX11 = some m.cls := findClass_of_methodNamed B.named
  let X : zX := ((p, l, e, lk_R, s), (m, ([.ref (α 0), .int (Int32.ofInt y), .int (Int32.ofInt w)] : List Value).toArray, below, meth, c), (0, 0, vx_MQ below (lk_Qc bs) (lk_XC D bs α γ M k) ([.ref (α 0), .int (Int32.ofInt y), .int (Int32.ofInt w)] : List Value).toArray s 1 6 (fun q => bs ≤ q)), (D, bs, α, γ), (117, zTy, zLa), fun _ => False)
  have hC : z_Cx X RX11 cX11_look 4 (some .int) 1 := ⟨B.exec, B.bytes, hml, hown, hts, B.notSynchronized, B.returns, hKw, ⟨Nat.zero_le _, Nat.zero_le _, Nat.le_of_ble_eq_true rfl, Nat.le_of_ble_eq_true rfl⟩, fun _ h => h.elim⟩
  have hW : z_Wn X 0 [zA 11 0, zI y, zI w, zU] [] M := by
    refine (lk_s0 hC [zA 11 0, zI y, zI w, zU] [] M).2.2 k L' [] M hev ?_
    intro H locs ls hR hlv _ _
    have hP : va_P D vwCl (z_ws α γ 117 zTy zLa M) H := hR.1
    have hS : va_S (fun q => bs ≤ q) s.heap H locs := hR.2.2.1
    have hsz : ls.size = c.maxLocals := hlv.1
    have hxc : ∀ t : State, s.vm.Alike t.vm → H.size ≤ t.heap.size → (∀ q : Nat, q < H.size → t.heap[q]? = H[q]?) → lk_XC D bs α γ M k (lk_C k) s t := fun t _ h1 h2 => ⟨(), trivial, ⟨rfl, va_P.kept hP (fun k q hq => h2 _ (hP.lt hq))⟩, Nat.le_trans hS.1 h1, fun q q1 q2 => (h2 q (Nat.lt_of_lt_of_le q1 hS.1)).trans (hS.2.1 q q1 q2)⟩
    rcases hk with rfl | rfl
    · show W p l e lk_R s m _ below meth c H locs 0 0 (vx_MQ below (lk_Qc bs) (lk_XC D bs α γ M 1) _ s 1 6 (fun q => bs ≤ q)) (F0 m 16 ls [])
      exact th_throw (own := RX11) (cls := lk_I) (names := lk_U) (text := "no such thing") (ik := 107) (is := 109) (ic := 111) (ix := 7) (rx := prog_19_method_2_code) (A := fun q => bs ≤ q) (sa := g.1) B.exec B.bytes hl (by decide +kernel) (by decide +kernel) (by decide +kernel) (by decide +kernel) hown (by decide +kernel) (by decide +kernel) (hts _ (z_in (i := 1326) (by decide +kernel) rfl)) (hts _ (z_in (i := 197) (by decide +kernel) rfl)) hE.1 (lk_at hts hE lk_x0 lk_y0) lk_g0 hE.2.2.1 hE.2.2.2.1 hS hsz dX11_look_16 dX11_look_19 dX11_look_20 dX11_look_22 dX11_look_25 (fun x hx => (htab x hx).elim) (by decide) (by decide) (by decide) (by decide) B.notSynchronized hxc hS.2.2 (Nat.le_refl _) (Nat.le_refl _)
    · show W p l e lk_R s m _ below meth c H locs 0 0 (vx_MQ below (lk_Qc bs) (lk_XC D bs α γ M 2) _ s 1 6 (fun q => bs ≤ q)) (F0 m 84 ls [])
      exact th_throw (own := RX11) (cls := lk_N) (names := lk_U) (text := "no such what") (ik := 127) (is := 129) (ic := 131) (ix := 13) (rx := prog_29_method_4_code) (A := fun q => bs ≤ q) (sa := g.2) B.exec B.bytes hl (by decide +kernel) (by decide +kernel) (by decide +kernel) (by decide +kernel) hown (by decide +kernel) (by decide +kernel) (hts _ (z_in (i := 1392) (by decide +kernel) rfl)) (hts _ (z_in (i := 198) (by decide +kernel) rfl)) hE.2.1 (lk_at hts hE lk_x1 lk_y1) lk_g1 hE.2.2.1 hE.2.2.2.1 hS hsz dX11_look_84 dX11_look_87 dX11_look_88 dX11_look_90 dX11_look_93 (fun x hx => (htab x hx).elim) (by decide) (by decide) (by decide) (by decide) B.notSynchronized hxc hS.2.2 (Nat.le_refl _) (Nat.le_refl _)
  have hle := lv_entry ([.ref (α 0), .int (Int32.ofInt y), .int (Int32.ofInt w)]) (n := 4) (Nat.le_of_ble_eq_true rfl)
  rw [lg_entry_eq]
  generalize (lg_sl ([.ref (α 0), .int (Int32.ofInt y), .int (Int32.ofInt w)]) ++ List.replicate (4 - (lg_sl ([.ref (α 0), .int (Int32.ofInt y), .int (Int32.ofInt w)])).length) Slot.unset).toArray = ls at hle ⊢
  have hle : lv_has ls 4 [(0, .ref (α 0)), (1, .int (Int32.ofInt y)), (2, .int (Int32.ofInt w))] := hle
  refine hW s.heap [] ls ⟨hPw, hDw, va_S.rf, hT⟩ ⟨hle.1.trans hml.symm, hle.2.1, fun i hi => ?_⟩ (fun i => ?_) (fun v hv => by cases hv)
  · match i, hi with
    | 0, _ => exact lv_at hle 0 rfl
    | 1, _ => exact lv_at hle 1 rfl
    | 2, _ => exact lv_at hle 2 rfl
    | 3, hi => exact absurd rfl hi
    | n + 4, hi => exact absurd rfl hi
  · match i with
    | 0 => exact lk_ok0
    | 1 => exact hy
    | 2 => exact hw
    | 3 => exact trivial
    | n + 4 => exact trivial
end
section
/-! ===== SaidSoLaw.look and the law's case 4 ===== -/
abbrev ll_H : List (Nat × Nat × Nat × Nat) := [(0, 10, 13, 13), (0, 10, 17, 15)]
def ll_W : List Cond := Cond.codeWith yL_look cL_look 5 (some .int) ll_H :: z_tbl
theorem ll_code : Cond.codeWith yL_look cL_look 5 (some .int) ll_H ∈ z_tbl := z_in (i := 1319) (by decide +kernel) rfl
theorem ll_good : GoodIn z_tbl ll_W := by
  intro w hw
  rcases List.mem_cons.mp hw with rfl | hw
  · exact ⟨ll_code, good_of_word (z_good _ ll_code)⟩
  · exact ⟨hw, good_of_word (z_good _ hw)⟩
abbrev ll_X : String → State → State → Prop := vx_X (fun _ : Unit => False) (fun _ _ _ => True) (fun _ => False)
theorem ok0 : z_ok 117 zTy (zA 11 0) := ⟨by decide, by decide, by decide⟩
theorem ok84 : z_ok 117 zTy (zA 12 84) := ⟨by decide, by decide, by decide⟩
theorem ok116 : z_ok 117 zTy (zA 15 116) := ⟨by decide, by decide, by decide⟩
theorem ll_ini : Cond.initialized RL ∈ z_tbl := z_in (i := 175) (by decide +kernel) rfl
theorem lk_k : Cond.code yX11_look cX11_look 4 (some .int) ∈ z_tbl := z_in (i := 1325) (by decide +kernel) rfl
theorem lk_n : Cond.instanceMethod yX11_look ∈ z_tbl := z_in (i := 1323) (by decide +kernel) rfl
theorem lk_e : Cond.selects yX11_look.cls yX11_look yX11_look ∈ z_tbl := z_in (i := 1324) (by decide +kernel) rfl
theorem lk_l : Cond.methodLink RL 7 yX11_look ∈ z_tbl := z_in (i := 1322) (by decide +kernel) rfl
theorem lk_d : yX11_look.cls ≠ "java/lang/invoke/MethodHandle" ∧ yX11_look.cls ≠ "java/lang/invoke/VarHandle" ∧ (parseMethodDescriptor yX11_look.desc).map (fun d => d.parameters.length) = some 2 := ⟨by decide +kernel, by decide +kernel, by decide +kernel⟩
def ll_0 (Λ : Int → Int) : zTm := z_seq (z_al 3) (z_seq (z_ic 0) (z_seq (z_al 0) (z_seq (z_il 1) (z_seq (z_il 2) (z_seq (z_callv Λ z_BI zm_X11_look 3 11) (z_seq z_i2l (z_seq (z_last Λ) (z_seq (z_ic 0) z_iret))))))))
theorem ll_s0 {X : zX} (hC : z_Cx X RL cL_look 5 (some .int) 2) {P : Nat → Nat} : z_St X P 0 (ll_0 (x_La X)) := z_st_seq (z_ot_al 3) (z_so_aload_n hC dL_look_0 rfl) (z_st_seq (z_ot_ic 0) (z_so_iconst hC 0 dL_look_1 ⟨by decide, by decide⟩) (z_st_seq (z_ot_al 0) (z_so_aload_n hC dL_look_2 rfl) (z_st_seq (z_ot_il 1) (z_so_iload_n hC dL_look_3 rfl) (z_st_seq (z_ot_il 2) (z_so_iload_n hC dL_look_4 rfl) (z_st_seq (z_ot_callv _ z_hbI _ _ _) (z_so_callv hC z_hbI zsim_X11_look ⟨lk_k, zi_X11, lk_d, by decide, by decide⟩ lk_n lk_e rfl (by decide) (Or.inl lk_l) dL_look_5) (z_st_seq z_ot_i2l (z_so_i2l hC dL_look_8) (z_st_seq (z_ot_last _) (z_so_last hC dL_look_9) (z_st_goto hC dL_look_10 (by decide) (z_st_seq (z_ot_ic 0) (z_so_iconst hC 0 dL_look_21 ⟨by decide, by decide⟩) (z_st_iret hC dL_look_22))))))))))
theorem ll_ev {M : zM} {y w v : Int} (hf : zm_X11_look zLa [zA 11 0, zI y, zI w] M = some ([zI v], M)) (G : zG) : ll_0 zLa [zA 11 0, zI y, zI w, zA 15 116, zU] [] M G = some (.inl ([zI 0], z_wr M 116 0 v)) := by
  have e : ll_0 zLa [zA 11 0, zI y, zI w, zA 15 116, zU] [] M G = z_bI (zm_X11_look zLa [zA 11 0, zI y, zI w] M) (fun r M1 => if 0 ≤ (0 : Int) ∧ (0 : Int) < zLa 116 then some (.inl ([zI 0], z_wr M1 116 0 r)) else none) := rfl
  rw [e, hf, z_bI_mk]
  exact if_pos ⟨by decide, by decide⟩
theorem ll_loc {α : Nat → Nat} {y w : Int} {ls : Array Slot} (hle : lv_has ls 5 [(0, .ref (α 0)), (1, .int (Int32.ofInt y)), (2, .int (Int32.ofInt w)), (3, .ref (α 116))]) : ∀ i, z_nth [zA 11 0, zI y, zI w, zA 15 116, zU] i ≠ zU → ls[i]? = some (.val (z_cv α (z_nth [zA 11 0, zI y, zI w, zA 15 116, zU] i))) := fun i hi => match i, hi with
  | 0, _ => lv_at hle 0 rfl
  | 1, _ => lv_at hle 1 rfl
  | 2, _ => lv_at hle 2 rfl
  | 3, _ => lv_at hle 3 rfl
  | 4, hi => absurd rfl hi
  | _ + 5, hi => absurd rfl hi
set_option maxHeartbeats 2000000 in
/-- SaidSoLaw.look, where the class's look answers -/
theorem ll_ret (l : Launch) (D : va_G) (bs : Nat) (α : Nat → Nat) (γ : Nat → ClassId) (M : zM) (y w v : Int) (hy : z_rI y) (hw : z_rI w) (hT : z_TM 117 zTy zLa M) (hf : zm_X11_look zLa [zA 11 0, zI y, zI w] M = some ([zI v], M)) : vx_Met l yL_look ll_W (z_room 2) (va_Pc [.ref (α 0), .int (Int32.ofInt y), .int (Int32.ofInt w), .ref (α 116)] (fun U => va_P D vwCl (z_ws α γ 117 zTy zLa M) U.heap ∧ va_D (fun q => bs ≤ q) (z_ws α γ 117 zTy zLa M) ∧ z_Kn D γ 117 zTy zLa U)) (z_Qc D bs α γ 117 zTy zLa ([zI 0], z_wr M 116 0 v)) ll_X 0 0 (fun q => bs ≤ q) := by
  refine vx_ofWH (cc := cL_look) (maxL := 5) (ret := some .int) (hh := ll_H) (by decide) rfl ?_
  intro p e s m args below meth c s₁ B hml hv
  obtain ⟨rfl, hPw, hDw, hKw⟩ := hv
  have hts0 := atoms_spec (ws := ll_W) B.pre
  have hts : ∀ w ∈ z_tbl, w.before _ s = true := fun w hw => hts0 w (List.mem_cons_of_mem _ hw)
  have hown : s.vm.findClass RL = some m.cls := findClass_of_methodNamed B.named
  refine vx_ret ?_
  let X : zX := ((p, l, e, z_room 2, s), (m, ([.ref (α 0), .int (Int32.ofInt y), .int (Int32.ofInt w), .ref (α 116)] : List Value).toArray, below, meth, c), (0, 0, MQ below (z_Qc D bs α γ 117 zTy zLa ([zI 0], z_wr M 116 0 v)) ([.ref (α 0), .int (Int32.ofInt y), .int (Int32.ofInt w), .ref (α 116)] : List Value).toArray s 0 0 (fun q => bs ≤ q)), (D, bs, α, γ), (117, zTy, zLa), fun q => q = ([zI 0], z_wr M 116 0 v))
  have hC : z_Cx X RL cL_look 5 (some .int) 2 := by
    refine ⟨B.exec, B.bytes, hml, hown, hts, B.notSynchronized, B.returns, hKw, ⟨Nat.le_refl _, Nat.le_refl _, Nat.le_refl _, Nat.le_refl _⟩, ?_⟩
    intro q hq
    have hq : q = ([zI 0], z_wr M 116 0 v) := hq
    subst hq
    rfl
  have hW : z_Wn X 0 [zA 11 0, zI y, zI w, zA 15 116, zU] [] M := (ll_s0 (P := fun n => n) hC [zA 11 0, zI y, zI w, zA 15 116, zU] [] M).1 _ (fun G => ll_ev hf G) rfl
  have hle := lv_entry ([.ref (α 0), .int (Int32.ofInt y), .int (Int32.ofInt w), .ref (α 116)]) (n := 5) (Nat.le_of_ble_eq_true rfl)
  rw [lg_entry_eq]
  generalize (lg_sl ([.ref (α 0), .int (Int32.ofInt y), .int (Int32.ofInt w), .ref (α 116)]) ++ List.replicate (5 - (lg_sl ([.ref (α 0), .int (Int32.ofInt y), .int (Int32.ofInt w), .ref (α 116)])).length) Slot.unset).toArray = ls at hle ⊢
  have hle : lv_has ls 5 [(0, .ref (α 0)), (1, .int (Int32.ofInt y)), (2, .int (Int32.ofInt w)), (3, .ref (α 116))] := hle
  refine hW s.heap [] ls ⟨hPw, hDw, va_S.rf, hT⟩ ⟨hle.1.trans hml.symm, hle.2.1, ll_loc hle⟩ (fun i => ?_) (fun v hv => by cases hv)
  match i with
  | 0 => exact ok0
  | 1 => exact hy
  | 2 => exact hw
  | 3 => exact ok116
  | 4 => exact trivial
  | n + 5 => exact trivial
abbrev ll_Qc (D : va_G) (bs : Nat) (α : Nat → Nat) (γ : Nat → ClassId) (M : zM) (k : Nat) : Array Value → State → Outcome → State → Prop := va_Qi (fun r (_ : Unit) => r = Int32.ofInt (k : Int)) (fun _ t => va_P D vwCl (z_ws α γ 117 zTy zLa M) t.heap) (fun q => bs ≤ q)
set_option maxHeartbeats 2000000 in
/-- SaidSoLaw.look, where the class's look throws -/
theorem ll_thr (l : Launch) (hl : l.stackTraces = false) (D : va_G) (bs : Nat) (α : Nat → Nat) (γ : Nat → ClassId) (M : zM) (g : Nat × Nat) (y w : Int) (hy : z_rI y) (hw : z_rI w) (hT : z_TM 117 zTy zLa M) {k : Nat} {L' : List zV} (hk : k = 1 ∨ k = 2) (hev : ∀ G : zG, lk_0 zLa [zA 11 0, zI y, zI w, zU] [] M G = G k L' [] M) : vx_Met l yL_look ll_W ll_R (lk_Pc D bs α γ M g [.ref (α 0), .int (Int32.ofInt y), .int (Int32.ofInt w), .ref (α 116)]) (ll_Qc D bs α γ M k) ll_X 1 6 (fun q => bs ≤ q) := by
  refine vx_ofWH (cc := cL_look) (maxL := 5) (ret := some .int) (hh := ll_H) (by decide) rfl ?_
  intro p e s m args below meth c s₁ B hml hv
  obtain ⟨rfl, hPw, hDw, hKw, hE⟩ := hv
  have hts0 := atoms_spec (ws := ll_W) B.pre
  have hts : ∀ w ∈ z_tbl, w.before _ s = true := fun w hw => hts0 w (List.mem_cons_of_mem _ hw)
  have hown : s.vm.findClass RL = some m.cls := findClass_of_methodNamed B.named
  have htab : c.exceptionTable.toList = tableOf ll_H := vx_table B (hts _ ll_code)
  have hle := lv_entry ([.ref (α 0), .int (Int32.ofInt y), .int (Int32.ofInt w), .ref (α 116)]) (n := 5) (Nat.le_of_ble_eq_true rfl)
  rw [lg_entry_eq]
  generalize (lg_sl ([.ref (α 0), .int (Int32.ofInt y), .int (Int32.ofInt w), .ref (α 116)]) ++ List.replicate (5 - (lg_sl ([.ref (α 0), .int (Int32.ofInt y), .int (Int32.ofInt w), .ref (α 116)])).length) Slot.unset).toArray = ls at hle ⊢
  have hle : lv_has ls 5 [(0, .ref (α 0)), (1, .int (Int32.ofInt y)), (2, .int (Int32.ofInt w)), (3, .ref (α 116))] := hle
  refine lv_aload_n B.exec B.bytes dL_look_0 rfl (lv_at hle 3 rfl) ?_
  refine lv_iconst (v := 0) B.exec B.bytes dL_look_1 (by decide) ?_
  refine lv_aload_n B.exec B.bytes dL_look_2 rfl (lv_at hle 0 rfl) ?_
  refine lv_iload_n B.exec B.bytes dL_look_3 rfl (lv_at hle 1 rfl) ?_
  refine lv_iload_n B.exec B.bytes dL_look_4 rfl (lv_at hle 2 rfl) ?_
  have he : (z_ws α γ 117 zTy zLa M)[0]? = some (α 0, .inr (11, (z_fld 11).mapIdx (fun j k => z_fv α k (M 0 j)))) := z_ws_get (i := 0) (by decide)
  have cw : CallB ll_R s ([.ref (α 0), .int (Int32.ofInt y), .int (Int32.ofInt w), .ref (α 116)] : List Value).toArray RL 7 yX11_look cX11_look 4 (some .int) (z_ws1 yX11_look cX11_look 4 (some .int)) lk_R 1 6 2 := callB_of 2 hts (z_goodIn lk_k) rfl rfl rfl (hts _ zi_X11) (hts _ lk_l) lk_d ⟨by decide, by decide⟩
  refine vx_calli (vx_runV (C := RX11) (b := α 0) (As := [.int (Int32.ofInt y), .int (Int32.ofInt w)]) (rest := [.int 0, .ref (α 116)]) ⟨B.exec, B.bytes, hml, hown, hts⟩ (lk_thr l hl D bs α γ M g y w hy hw hT hk hev) ⟨cw, hts _ lk_n, hts _ lk_e⟩ ⟨lk_blind, va_recv (ci := 11) hKw.1 hPw rfl he, fun U hU hWm => ⟨rfl, by rw [hU]; exact hPw, hDw, z_Kn.warm hWm hKw, by rw [hU]; exact lk_E.warm hWm hE⟩⟩ rfl rfl hle.1 rfl (lv_room (Nat.le_of_ble_eq_true rfl)) dL_look_5 ⟨by decide, by decide⟩) va_S.rf (fun _ _ h => h) (fun _ h => h) (fun _ _ h => h) (fun E ce q9 u t H1 locs1 ht hvm _ hB hz hk1 hS1 hce hcv hcl => ?_) (fun r u t H1 locs1 _ _ hp => hp.elim)
  obtain ⟨hE1, hP1⟩ := hB
  rw [ht] at hP1
  have hLI : (Cond.classLink RL 13 lk_I).before ([.ref (α 0), .int (Int32.ofInt y), .int (Int32.ofInt w), .ref (α 116)] : List Value).toArray s = true := hts _ (z_in (i := 1320) (by decide +kernel) rfl)
  have hLN : (Cond.classLink RL 15 lk_N).before ([.ref (α 0), .int (Int32.ofInt y), .int (Int32.ofInt w), .ref (α 116)] : List Value).toArray s = true := hts _ (z_in (i := 1321) (by decide +kernel) rfl)
  have hcI : (Cond.castable lk_I lk_I).before ([.ref (α 0), .int (Int32.ofInt y), .int (Int32.ofInt w), .ref (α 116)] : List Value).toArray s = true := va_Nw.use rfl (hE.2.2.2.2.1 _ (by simp [lk_B]))
  have hcN : (Cond.castable lk_N lk_N).before ([.ref (α 0), .int (Int32.ofInt y), .int (Int32.ofInt w), .ref (α 116)] : List Value).toArray s = true := va_Nw.use rfl (hE.2.2.2.2.1 _ (by simp [lk_B]))
  rcases hk with rfl | rfl
  · have hE1 : E = lk_I := hE1
    subst hE1
    refine vx_catch (own := RL) (name := lk_I) hown [] ⟨0, 10, 13, 13⟩ [⟨0, 10, 17, 15⟩] htab (fun z hz => nomatch hz) (by decide) (by decide) hLI hcI hce hcv hcl ?_
    show W p l e ll_R s m _ below meth c H1 locs1 1 6 (vx_MQ below (ll_Qc D bs α γ M 1) ll_X _ s 1 6 (fun q => bs ≤ q)) (F0 m 13 ls [.ref q9])
    refine lv_astore (lv' := [(4, .ref q9), (0, .ref (α 0)), (1, .int (Int32.ofInt y)), (2, .int (Int32.ofInt w)), (3, .ref (α 116))]) B.exec B.bytes dL_look_13 hle (by decide) rfl (fun ls hl => ?_)
    refine lv_iconst (v := Int32.ofInt 1) B.exec B.bytes dL_look_15 (by decide) ?_
    exact vx_ret (W.iret (v := Int32.ofInt 1) B.exec B.bytes B.returns (fun t ht hW => ⟨⟨Int32.ofInt 1, (), rfl, rfl, by rw [ht]; exact hP1⟩, hS1.F ht⟩) hS1.2.2 dL_look_16 B.notSynchronized)
  · have hE1 : E = lk_N := hE1
    subst hE1
    refine vx_catch (own := RL) (name := lk_N) hown [⟨0, 10, 13, 13⟩] ⟨0, 10, 17, 15⟩ [] htab (fun z hz => Or.inr (by rcases List.mem_singleton.mp hz with rfl; exact ⟨by decide, lk_I, hLI, hE.2.2.2.2.2⟩)) (by decide) (by decide) hLN hcN hce hcv hcl ?_
    show W p l e ll_R s m _ below meth c H1 locs1 1 6 (vx_MQ below (ll_Qc D bs α γ M 2) ll_X _ s 1 6 (fun q => bs ≤ q)) (F0 m 17 ls [.ref q9])
    refine lv_astore (lv' := [(4, .ref q9), (0, .ref (α 0)), (1, .int (Int32.ofInt y)), (2, .int (Int32.ofInt w)), (3, .ref (α 116))]) B.exec B.bytes dL_look_17 hle (by decide) rfl (fun ls hl => ?_)
    refine lv_iconst (v := Int32.ofInt 2) B.exec B.bytes dL_look_19 (by decide) ?_
    exact vx_ret (W.iret (v := Int32.ofInt 2) B.exec B.bytes B.returns (fun t ht hW => ⟨⟨Int32.ofInt 2, (), rfl, rfl, by rw [ht]; exact hP1⟩, hS1.F ht⟩) hS1.2.2 dL_look_20 B.notSynchronized)
/-! the law's case 4 -/
theorem lwf_X12_look : lw_Fn yX12_look cX12_look 3 (some .int) 1 2 12 44 zm_X12_look := ⟨zsim_X12_look, ⟨z_in (i := 1763) (by decide +kernel) rfl, lwi_X12, ⟨by decide +kernel, by decide +kernel, by decide +kernel⟩, by decide, by decide⟩, z_in (i := 1761) (by decide +kernel) rfl, z_in (i := 1762) (by decide +kernel) rfl, ⟨TX12, 66, rfl⟩, by decide, z_in (i := 1760) (by decide +kernel) rfl⟩
theorem lwf_X12_thrown : lw_Fn yX12_thrown cX12_thrown 1 (some .int) 0 0 12 45 zm_X12_thrown := ⟨zsim_X12_thrown, ⟨z_in (i := 1628) (by decide +kernel) rfl, lwi_X12, ⟨by decide +kernel, by decide +kernel, by decide +kernel⟩, by decide, by decide⟩, z_in (i := 1626) (by decide +kernel) rfl, z_in (i := 1627) (by decide +kernel) rfl, ⟨TX12, 66, rfl⟩, by decide, z_in (i := 1625) (by decide +kernel) rfl⟩
theorem e_X12_thrown (N : zM) : zm_X12_thrown zLa [zA 12 84] N = some ([zI (N 84 2)], N) := by
  rw [zr_X12_thrown]
  refine z_out_some ?_
  rw [zb_X12_thrown_0]
section
variable {p : Program} {l : Launch} {e : Env} {s : State} {m : MethodId} {below : List Frame} {meth : Method} {c : Code} {b L : Nat} {xs : Nat → Int32} {D : va_G} {α : Nat → Nat} {γ : Nat → ClassId}
set_option maxHeartbeats 2000000 in
/-- behind SaidSoLaw.look -/
theorem lw_lk2 (hK : lw_Kx p l e s m b below meth c D α γ L xs) {q nc ns nc2 ns2 : Nat} (hq : 6 * q + 6 ≤ L) (a1 : nc ≤ nc2) (a2 : ns ≤ ns2) (a3 : nc2 ≤ 1143) (a4 : ns2 ≤ 15636) (hH : lw_Hd p l e s m b below meth c D α γ (q + 1) nc2 ns2) {M M2 : zM} {H : Heap} {locs : List Loc} {ls : Array Slot} {k r : Int} (hk : k = 0 ∨ k = 1 ∨ k = 2) (eg : zm_X12_look zLa [zA 12 84, zI (xs (6 * q + 1)).toInt, zI (xs (6 * q + 2)).toInt] M = some ([zI r], M2)) (tk : M2 84 2 = k) (ok : k = 0 → M2 116 0 = r) (hI : gI M2) (hR : z_Rl (lwX p l e s m b below meth c D α γ nc ns) M H locs) (hl : lv_has ls 7 (lwl b α (6 * q))) : x_W (lwX p l e s m b below meth c D α γ nc ns) H locs (F0 m 357 ls [.int (Int32.ofInt k)]) := by
  have hC := hK.1 nc ns (by omega) (by omega)
  obtain ⟨hKx, hX, hbl, hL⟩ := id hK
  have hx := hC.1
  have hb := hC.2.1
  have o84 : x_ok (lwX p l e s m b below meth c D α γ nc ns) (zA 12 84) := ok84
  have o116 : x_ok (lwX p l e s m b below meth c D α γ nc ns) (zA 15 116) := ok116
  refine lv_istore (lv' := [(5, .int (Int32.ofInt k)), (0, .ref b), (1, .ref (α 0)), (2, .ref (α 84)), (3, .ref (α 116)), (4, .int (nI (6 * q)))]) hx hb dL_law_357 hl (by decide) rfl (fun ls hl => ?_)
  refine lv_aload_n hx hb dL_law_359 rfl (lv_at hl 3 rfl) ?_
  have h0 := lv_at hl 1 rfl
  have h4 := lv_at hl 5 rfl
  refine ((lw_arg (j := 1) hC hX hbl rfl hL h0 h4 (by omega) dL_law_360 dL_law_361 dL_law_363 dL_law_364 dL_law_365).app (lw_arg (j := 2) hC hX hbl rfl hL h0 h4 (by omega) dL_law_366 dL_law_367 dL_law_369 dL_law_370 dL_law_371)) M H locs _ hR ?_
  refine lw_call hC lwf_X12_look dL_law_372 (a := 84) (q := ([zI r], M2)) eg (fun v hv => by simp only [List.mem_cons, List.cons_append, List.nil_append, List.not_mem_nil, or_false] at hv; rcases hv with rfl | rfl | rfl; exact o84; exact z_rti _; exact z_rti _) rfl hR hl.1 (by decide) (fun H2 locs2 hR2 hok2 => ?_)
  have hr : z_rI r := hok2 (zI r) List.mem_cons_self
  refine lv_istore (x := Int32.ofInt r) (lv' := [(6, .int (Int32.ofInt r)), (5, .int (Int32.ofInt k)), (0, .ref b), (1, .ref (α 0)), (2, .ref (α 84)), (3, .ref (α 116)), (4, .int (nI (6 * q)))]) hx hb dL_law_375 hl (by decide) rfl (fun ls hl => ?_)
  refine lv_aload_n hx hb dL_law_377 rfl (lv_at hl 4 rfl) ?_
  refine lw_call hC lwf_X12_thrown dL_law_378 (a := 84) (as := []) (q := ([zI k], M2)) (by rw [← tk]; exact e_X12_thrown M2) (fun v hv => by rcases List.mem_cons.mp hv with rfl | hv; exact o84; cases hv) rfl hR2 hl.1 (by decide) (fun H3 locs3 hR3 _ => ?_)
  refine lv_iload hx hb dL_law_381 (lv_at hl 1 rfl) ?_
  refine lv_icmp_eq (tgt := 388) hx hb dL_law_383 (by decide) (fun _ => ?_) (fun hne => absurd rfl hne)
  refine lv_iload hx hb dL_law_388 (lv_at hl 1 rfl) ?_
  have hend : x_W (lwX p l e s m b below meth c D α γ nc ns) H3 locs3 (F0 m 405 ls []) := by
    refine lv_goto (tgt := 1243) hx hb dL_law_405 (by decide) ?_
    exact lw_nx hK a1 a2 a3 a4 hH hI hR3 (lv_sub hl [2, 3, 4, 5, 6] rfl)
  refine lv_if_ne (tgt := 405) hx hb dL_law_390 (by decide) (fun _ => hend) (fun hz => ?_)
  have k0 : k = 0 := by
    rcases hk with h | h | h
    · exact h
    · subst h; exact absurd hz (by decide)
    · subst h; exact absurd hz (by decide)
  refine lv_aload_n hx hb dL_law_393 rfl (lv_at hl 5 rfl) ?_
  refine lv_iconst (v := Int32.ofInt 0) hx hb dL_law_394 (by decide) ?_
  have hKJ := (hC.2.2.2.2.2.2.2.1.2.2 116 (Nat.le_of_ble_eq_true rfl)).2.2 rfl
  refine va_lald hx hb hKJ hR3.1 116 0 (z_arr_j (a := 116) o116) rfl (z_vpin (i := 0) (n := zLa 116) ⟨by decide, by decide⟩ (by decide) (by decide)) dL_law_395 ?_
  rw [z_clamp ⟨by decide, by decide⟩ (by decide)]
  have e0 : M2 116 0 = r := ok k0
  rw [e0]
  refine lv_iload hx hb dL_law_396 (lv_at hl 0 rfl) ?_
  refine lv_i2l (v := Int64.ofInt r) hx hb dL_law_398 ?_ ?_
  · apply Int64.toInt_inj.mp
    rw [Int32.toInt_toInt64, z_ti hr, z_tj (z_rIJ hr)]
  refine W.lcmp hx hb dL_law_399 ?_
  have e1 : lg_cmp (Int64.ofInt r) (Int64.ofInt r) = 0 := by unfold lg_cmp; simp
  show x_W (lwX p l e s m b below meth c D α γ nc ns) H3 locs3 (F0 m 400 ls (.int (lg_cmp (Int64.ofInt r) (Int64.ofInt r)) :: []))
  rw [e1]
  exact lv_if_eq (tgt := 405) hx hb dL_law_400 (by decide) (fun _ => hend) (fun hne => absurd rfl hne)
theorem vx_to {R : Room} {args : Array Value} {H : Heap} {locs : List Loc} {cells slots mc ms : Nat} {g : JFrame} {rest : List Value} {Qa : State → Outcome → State → Prop} {free : Addr → Prop} (h : vx_Run p l e R s m args below meth c H locs cells slots mc ms g rest Qa ll_X free) : va_Run p l e R s m args below meth c H locs cells slots mc ms g rest Qa free := fun T hT X => by
  rcases h T hT X with h | ⟨q, st₀, t, T', Lo, E, ce, _, _, _, _, _, ⟨u, hx, _⟩, _⟩
  · exact h
  · exact hx.elim
theorem ll_cw {rm : Room} {mc ms : Nat} {args : Array Value} (hts : ∀ w ∈ z_tbl, w.before args s = true) (h1 : rm.cells = mc) (h2 : rm.slots = ms) (h3 : rm.frames + 1 ≤ room_1.frames) (h4 : 8 + (5 + 11) + rm.locals ≤ room_1.locals) : vx_CSW room_1 s args RL 39 yL_look cL_look 5 (some .int) ll_H ll_W rm mc ms 4 :=
  ⟨⟨h1, h2, h3, h4, pay_in hts ll_good, List.mem_cons_self⟩, hts _ ll_code, hts _ ll_ini, ⟨by decide +kernel, by decide +kernel⟩, fun sig h => by
    have h2 : (parseMethodDescriptor yL_look.desc).map (fun d => d.parameters.length) = some 4 := by decide +kernel
    rw [h] at h2
    exact (Option.some.inj h2).symm, hts _ (z_in (i := 1317) (by decide +kernel) rfl), hts _ (z_in (i := 1318) (by decide +kernel) rfl)⟩
set_option maxHeartbeats 2000000 in
theorem lw_look (hst : l.stackTraces = false) (hK : lw_Kx p l e s m b below meth c D α γ L xs) {g : Nat × Nat} (hE : lk_E g (fun q => s.heap.size ≤ q) s s.heap) : lw_Lk p l e s m b below meth c D α γ L 1 6 := by
  intro q nc ns M H locs ls hq n1 n2 hH hI hR hl
  have hC := hK.1 nc ns (by omega) (by omega)
  obtain ⟨hKx, hX, hbl, hL⟩ := id hK
  have hx := hC.1
  have hb := hC.2.1
  have h0 := lv_at hl 0 rfl
  have h4 := lv_at hl 4 rfl
  have hTM : z_TM 117 zTy zLa M := hR.2.2.2
  have hts : ∀ w ∈ z_tbl, w.before #[Value.ref b] s = true := hC.2.2.2.2.1
  have hKn : z_Kn D γ 117 zTy zLa s := hC.2.2.2.2.2.2.2.1
  refine lv_aload_n hx hb dL_law_340 rfl (lv_at hl 1 rfl) ?_
  refine ((lw_arg (j := 1) hC hX hbl rfl hL h0 h4 (by omega) dL_law_341 dL_law_342 dL_law_344 dL_law_345 dL_law_346).app (lw_arg (j := 2) hC hX hbl rfl hL h0 h4 (by omega) dL_law_347 dL_law_348 dL_law_350 dL_law_351 dL_law_352)) M H locs _ hR ?_
  refine lv_aload_n hx hb dL_law_353 rfl (lv_at hl 3 rfl) ?_
  rcases i_look hI (xs (6 * q + 1)).toInt (xs (6 * q + 2)).toInt with ⟨v, ef, M2, eg, t0, o0, hI2⟩ | ⟨k, L', M2, hk, hev, eg, tk, hI2⟩
  · refine z_back (X := lwX p l e s m b below meth c D α γ nc ns) (r := ([zI 0], z_wr M 116 0 v)) hR (vx_to (vx_runSX (As := [.ref (α 0), .int (Int32.ofInt (xs (6 * q + 1)).toInt), .int (Int32.ofInt (xs (6 * q + 2)).toInt), .ref (α 116)]) (rest := []) ⟨hx, hb, hC.2.2.1, hC.2.2.2.1, hts⟩ (ll_ret l D s.heap.size α γ M _ _ v (z_rti _) (z_rti _) hTM ef) (ll_cw hts rfl rfl (by decide) (by decide)) ⟨z_blind, fun U hU hWm => ⟨rfl, by rw [hU]; exact hR.1, hR.2.1, z_Kn.warm hWm hKn⟩⟩ rfl rfl hl.1 rfl (lv_room (Nat.le_of_ble_eq_true rfl)) dL_law_354 ⟨by show nc + 0 ≤ 1143; omega, by show ns + 0 ≤ 15636; omega⟩)) (fun H1 locs1 hR1 _ => ?_)
    exact lw_lk2 hK hq (Nat.le_add_right _ _) (Nat.le_add_right _ _) n1 n2 hH (Or.inl rfl) eg t0 (fun _ => o0) hI2 hR1 hl
  · refine vx_calli (vx_runSX (As := [.ref (α 0), .int (Int32.ofInt (xs (6 * q + 1)).toInt), .int (Int32.ofInt (xs (6 * q + 2)).toInt), .ref (α 116)]) (rest := []) ⟨hx, hb, hC.2.2.1, hC.2.2.2.1, hts⟩ (ll_thr l hst D s.heap.size α γ M g _ _ (z_rti _) (z_rti _) hTM hk hev) (ll_cw hts rfl rfl (by decide) (by decide)) ⟨lk_blind, fun U hU hWm => ⟨rfl, by rw [hU]; exact hR.1, hR.2.1, z_Kn.warm hWm hKn, by rw [hU]; exact lk_E.warm hWm (lk_E.kept hR.2.2.1.2.1 hE)⟩⟩ rfl rfl hl.1 rfl (lv_room (Nat.le_of_ble_eq_true rfl)) dL_law_354 ⟨by show nc + 1 ≤ 1143; omega, by show ns + 6 ≤ 15636; omega⟩) hR.2.2.1 (fun _ _ h => h) (fun _ h => h) (fun _ _ h => h.elim) (fun E ce q9 u t H1 locs1 _ _ hpx => hpx.elim) (fun r u t H1 locs1 ht hvm hp hB hz hk1 hS1 => ?_)
    have hp : r = Int32.ofInt (k : Int) := hp
    subst hp
    have hP1 : va_P D vwCl (z_ws α γ 117 zTy zLa M) t.heap := hB
    rw [ht] at hP1
    have hR1 : z_Rl (lwX p l e s m b below meth c D α γ (nc + 1) (ns + 6)) M H1 locs1 := ⟨hP1, hR.2.1, hS1, hTM⟩
    have k3 : (k : Int) = 0 ∨ (k : Int) = 1 ∨ (k : Int) = 2 := by omega
    exact lw_lk2 hK hq (Nat.le_refl _) (Nat.le_refl _) n1 n2 hH k3 eg tk (fun h => absurd h (by omega)) hI2 hR1 hl
/-! what the start gives to look -/
theorem st_lk {args : Array Value} (h : (Jvm.Cond.and given_1 narrow_1).before args s = true) (ht : ∀ w ∈ lw_tbl, w.before args s = true) : ∃ g : Nat × Nat, lk_E g (fun q => s.heap.size ≤ q) s s.heap := by
  have hA : ∀ a : Nat, a < s.heap.size → ¬ (fun q => s.heap.size ≤ q) a := fun a h => Nat.not_le.mpr h
  have w1 : (Cond.exactly (Term.string RX11 109) "java/lang/String").before args s = true := st_in h (i := 175) (by decide +kernel)
  have w2 : (Cond.exactly (Term.string RX11 129) "java/lang/String").before args s = true := st_in h (i := 193) (by decide +kernel)
  obtain ⟨sa, _, _, _, ea, _⟩ := Cond.exactly_spec (show (Cond.exactly (Term.string RX11 109) "java/lang/String").holds args s none s [] = true from w1)
  obtain ⟨sb, _, _, _, eb, _⟩ := Cond.exactly_spec (show (Cond.exactly (Term.string RX11 129) "java/lang/String").holds args s none s [] = true from w2)
  have tb : ∀ {w : Cond} {i : Nat}, lw_tbl[i]? = some w → w.before args s = true := fun hi => ht _ (List.mem_of_getElem? hi)
  exact ⟨(sa, sb), vk_R.of (tb (i := 1366) (by decide +kernel)) ea, vk_R.of (tb (i := 1401) (by decide +kernel)) eb, vx_Zqof (tb (i := 1353) (by decide +kernel)) (tb (i := 194) (by decide +kernel)) (st_in h (i := 9) (by decide +kernel)) hA, vx_Zqof (tb (i := 1355) (by decide +kernel)) (tb (i := 194) (by decide +kernel)) (st_in h (i := 10) (by decide +kernel)) hA, fun w hw => va_Nw.of (lk_ot w hw) (ht w (lk_Bt w hw)), va_Nc.of (st_in h (i := 24) (by decide +kernel))⟩
end
end
section
/-! ===== the law, from its entry to its end ===== -/
theorem whole_start {p : Program} {e : Env} {s : State} {m : MethodId} {below : List Frame} {meth : Method} {c : Code} (l : Launch) {b L : Nat} {xs : Nat → Int32} (hfl : l.flags = flags0) (hL : L ≤ 3072) (C0 : lw_At p s m meth c b L xs) : W p l e room_1 s m #[Value.ref b] below meth c s.heap [] 0 0 (lw_Z below #[Value.ref b] s) (entryFrame m ([Value.ref b] : List Value).toArray 7) := by
  obtain ⟨hx, hb, hr, hml, hown, hts0, hX, hbl, hlocks, hgv⟩ := id C0
  obtain ⟨g, hE⟩ := st_lk hgv hts0
  have hst : l.stackTraces = false := by
    unfold Launch.stackTraces
    rw [hfl]
    decide +kernel
  refine lw_begin hL C0 (fun D α γ hK => ?_)
  have h := law_loop hK (kc := 1) (ks := 6) (nc0 := 117) (ns0 := 7432) (by decide) (by decide) (lw_look hst hK hE) (L + 1) 0 (by omega) (by omega)
  rw [Nat.zero_mul, Nat.zero_mul] at h
  exact h
end
set_option maxHeartbeats 4000000 in
theorem lw_walk (l : Launch) (hfl : l.flags = flags0) (b : Addr) (xs : List Int32) : MetFree l x (headSpec (Jvm.Cond.code x code maxLocals ret :: tables_1) room_1) (lw_P b xs) (fun _ _ _ _ _ => True) lw_Q := by
  refine MetFree.of_bodyS (code := code) (maxLocals := maxLocals) (ret := ret) (by decide) ?_ ?_
  · intro args s m h hn
    obtain ⟨meth, c, h1, h2, h3, h4, h5, h6, -, -⟩ := Cond.code_spec hn (atoms_spec (ws := Jvm.Cond.code x code maxLocals ret :: tables_1) h _ List.mem_cons_self)
    exact ⟨meth, c, h1, h2, h3, h4, h5, h6⟩
  · intro p e s m args below meth c s₁ B hml0 hP _
    obtain ⟨rfl, hx, hbd, hgv⟩ := hP
    obtain ⟨scr, harrAt, hlist, hof, hsmall⟩ := hx
    obtain ⟨hcb, hkn, -, -⟩ := State.arrayAt?_spec harrAt
    have hown : s.vm.findClass R_law = some m.cls := findClass_of_methodNamed B.named
    have hts0 : ∀ c ∈ (Jvm.Cond.code x code maxLocals ret :: tables_1), c.before #[Value.ref b] s = true := atoms_spec (ws := Jvm.Cond.code x code maxLocals ret :: tables_1) B.pre
    have hts : ∀ w ∈ lw_tbl, w.before #[Value.ref b] s = true := k2_hts_sels lw_privs (fun w hw => hts0 w (List.mem_cons_of_mem _ hw)) lw_privs_ok
    have hml : c.maxLocals = 7 := B.maxLocals_eq (hts0 _ List.mem_cons_self)
    have X₀ : Stand p l e room_1 s m #[Value.ref b] below meth c s₁ [] 0 0 := Stand.of_body B
    have hh0 : s₁.heap = s.heap := by rw [B.state]; rfl
    have hsz : scr.slots.size = xs.length := by rw [← Array.length_toList, hlist, List.length_map]
    have hval : ∀ j : Nat, j < xs.length → scr.slots[j]? = some (.int (xs.getD j 0)) := fun j hj => by
      rw [← Array.getElem?_toList, hlist]
      simp [hj]
    have hbl : b < s.heap.size := (Array.getElem?_eq_some_iff.mp hcb).1
    have hX : va_X b xs.length (fun j => xs.getD j 0) s s.heap := ⟨scr, hcb, hof, hkn, hsz, hval⟩
    have K : W p l e room_1 s m #[Value.ref b] below meth c s₁.heap [] 0 0 (lw_Z below #[Value.ref b] s) (entryFrame m ([Value.ref b] : List Value).toArray 7) := by
      rw [hh0]
      exact whole_start l hfl hbd ⟨B.exec, B.bytes, B.returns, hml, hown, hts, hX, hbl, B.notSynchronized, hgv⟩
    obtain ⟨t, a1, o, b1, b2, b3⟩ := K s₁ rfl X₀
    exact ⟨t, o, a1, b1, b2, b3⟩
theorem lw_pre_spec {args : Array Value} {s : State} (h : (Jvm.Cond.and given_1 narrow_1).before args s = true) (hr : rest_1_c.before args s = true) : ∃ (b : Addr) (xs : List Int32), lw_P b xs args s := by
  have hs := flat_of_before _ h
  have hq := flat_of_before _ hr
  have hc : (Cond.count 1).before args s = true := hs _ (by decide +kernel)
  have harr : (Cond.arrayOf (.arg 0) .int).before args s = true := hs _ (by decide +kernel)
  have hle : (Cond.le (.length (.arg 0)) (.int 3072)).before args s = true := hs _ (by decide +kernel)
  have hlen : (Cond.isInt (.length (.arg 0))).before args s = true := hq _ (by decide +kernel)
  have hall : (Cond.all (.arg 0) (.isInt (.elem (.arg 0) (.index 0)))).before args s = true := hq _ (by decide +kernel)
  obtain ⟨b, xs, hb, hx⟩ := State.ints_of_pre rfl harr hlen hall
  have hsm : xs.length < 2 ^ 31 := hx.choose_spec.2.2.2
  have hev : (Term.length (.arg 0)).eval args s none [] s = some (.int xs.length.toInt32) := hx.length_eval hb
  have hv := Cond.le_ints hev (show (Term.int 3072).eval args s none [] s = some (.int 3072) from rfl)
  have hd : xs.length.toInt32 ≤ 3072 := by
    simpa [Cond.before, Cond.holds, hv] using hle
  have hN : xs.length ≤ 3072 := (Int32.ofNat_le_ofNat hsm (by decide)).mp (show Int32.ofNat xs.length ≤ Int32.ofNat 3072 from hd)
  exact ⟨b, xs, Cond.one_arg hc (show args[0]? = some (.ref b) from hb), hx, hN, h⟩
theorem lw_comes (l : Launch) (hfl : l.flags = flags0) : Comes l x (Jvm.Cond.code x code maxLocals ret :: tables_1) room_1 (fun tb e args s => Calls_1 tb e args s ∧ rest_1 tb e args s ∧ Pre_1 tb e args s)
    (fun _ _ args s o t => lw_Q args s o t) := by
  intro p e ha hc hk s m args below hf hfit hheap happ hpre
  obtain ⟨b, xs, hP⟩ := lw_pre_spec hpre.2.2 hpre.2.1
  obtain ⟨k, o, h1, h2, h3, hQ⟩ := lw_walk l hfl b xs p e ha hc hk s m args below hf ((Spec.applies_iff_loose hf).mp happ).1 hP trivial
  exact ⟨k, o, h1, h2, h3, hQ⟩
theorem lw_frame {s t : State} {o : Outcome} {args : Array Value} (h : Framed s o t [] 1143 15636) :
    Framed s o t (fieldLocs frame_1_writes args s ++ arrayLocs frame_1_arrays args s ++ staticLocs frame_1_statics s) 1143 15636 := h
theorem lw_limb (L : Cond) (hL : ∀ (args : Array Value) (s t : State), L.after args s (.returned (some (.int 1))) t = true) :
    ArmFor flags0 classFile x code maxLocals ret World_1 tables_1 room_1 Calls_1 rest_1 Pre_1
      (fun tb e a s o t => postC L tb e a s o t ∧ Framed s o t (fieldLocs frame_1_writes a s ++ arrayLocs frame_1_arrays a s ++ staticLocs frame_1_statics s) 1143 15636) := by
  intro l hfl _ _ p e ha hc hk s m args below hf hfit hheap happ hpre
  obtain ⟨k, o, h1, h2, h3, rfl, hF⟩ := lw_comes l hfl p e ha hc hk s m args below hf hfit hheap happ hpre
  exact ⟨k, _, h1, h2, h3, hL args s _, lw_frame hF⟩
theorem i_vc : Claimed_1_1 ∧ Claimed_1_2 := ⟨lw_limb limb_1_1 (fun args s t => by simp [limb_1_1, Cond.after, Cond.holds, Cond.value]), lw_limb limb_1_2 (fun args s t => Cond.after_iff.mpr (by
  first | (rw [show limb_1_2 = Cond.eq .result (.int 1) from rfl, Cond.eq_ints (x := 1) (y := 1) rfl rfl]; simp; done) | (simp [limb_1_2, Cond.value, Term.eval]; done)))⟩
