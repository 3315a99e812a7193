/-! ===== the constructors that only set fields ===== -/
theorem cf_X9_9 : ct_Fl RX9 9 9 0 RX9 TX9 6 tyX9 := ⟨rfl, z_inX9, by decide, z_in (i := 330) (by decide +kernel) rfl, rfl, tyX9_ok, nmX9⟩
theorem cf_X9_15 : ct_Fl RX9 15 9 1 RX9 TX9 6 tyX9 := ⟨rfl, z_inX9, by decide, z_in (i := 334) (by decide +kernel) rfl, rfl, tyX9_ok, nmX9⟩
theorem cf_X9_19 : ct_Fl RX9 19 9 2 RX9 TX9 6 tyX9 := ⟨rfl, z_inX9, by decide, z_in (i := 335) (by decide +kernel) rfl, rfl, tyX9_ok, nmX9⟩
theorem cf_X9_22 : ct_Fl RX9 22 9 3 RX9 TX9 6 tyX9 := ⟨rfl, z_inX9, by decide, z_in (i := 341) (by decide +kernel) rfl, rfl, tyX9_ok, nmX9⟩
theorem cf_X9_25 : ct_Fl RX9 25 9 4 RX9 TX9 6 tyX9 := ⟨rfl, z_inX9, by decide, z_in (i := 347) (by decide +kernel) rfl, rfl, tyX9_ok, nmX9⟩
theorem cf_X9_28 : ct_Fl RX9 28 9 5 RX9 TX9 6 tyX9 := ⟨rfl, z_inX9, by decide, z_in (i := 351) (by decide +kernel) rfl, rfl, tyX9_ok, nmX9⟩
def shX9 (α : Nat → Nat) (γ : Nat → ClassId) : va_W := ((α 0, .inr (9, [.int (Int32.ofInt 0), .ref (α 1), .ref (α 2), .ref (α 3), .ref (α 4), .ref (α 5)])) :: (((([(α 1, .inl (γ 1, ct_I 8 []))] ++ [(α 2, .inl (γ 2, ct_I 8 []))]) ++ [(α 3, .inl (γ 3, ct_I 8 []))]) ++ [(α 4, .inl (γ 4, ct_I 8 []))]) ++ [(α 5, .inl (γ 5, ct_I 8 []))]))
def tyX9s (γ : Nat → ClassId) : List (ClassId × FieldType) := (((([(γ 1, .int)] ++ [(γ 2, .int)]) ++ [(γ 3, .int)]) ++ [(γ 4, .int)]) ++ [(γ 5, .int)])
set_option maxRecDepth 20000 in
set_option maxHeartbeats 4000000 in
theorem ci_X9 (l : Launch) (D : va_G) : ct_Met l D (fun _ _ => True) yX9_init cX9_init 1 { frames := 1, cells := 5, slots := 40, locals := 38 } 9 [.int (Int32.ofInt 0), .null, .null, .null, .null, .null] shX9 tyX9s 5 40 := by
  refine ct_met (i0 := 3) (by decide) rfl (by decide) (z_in (i := 329) (by decide +kernel) rfl) dX9_init_0 dX9_init_1 (by decide) (by decide) ?_
  intro p e s m args below meth c A h0 ls Q hC hA hR hE hl hend
  refine ct_set (v := .int (Int32.ofInt 0)) hC cf_X9_9 rfl rfl hR 0 rfl (Nat.le_of_ble_eq_true rfl) (lv_at hl 0 rfl) dX9_init_4 (fun _ _ _ z => lv_iconst hC.1 hC.2.1 dX9_init_5 rfl z) dX9_init_6 (fun H locs hR => ?_)
  have hR : ct_R D A s [(h0, .inr (9, [.int (Int32.ofInt 0), .null, .null, .null, .null, .null]))] [] H locs := hR
  refine ct_arr (a0 := ct_I 8 []) (n := Int32.ofInt 8) hC cf_X9_15 ct_hI rfl (fun _ => rfl) (fun _ => rfl) hR hA 0 rfl (Nat.le_of_ble_eq_true rfl) (ct_aI 8) (by decide) (by decide) (by decide) (by decide) (by decide) (lv_at hl 0 rfl) dX9_init_9 (fun _ _ _ z => lv_bipush hC.1 hC.2.1 dX9_init_10 (by decide) z) dX9_init_12 dX9_init_14 (fun q1 c1 H locs hR => ?_)
  have hR : ct_R D A s ((h0, .inr (9, [.int (Int32.ofInt 0), .ref q1, .null, .null, .null, .null])) :: [(q1, .inl (c1, ct_I 8 []))]) ([(c1, .int)]) H locs := hR
  refine ct_arr (a0 := ct_I 8 []) (n := Int32.ofInt 8) hC cf_X9_19 ct_hI rfl (fun _ => rfl) (fun _ => rfl) hR hA 0 rfl (Nat.le_of_ble_eq_true rfl) (ct_aI 8) (by decide) (by decide) (by decide) (by decide) (by decide) (lv_at hl 0 rfl) dX9_init_17 (fun _ _ _ z => lv_bipush hC.1 hC.2.1 dX9_init_18 (by decide) z) dX9_init_20 dX9_init_22 (fun q2 c2 H locs hR => ?_)
  have hR : ct_R D A s ((h0, .inr (9, [.int (Int32.ofInt 0), .ref q1, .ref q2, .null, .null, .null])) :: ([(q1, .inl (c1, ct_I 8 []))] ++ [(q2, .inl (c2, ct_I 8 []))])) (([(c1, .int)]) ++ [(c2, .int)]) H locs := hR
  refine ct_arr (a0 := ct_I 8 []) (n := Int32.ofInt 8) hC cf_X9_22 ct_hI rfl (fun _ => rfl) (fun _ => rfl) hR hA 0 rfl (Nat.le_of_ble_eq_true rfl) (ct_aI 8) (by decide) (by decide) (by decide) (by decide) (by decide) (lv_at hl 0 rfl) dX9_init_25 (fun _ _ _ z => lv_bipush hC.1 hC.2.1 dX9_init_26 (by decide) z) dX9_init_28 dX9_init_30 (fun q3 c3 H locs hR => ?_)
  have hR : ct_R D A s ((h0, .inr (9, [.int (Int32.ofInt 0), .ref q1, .ref q2, .ref q3, .null, .null])) :: (([(q1, .inl (c1, ct_I 8 []))] ++ [(q2, .inl (c2, ct_I 8 []))]) ++ [(q3, .inl (c3, ct_I 8 []))])) ((([(c1, .int)]) ++ [(c2, .int)]) ++ [(c3, .int)]) H locs := hR
  refine ct_arr (a0 := ct_I 8 []) (n := Int32.ofInt 8) hC cf_X9_25 ct_hI rfl (fun _ => rfl) (fun _ => rfl) hR hA 0 rfl (Nat.le_of_ble_eq_true rfl) (ct_aI 8) (by decide) (by decide) (by decide) (by decide) (by decide) (lv_at hl 0 rfl) dX9_init_33 (fun _ _ _ z => lv_bipush hC.1 hC.2.1 dX9_init_34 (by decide) z) dX9_init_36 dX9_init_38 (fun q4 c4 H locs hR => ?_)
  have hR : ct_R D A s ((h0, .inr (9, [.int (Int32.ofInt 0), .ref q1, .ref q2, .ref q3, .ref q4, .null])) :: ((([(q1, .inl (c1, ct_I 8 []))] ++ [(q2, .inl (c2, ct_I 8 []))]) ++ [(q3, .inl (c3, ct_I 8 []))]) ++ [(q4, .inl (c4, ct_I 8 []))])) (((([(c1, .int)]) ++ [(c2, .int)]) ++ [(c3, .int)]) ++ [(c4, .int)]) H locs := hR
  refine ct_arr (a0 := ct_I 8 []) (n := Int32.ofInt 8) hC cf_X9_28 ct_hI rfl (fun _ => rfl) (fun _ => rfl) hR hA 0 rfl (Nat.le_of_ble_eq_true rfl) (ct_aI 8) (by decide) (by decide) (by decide) (by decide) (by decide) (lv_at hl 0 rfl) dX9_init_41 (fun _ _ _ z => lv_bipush hC.1 hC.2.1 dX9_init_42 (by decide) z) dX9_init_44 dX9_init_46 (fun q5 c5 H locs hR => ?_)
  have hR : ct_R D A s ((h0, .inr (9, [.int (Int32.ofInt 0), .ref q1, .ref q2, .ref q3, .ref q4, .ref q5])) :: (((([(q1, .inl (c1, ct_I 8 []))] ++ [(q2, .inl (c2, ct_I 8 []))]) ++ [(q3, .inl (c3, ct_I 8 []))]) ++ [(q4, .inl (c4, ct_I 8 []))]) ++ [(q5, .inl (c5, ct_I 8 []))])) ((((([(c1, .int)]) ++ [(c2, .int)]) ++ [(c3, .int)]) ++ [(c4, .int)]) ++ [(c5, .int)]) H locs := hR
  exact hend (fun i => cond (Nat.ble i 0) (h0) (cond (Nat.ble i 1) (q1) (cond (Nat.ble i 2) (q2) (cond (Nat.ble i 3) (q3) (cond (Nat.ble i 4) (q4) (cond (Nat.ble i 5) (q5) (0)))))), fun i => cond (Nat.ble i 0) (0) (cond (Nat.ble i 1) (c1) (cond (Nat.ble i 2) (c2) (cond (Nat.ble i 3) (c3) (cond (Nat.ble i 4) (c4) (cond (Nat.ble i 5) (c5) (0))))))) H locs 49 ls rfl hR dX9_init_49

theorem cf_X8_9 : ct_Fl RX8 9 8 0 RX8 TX8 6 tyX8 := ⟨rfl, z_inX8, by decide, z_in (i := 374) (by decide +kernel) rfl, rfl, tyX8_ok, nmX8⟩
theorem cf_X8_15 : ct_Fl RX8 15 8 1 RX8 TX8 6 tyX8 := ⟨rfl, z_inX8, by decide, z_in (i := 378) (by decide +kernel) rfl, rfl, tyX8_ok, nmX8⟩
theorem cf_X8_19 : ct_Fl RX8 19 8 2 RX8 TX8 6 tyX8 := ⟨rfl, z_inX8, by decide, z_in (i := 379) (by decide +kernel) rfl, rfl, tyX8_ok, nmX8⟩
theorem cf_X8_22 : ct_Fl RX8 22 8 3 RX8 TX8 6 tyX8 := ⟨rfl, z_inX8, by decide, z_in (i := 382) (by decide +kernel) rfl, rfl, tyX8_ok, nmX8⟩
theorem cf_X8_25 : ct_Fl RX8 25 8 4 RX8 TX8 6 tyX8 := ⟨rfl, z_inX8, by decide, z_in (i := 387) (by decide +kernel) rfl, rfl, tyX8_ok, nmX8⟩
theorem cf_X8_28 : ct_Fl RX8 28 8 5 RX8 TX8 6 tyX8 := ⟨rfl, z_inX8, by decide, z_in (i := 392) (by decide +kernel) rfl, rfl, tyX8_ok, nmX8⟩
def shX8 (α : Nat → Nat) (γ : Nat → ClassId) : va_W := ((α 0, .inr (8, [.int (Int32.ofInt 0), .ref (α 1), .ref (α 2), .ref (α 3), .ref (α 4), .ref (α 5)])) :: (((([(α 1, .inl (γ 1, ct_I 5 []))] ++ [(α 2, .inl (γ 2, ct_I 5 []))]) ++ [(α 3, .inl (γ 3, ct_I 5 []))]) ++ [(α 4, .inl (γ 4, ct_I 5 []))]) ++ [(α 5, .inl (γ 5, ct_I 5 []))]))
def tyX8s (γ : Nat → ClassId) : List (ClassId × FieldType) := (((([(γ 1, .int)] ++ [(γ 2, .int)]) ++ [(γ 3, .int)]) ++ [(γ 4, .int)]) ++ [(γ 5, .int)])
set_option maxRecDepth 20000 in
set_option maxHeartbeats 4000000 in
theorem ci_X8 (l : Launch) (D : va_G) : ct_Met l D (fun _ _ => True) yX8_init cX8_init 1 { frames := 1, cells := 5, slots := 25, locals := 38 } 8 [.int (Int32.ofInt 0), .null, .null, .null, .null, .null] shX8 tyX8s 5 25 := by
  refine ct_met (i0 := 3) (by decide) rfl (by decide) (z_in (i := 373) (by decide +kernel) rfl) dX8_init_0 dX8_init_1 (by decide) (by decide) ?_
  intro p e s m args below meth c A h0 ls Q hC hA hR hE hl hend
  refine ct_set (v := .int (Int32.ofInt 0)) hC cf_X8_9 rfl rfl hR 0 rfl (Nat.le_of_ble_eq_true rfl) (lv_at hl 0 rfl) dX8_init_4 (fun _ _ _ z => lv_iconst hC.1 hC.2.1 dX8_init_5 rfl z) dX8_init_6 (fun H locs hR => ?_)
  have hR : ct_R D A s [(h0, .inr (8, [.int (Int32.ofInt 0), .null, .null, .null, .null, .null]))] [] H locs := hR
  refine ct_arr (a0 := ct_I 5 []) (n := Int32.ofInt 5) hC cf_X8_15 ct_hI rfl (fun _ => rfl) (fun _ => rfl) hR hA 0 rfl (Nat.le_of_ble_eq_true rfl) (ct_aI 5) (by decide) (by decide) (by decide) (by decide) (by decide) (lv_at hl 0 rfl) dX8_init_9 (fun _ _ _ z => lv_iconst hC.1 hC.2.1 dX8_init_10 rfl z) dX8_init_11 dX8_init_13 (fun q1 c1 H locs hR => ?_)
  have hR : ct_R D A s ((h0, .inr (8, [.int (Int32.ofInt 0), .ref q1, .null, .null, .null, .null])) :: [(q1, .inl (c1, ct_I 5 []))]) ([(c1, .int)]) H locs := hR
  refine ct_arr (a0 := ct_I 5 []) (n := Int32.ofInt 5) hC cf_X8_19 ct_hI rfl (fun _ => rfl) (fun _ => rfl) hR hA 0 rfl (Nat.le_of_ble_eq_true rfl) (ct_aI 5) (by decide) (by decide) (by decide) (by decide) (by decide) (lv_at hl 0 rfl) dX8_init_16 (fun _ _ _ z => lv_iconst hC.1 hC.2.1 dX8_init_17 rfl z) dX8_init_18 dX8_init_20 (fun q2 c2 H locs hR => ?_)
  have hR : ct_R D A s ((h0, .inr (8, [.int (Int32.ofInt 0), .ref q1, .ref q2, .null, .null, .null])) :: ([(q1, .inl (c1, ct_I 5 []))] ++ [(q2, .inl (c2, ct_I 5 []))])) (([(c1, .int)]) ++ [(c2, .int)]) H locs := hR
  refine ct_arr (a0 := ct_I 5 []) (n := Int32.ofInt 5) hC cf_X8_22 ct_hI rfl (fun _ => rfl) (fun _ => rfl) hR hA 0 rfl (Nat.le_of_ble_eq_true rfl) (ct_aI 5) (by decide) (by decide) (by decide) (by decide) (by decide) (lv_at hl 0 rfl) dX8_init_23 (fun _ _ _ z => lv_iconst hC.1 hC.2.1 dX8_init_24 rfl z) dX8_init_25 dX8_init_27 (fun q3 c3 H locs hR => ?_)
  have hR : ct_R D A s ((h0, .inr (8, [.int (Int32.ofInt 0), .ref q1, .ref q2, .ref q3, .null, .null])) :: (([(q1, .inl (c1, ct_I 5 []))] ++ [(q2, .inl (c2, ct_I 5 []))]) ++ [(q3, .inl (c3, ct_I 5 []))])) ((([(c1, .int)]) ++ [(c2, .int)]) ++ [(c3, .int)]) H locs := hR
  refine ct_arr (a0 := ct_I 5 []) (n := Int32.ofInt 5) hC cf_X8_25 ct_hI rfl (fun _ => rfl) (fun _ => rfl) hR hA 0 rfl (Nat.le_of_ble_eq_true rfl) (ct_aI 5) (by decide) (by decide) (by decide) (by decide) (by decide) (lv_at hl 0 rfl) dX8_init_30 (fun _ _ _ z => lv_iconst hC.1 hC.2.1 dX8_init_31 rfl z) dX8_init_32 dX8_init_34 (fun q4 c4 H locs hR => ?_)
  have hR : ct_R D A s ((h0, .inr (8, [.int (Int32.ofInt 0), .ref q1, .ref q2, .ref q3, .ref q4, .null])) :: ((([(q1, .inl (c1, ct_I 5 []))] ++ [(q2, .inl (c2, ct_I 5 []))]) ++ [(q3, .inl (c3, ct_I 5 []))]) ++ [(q4, .inl (c4, ct_I 5 []))])) (((([(c1, .int)]) ++ [(c2, .int)]) ++ [(c3, .int)]) ++ [(c4, .int)]) H locs := hR
  refine ct_arr (a0 := ct_I 5 []) (n := Int32.ofInt 5) hC cf_X8_28 ct_hI rfl (fun _ => rfl) (fun _ => rfl) hR hA 0 rfl (Nat.le_of_ble_eq_true rfl) (ct_aI 5) (by decide) (by decide) (by decide) (by decide) (by decide) (lv_at hl 0 rfl) dX8_init_37 (fun _ _ _ z => lv_iconst hC.1 hC.2.1 dX8_init_38 rfl z) dX8_init_39 dX8_init_41 (fun q5 c5 H locs hR => ?_)
  have hR : ct_R D A s ((h0, .inr (8, [.int (Int32.ofInt 0), .ref q1, .ref q2, .ref q3, .ref q4, .ref q5])) :: (((([(q1, .inl (c1, ct_I 5 []))] ++ [(q2, .inl (c2, ct_I 5 []))]) ++ [(q3, .inl (c3, ct_I 5 []))]) ++ [(q4, .inl (c4, ct_I 5 []))]) ++ [(q5, .inl (c5, ct_I 5 []))])) ((((([(c1, .int)]) ++ [(c2, .int)]) ++ [(c3, .int)]) ++ [(c4, .int)]) ++ [(c5, .int)]) H locs := hR
  exact hend (fun i => cond (Nat.ble i 0) (h0) (cond (Nat.ble i 1) (q1) (cond (Nat.ble i 2) (q2) (cond (Nat.ble i 3) (q3) (cond (Nat.ble i 4) (q4) (cond (Nat.ble i 5) (q5) (0)))))), fun i => cond (Nat.ble i 0) (0) (cond (Nat.ble i 1) (c1) (cond (Nat.ble i 2) (c2) (cond (Nat.ble i 3) (c3) (cond (Nat.ble i 4) (c4) (cond (Nat.ble i 5) (c5) (0))))))) H locs 44 ls rfl hR dX8_init_44

theorem cf_X3_9 : ct_Fl RX3 9 3 0 RX3 TX3 7 tyX3 := ⟨rfl, z_inX3, by decide, z_in (i := 416) (by decide +kernel) rfl, rfl, tyX3_ok, nmX3⟩
theorem cf_X3_15 : ct_Fl RX3 15 3 1 RX3 TX3 7 tyX3 := ⟨rfl, z_inX3, by decide, z_in (i := 423) (by decide +kernel) rfl, rfl, tyX3_ok, nmX3⟩
theorem cf_X3_18 : ct_Fl RX3 18 3 2 RX3 TX3 7 tyX3 := ⟨rfl, z_inX3, by decide, z_in (i := 427) (by decide +kernel) rfl, rfl, tyX3_ok, nmX3⟩
theorem cf_X3_22 : ct_Fl RX3 22 3 3 RX3 TX3 7 tyX3 := ⟨rfl, z_inX3, by decide, z_in (i := 431) (by decide +kernel) rfl, rfl, tyX3_ok, nmX3⟩
theorem cf_X3_26 : ct_Fl RX3 26 3 4 RX3 TX3 7 tyX3 := ⟨rfl, z_inX3, by decide, z_in (i := 435) (by decide +kernel) rfl, rfl, tyX3_ok, nmX3⟩
theorem cf_X3_29 : ct_Fl RX3 29 3 5 RX3 TX3 7 tyX3 := ⟨rfl, z_inX3, by decide, z_in (i := 439) (by decide +kernel) rfl, rfl, tyX3_ok, nmX3⟩
theorem cf_X3_32 : ct_Fl RX3 32 3 6 RX3 TX3 7 tyX3 := ⟨rfl, z_inX3, by decide, z_in (i := 444) (by decide +kernel) rfl, rfl, tyX3_ok, nmX3⟩
def shX3 (α : Nat → Nat) (γ : Nat → ClassId) : va_W := ((α 0, .inr (3, [.int (Int32.ofInt 0), .int (Int32.ofInt 0), .ref (α 1), .ref (α 2), .ref (α 3), .ref (α 4), .ref (α 5)])) :: (((([(α 1, .inl (γ 1, ct_I 60 []))] ++ [(α 2, .inl (γ 2, ct_I 60 []))]) ++ [(α 3, .inl (γ 3, ct_I 60 []))]) ++ [(α 4, .inl (γ 4, ct_I 60 []))]) ++ [(α 5, .inl (γ 5, ct_I 60 []))]))
def tyX3s (γ : Nat → ClassId) : List (ClassId × FieldType) := (((([(γ 1, .boolean)] ++ [(γ 2, .int)]) ++ [(γ 3, .int)]) ++ [(γ 4, .int)]) ++ [(γ 5, .int)])
set_option maxRecDepth 20000 in
set_option maxHeartbeats 4000000 in
theorem ci_X3 (l : Launch) (D : va_G) : ct_Met l D (fun _ _ => True) yX3_init cX3_init 1 { frames := 1, cells := 5, slots := 300, locals := 38 } 3 [.int (Int32.ofInt 0), .int (Int32.ofInt 0), .null, .null, .null, .null, .null] shX3 tyX3s 5 300 := by
  refine ct_met (i0 := 3) (by decide) rfl (by decide) (z_in (i := 415) (by decide +kernel) rfl) dX3_init_0 dX3_init_1 (by decide) (by decide) ?_
  intro p e s m args below meth c A h0 ls Q hC hA hR hE hl hend
  refine ct_set (v := .int (Int32.ofInt 0)) hC cf_X3_9 rfl rfl hR 0 rfl (Nat.le_of_ble_eq_true rfl) (lv_at hl 0 rfl) dX3_init_4 (fun _ _ _ z => lv_iconst hC.1 hC.2.1 dX3_init_5 rfl z) dX3_init_6 (fun H locs hR => ?_)
  have hR : ct_R D A s [(h0, .inr (3, [.int (Int32.ofInt 0), .int (Int32.ofInt 0), .null, .null, .null, .null, .null]))] [] H locs := hR
  refine ct_set (v := .int (Int32.ofInt 0)) hC cf_X3_15 rfl rfl hR 0 rfl (Nat.le_of_ble_eq_true rfl) (lv_at hl 0 rfl) dX3_init_9 (fun _ _ _ z => lv_iconst hC.1 hC.2.1 dX3_init_10 rfl z) dX3_init_11 (fun H locs hR => ?_)
  have hR : ct_R D A s [(h0, .inr (3, [.int (Int32.ofInt 0), .int (Int32.ofInt 0), .null, .null, .null, .null, .null]))] [] H locs := hR
  refine ct_arr (a0 := ct_I 60 []) (n := Int32.ofInt 60) hC cf_X3_18 ct_hZ rfl (fun _ => rfl) (fun _ => rfl) hR hA 0 rfl (Nat.le_of_ble_eq_true rfl) (ct_aZ 60) (by decide) (by decide) (by decide) (by decide) (by decide) (lv_at hl 0 rfl) dX3_init_14 (fun _ _ _ z => lv_bipush hC.1 hC.2.1 dX3_init_15 (by decide) z) dX3_init_17 dX3_init_19 (fun q1 c1 H locs hR => ?_)
  have hR : ct_R D A s ((h0, .inr (3, [.int (Int32.ofInt 0), .int (Int32.ofInt 0), .ref q1, .null, .null, .null, .null])) :: [(q1, .inl (c1, ct_I 60 []))]) ([(c1, .boolean)]) H locs := hR
  refine ct_arr (a0 := ct_I 60 []) (n := Int32.ofInt 60) hC cf_X3_22 ct_hI rfl (fun _ => rfl) (fun _ => rfl) hR hA 0 rfl (Nat.le_of_ble_eq_true rfl) (ct_aI 60) (by decide) (by decide) (by decide) (by decide) (by decide) (lv_at hl 0 rfl) dX3_init_22 (fun _ _ _ z => lv_bipush hC.1 hC.2.1 dX3_init_23 (by decide) z) dX3_init_25 dX3_init_27 (fun q2 c2 H locs hR => ?_)
  have hR : ct_R D A s ((h0, .inr (3, [.int (Int32.ofInt 0), .int (Int32.ofInt 0), .ref q1, .ref q2, .null, .null, .null])) :: ([(q1, .inl (c1, ct_I 60 []))] ++ [(q2, .inl (c2, ct_I 60 []))])) (([(c1, .boolean)]) ++ [(c2, .int)]) H locs := hR
  refine ct_arr (a0 := ct_I 60 []) (n := Int32.ofInt 60) hC cf_X3_26 ct_hI rfl (fun _ => rfl) (fun _ => rfl) hR hA 0 rfl (Nat.le_of_ble_eq_true rfl) (ct_aI 60) (by decide) (by decide) (by decide) (by decide) (by decide) (lv_at hl 0 rfl) dX3_init_30 (fun _ _ _ z => lv_bipush hC.1 hC.2.1 dX3_init_31 (by decide) z) dX3_init_33 dX3_init_35 (fun q3 c3 H locs hR => ?_)
  have hR : ct_R D A s ((h0, .inr (3, [.int (Int32.ofInt 0), .int (Int32.ofInt 0), .ref q1, .ref q2, .ref q3, .null, .null])) :: (([(q1, .inl (c1, ct_I 60 []))] ++ [(q2, .inl (c2, ct_I 60 []))]) ++ [(q3, .inl (c3, ct_I 60 []))])) ((([(c1, .boolean)]) ++ [(c2, .int)]) ++ [(c3, .int)]) H locs := hR
  refine ct_arr (a0 := ct_I 60 []) (n := Int32.ofInt 60) hC cf_X3_29 ct_hI rfl (fun _ => rfl) (fun _ => rfl) hR hA 0 rfl (Nat.le_of_ble_eq_true rfl) (ct_aI 60) (by decide) (by decide) (by decide) (by decide) (by decide) (lv_at hl 0 rfl) dX3_init_38 (fun _ _ _ z => lv_bipush hC.1 hC.2.1 dX3_init_39 (by decide) z) dX3_init_41 dX3_init_43 (fun q4 c4 H locs hR => ?_)
  have hR : ct_R D A s ((h0, .inr (3, [.int (Int32.ofInt 0), .int (Int32.ofInt 0), .ref q1, .ref q2, .ref q3, .ref q4, .null])) :: ((([(q1, .inl (c1, ct_I 60 []))] ++ [(q2, .inl (c2, ct_I 60 []))]) ++ [(q3, .inl (c3, ct_I 60 []))]) ++ [(q4, .inl (c4, ct_I 60 []))])) (((([(c1, .boolean)]) ++ [(c2, .int)]) ++ [(c3, .int)]) ++ [(c4, .int)]) H locs := hR
  refine ct_arr (a0 := ct_I 60 []) (n := Int32.ofInt 60) hC cf_X3_32 ct_hI rfl (fun _ => rfl) (fun _ => rfl) hR hA 0 rfl (Nat.le_of_ble_eq_true rfl) (ct_aI 60) (by decide) (by decide) (by decide) (by decide) (by decide) (lv_at hl 0 rfl) dX3_init_46 (fun _ _ _ z => lv_bipush hC.1 hC.2.1 dX3_init_47 (by decide) z) dX3_init_49 dX3_init_51 (fun q5 c5 H locs hR => ?_)
  have hR : ct_R D A s ((h0, .inr (3, [.int (Int32.ofInt 0), .int (Int32.ofInt 0), .ref q1, .ref q2, .ref q3, .ref q4, .ref q5])) :: (((([(q1, .inl (c1, ct_I 60 []))] ++ [(q2, .inl (c2, ct_I 60 []))]) ++ [(q3, .inl (c3, ct_I 60 []))]) ++ [(q4, .inl (c4, ct_I 60 []))]) ++ [(q5, .inl (c5, ct_I 60 []))])) ((((([(c1, .boolean)]) ++ [(c2, .int)]) ++ [(c3, .int)]) ++ [(c4, .int)]) ++ [(c5, .int)]) H locs := hR
  exact hend (fun i => cond (Nat.ble i 0) (h0) (cond (Nat.ble i 1) (q1) (cond (Nat.ble i 2) (q2) (cond (Nat.ble i 3) (q3) (cond (Nat.ble i 4) (q4) (cond (Nat.ble i 5) (q5) (0)))))), fun i => cond (Nat.ble i 0) (0) (cond (Nat.ble i 1) (c1) (cond (Nat.ble i 2) (c2) (cond (Nat.ble i 3) (c3) (cond (Nat.ble i 4) (c4) (cond (Nat.ble i 5) (c5) (0))))))) H locs 54 ls rfl hR dX3_init_54

theorem cf_X6_9 : ct_Fl RX6 9 6 0 RX6 TX6 6 tyX6 := ⟨rfl, z_inX6, by decide, z_in (i := 470) (by decide +kernel) rfl, rfl, tyX6_ok, nmX6⟩
theorem cf_X6_15 : ct_Fl RX6 15 6 1 RX6 TX6 6 tyX6 := ⟨rfl, z_inX6, by decide, z_in (i := 476) (by decide +kernel) rfl, rfl, tyX6_ok, nmX6⟩
theorem cf_X6_19 : ct_Fl RX6 19 6 2 RX6 TX6 6 tyX6 := ⟨rfl, z_inX6, by decide, z_in (i := 479) (by decide +kernel) rfl, rfl, tyX6_ok, nmX6⟩
theorem cf_X6_22 : ct_Fl RX6 22 6 3 RX6 TX6 6 tyX6 := ⟨rfl, z_inX6, by decide, z_in (i := 483) (by decide +kernel) rfl, rfl, tyX6_ok, nmX6⟩
theorem cf_X6_25 : ct_Fl RX6 25 6 4 RX6 TX6 6 tyX6 := ⟨rfl, z_inX6, by decide, z_in (i := 487) (by decide +kernel) rfl, rfl, tyX6_ok, nmX6⟩
theorem cf_X6_28 : ct_Fl RX6 28 6 5 RX6 TX6 6 tyX6 := ⟨rfl, z_inX6, by decide, z_in (i := 488) (by decide +kernel) rfl, rfl, tyX6_ok, nmX6⟩
def shX6 (α : Nat → Nat) (γ : Nat → ClassId) : va_W := ((α 0, .inr (6, [.int (Int32.ofInt 0), .ref (α 1), .ref (α 2), .ref (α 3), .ref (α 4), .ref (α 5)])) :: (((([(α 1, .inl (γ 1, ct_I 20 []))] ++ [(α 2, .inl (γ 2, ct_I 20 []))]) ++ [(α 3, .inl (γ 3, ct_I 20 []))]) ++ [(α 4, .inl (γ 4, ct_I 20 []))]) ++ [(α 5, .inl (γ 5, ct_I 20 []))]))
def tyX6s (γ : Nat → ClassId) : List (ClassId × FieldType) := (((([(γ 1, .int)] ++ [(γ 2, .int)]) ++ [(γ 3, .int)]) ++ [(γ 4, .int)]) ++ [(γ 5, .int)])
set_option maxRecDepth 20000 in
set_option maxHeartbeats 4000000 in
theorem ci_X6 (l : Launch) (D : va_G) : ct_Met l D (fun _ _ => True) yX6_init cX6_init 1 { frames := 1, cells := 5, slots := 100, locals := 38 } 6 [.int (Int32.ofInt 0), .null, .null, .null, .null, .null] shX6 tyX6s 5 100 := by
  refine ct_met (i0 := 3) (by decide) rfl (by decide) (z_in (i := 469) (by decide +kernel) rfl) dX6_init_0 dX6_init_1 (by decide) (by decide) ?_
  intro p e s m args below meth c A h0 ls Q hC hA hR hE hl hend
  refine ct_set (v := .int (Int32.ofInt 0)) hC cf_X6_9 rfl rfl hR 0 rfl (Nat.le_of_ble_eq_true rfl) (lv_at hl 0 rfl) dX6_init_4 (fun _ _ _ z => lv_iconst hC.1 hC.2.1 dX6_init_5 rfl z) dX6_init_6 (fun H locs hR => ?_)
  have hR : ct_R D A s [(h0, .inr (6, [.int (Int32.ofInt 0), .null, .null, .null, .null, .null]))] [] H locs := hR
  refine ct_arr (a0 := ct_I 20 []) (n := Int32.ofInt 20) hC cf_X6_15 ct_hI rfl (fun _ => rfl) (fun _ => rfl) hR hA 0 rfl (Nat.le_of_ble_eq_true rfl) (ct_aI 20) (by decide) (by decide) (by decide) (by decide) (by decide) (lv_at hl 0 rfl) dX6_init_9 (fun _ _ _ z => lv_bipush hC.1 hC.2.1 dX6_init_10 (by decide) z) dX6_init_12 dX6_init_14 (fun q1 c1 H locs hR => ?_)
  have hR : ct_R D A s ((h0, .inr (6, [.int (Int32.ofInt 0), .ref q1, .null, .null, .null, .null])) :: [(q1, .inl (c1, ct_I 20 []))]) ([(c1, .int)]) H locs := hR
  refine ct_arr (a0 := ct_I 20 []) (n := Int32.ofInt 20) hC cf_X6_19 ct_hI rfl (fun _ => rfl) (fun _ => rfl) hR hA 0 rfl (Nat.le_of_ble_eq_true rfl) (ct_aI 20) (by decide) (by decide) (by decide) (by decide) (by decide) (lv_at hl 0 rfl) dX6_init_17 (fun _ _ _ z => lv_bipush hC.1 hC.2.1 dX6_init_18 (by decide) z) dX6_init_20 dX6_init_22 (fun q2 c2 H locs hR => ?_)
  have hR : ct_R D A s ((h0, .inr (6, [.int (Int32.ofInt 0), .ref q1, .ref q2, .null, .null, .null])) :: ([(q1, .inl (c1, ct_I 20 []))] ++ [(q2, .inl (c2, ct_I 20 []))])) (([(c1, .int)]) ++ [(c2, .int)]) H locs := hR
  refine ct_arr (a0 := ct_I 20 []) (n := Int32.ofInt 20) hC cf_X6_22 ct_hI rfl (fun _ => rfl) (fun _ => rfl) hR hA 0 rfl (Nat.le_of_ble_eq_true rfl) (ct_aI 20) (by decide) (by decide) (by decide) (by decide) (by decide) (lv_at hl 0 rfl) dX6_init_25 (fun _ _ _ z => lv_bipush hC.1 hC.2.1 dX6_init_26 (by decide) z) dX6_init_28 dX6_init_30 (fun q3 c3 H locs hR => ?_)
  have hR : ct_R D A s ((h0, .inr (6, [.int (Int32.ofInt 0), .ref q1, .ref q2, .ref q3, .null, .null])) :: (([(q1, .inl (c1, ct_I 20 []))] ++ [(q2, .inl (c2, ct_I 20 []))]) ++ [(q3, .inl (c3, ct_I 20 []))])) ((([(c1, .int)]) ++ [(c2, .int)]) ++ [(c3, .int)]) H locs := hR
  refine ct_arr (a0 := ct_I 20 []) (n := Int32.ofInt 20) hC cf_X6_25 ct_hI rfl (fun _ => rfl) (fun _ => rfl) hR hA 0 rfl (Nat.le_of_ble_eq_true rfl) (ct_aI 20) (by decide) (by decide) (by decide) (by decide) (by decide) (lv_at hl 0 rfl) dX6_init_33 (fun _ _ _ z => lv_bipush hC.1 hC.2.1 dX6_init_34 (by decide) z) dX6_init_36 dX6_init_38 (fun q4 c4 H locs hR => ?_)
  have hR : ct_R D A s ((h0, .inr (6, [.int (Int32.ofInt 0), .ref q1, .ref q2, .ref q3, .ref q4, .null])) :: ((([(q1, .inl (c1, ct_I 20 []))] ++ [(q2, .inl (c2, ct_I 20 []))]) ++ [(q3, .inl (c3, ct_I 20 []))]) ++ [(q4, .inl (c4, ct_I 20 []))])) (((([(c1, .int)]) ++ [(c2, .int)]) ++ [(c3, .int)]) ++ [(c4, .int)]) H locs := hR
  refine ct_arr (a0 := ct_I 20 []) (n := Int32.ofInt 20) hC cf_X6_28 ct_hI rfl (fun _ => rfl) (fun _ => rfl) hR hA 0 rfl (Nat.le_of_ble_eq_true rfl) (ct_aI 20) (by decide) (by decide) (by decide) (by decide) (by decide) (lv_at hl 0 rfl) dX6_init_41 (fun _ _ _ z => lv_bipush hC.1 hC.2.1 dX6_init_42 (by decide) z) dX6_init_44 dX6_init_46 (fun q5 c5 H locs hR => ?_)
  have hR : ct_R D A s ((h0, .inr (6, [.int (Int32.ofInt 0), .ref q1, .ref q2, .ref q3, .ref q4, .ref q5])) :: (((([(q1, .inl (c1, ct_I 20 []))] ++ [(q2, .inl (c2, ct_I 20 []))]) ++ [(q3, .inl (c3, ct_I 20 []))]) ++ [(q4, .inl (c4, ct_I 20 []))]) ++ [(q5, .inl (c5, ct_I 20 []))])) ((((([(c1, .int)]) ++ [(c2, .int)]) ++ [(c3, .int)]) ++ [(c4, .int)]) ++ [(c5, .int)]) H locs := hR
  exact hend (fun i => cond (Nat.ble i 0) (h0) (cond (Nat.ble i 1) (q1) (cond (Nat.ble i 2) (q2) (cond (Nat.ble i 3) (q3) (cond (Nat.ble i 4) (q4) (cond (Nat.ble i 5) (q5) (0)))))), fun i => cond (Nat.ble i 0) (0) (cond (Nat.ble i 1) (c1) (cond (Nat.ble i 2) (c2) (cond (Nat.ble i 3) (c3) (cond (Nat.ble i 4) (c4) (cond (Nat.ble i 5) (c5) (0))))))) H locs 49 ls rfl hR dX6_init_49

theorem cf_X2_9 : ct_Fl RX2 9 2 0 RX2 TX2 2 tyX2 := ⟨rfl, z_inX2, by decide, z_in (i := 508) (by decide +kernel) rfl, rfl, tyX2_ok, nmX2⟩
theorem cf_X2_15 : ct_Fl RX2 15 2 1 RX2 TX2 2 tyX2 := ⟨rfl, z_inX2, by decide, z_in (i := 511) (by decide +kernel) rfl, rfl, tyX2_ok, nmX2⟩
def shX2 (α : Nat → Nat) (γ : Nat → ClassId) : va_W := ((α 0, .inr (2, [.int (Int32.ofInt 0), .ref (α 1)])) :: [(α 1, .inl (γ 1, ct_I 64 []))])
def tyX2s (γ : Nat → ClassId) : List (ClassId × FieldType) := [(γ 1, .int)]
set_option maxRecDepth 20000 in
set_option maxHeartbeats 4000000 in
theorem ci_X2 (l : Launch) (D : va_G) : ct_Met l D (fun _ _ => True) yX2_init cX2_init 1 { frames := 1, cells := 1, slots := 64, locals := 38 } 2 [.int (Int32.ofInt 0), .null] shX2 tyX2s 1 64 := by
  refine ct_met (i0 := 3) (by decide) rfl (by decide) (z_in (i := 507) (by decide +kernel) rfl) dX2_init_0 dX2_init_1 (by decide) (by decide) ?_
  intro p e s m args below meth c A h0 ls Q hC hA hR hE hl hend
  refine ct_set (v := .int (Int32.ofInt 0)) hC cf_X2_9 rfl rfl hR 0 rfl (Nat.le_of_ble_eq_true rfl) (lv_at hl 0 rfl) dX2_init_4 (fun _ _ _ z => lv_iconst hC.1 hC.2.1 dX2_init_5 rfl z) dX2_init_6 (fun H locs hR => ?_)
  have hR : ct_R D A s [(h0, .inr (2, [.int (Int32.ofInt 0), .null]))] [] H locs := hR
  refine ct_arr (a0 := ct_I 64 []) (n := Int32.ofInt 64) hC cf_X2_15 ct_hI rfl (fun _ => rfl) (fun _ => rfl) hR hA 0 rfl (Nat.le_of_ble_eq_true rfl) (ct_aI 64) (by decide) (by decide) (by decide) (by decide) (by decide) (lv_at hl 0 rfl) dX2_init_9 (fun _ _ _ z => lv_bipush hC.1 hC.2.1 dX2_init_10 (by decide) z) dX2_init_12 dX2_init_14 (fun q1 c1 H locs hR => ?_)
  have hR : ct_R D A s ((h0, .inr (2, [.int (Int32.ofInt 0), .ref q1])) :: [(q1, .inl (c1, ct_I 64 []))]) ([(c1, .int)]) H locs := hR
  exact hend (fun i => cond (Nat.ble i 0) (h0) (cond (Nat.ble i 1) (q1) (0)), fun i => cond (Nat.ble i 0) (0) (cond (Nat.ble i 1) (c1) (0))) H locs 17 ls rfl hR dX2_init_17

theorem cf_X5_9 : ct_Fl RX5 9 5 0 RX5 TX5 3 tyX5 := ⟨rfl, z_inX5, by decide, z_in (i := 629) (by decide +kernel) rfl, rfl, tyX5_ok, nmX5⟩
theorem cf_X5_15 : ct_Fl RX5 15 5 1 RX5 TX5 3 tyX5 := ⟨rfl, z_inX5, by decide, z_in (i := 631) (by decide +kernel) rfl, rfl, tyX5_ok, nmX5⟩
theorem cf_X5_18 : ct_Fl RX5 18 5 2 RX5 TX5 3 tyX5 := ⟨rfl, z_inX5, by decide, z_in (i := 633) (by decide +kernel) rfl, rfl, tyX5_ok, nmX5⟩
def shX5 (α : Nat → Nat) (γ : Nat → ClassId) : va_W := [(α 0, .inr (5, [.long (Int64.ofInt 1), .long (Int64.ofInt 1), .int (Int32.ofInt 9)]))]
def tyX5s (γ : Nat → ClassId) : List (ClassId × FieldType) := []
set_option maxRecDepth 20000 in
set_option maxHeartbeats 4000000 in
theorem ci_X5 (l : Launch) (D : va_G) : ct_Met l D (fun _ _ => True) yX5_init cX5_init 1 { frames := 1, cells := 0, slots := 0, locals := 38 } 5 [.long (Int64.ofInt 0), .long (Int64.ofInt 0), .int (Int32.ofInt 0)] shX5 tyX5s 0 0 := by
  refine ct_met (i0 := 3) (by decide) rfl (by decide) (z_in (i := 628) (by decide +kernel) rfl) dX5_init_0 dX5_init_1 (by decide) (by decide) ?_
  intro p e s m args below meth c A h0 ls Q hC hA hR hE hl hend
  refine ct_set (v := .long (Int64.ofInt 1)) hC cf_X5_9 rfl rfl hR 0 rfl (Nat.le_of_ble_eq_true rfl) (lv_at hl 0 rfl) dX5_init_4 (fun _ _ _ z => lv_lconst hC.1 hC.2.1 dX5_init_5 (by decide) z) dX5_init_6 (fun H locs hR => ?_)
  have hR : ct_R D A s [(h0, .inr (5, [.long (Int64.ofInt 1), .long (Int64.ofInt 0), .int (Int32.ofInt 0)]))] [] H locs := hR
  refine ct_set (v := .long (Int64.ofInt 1)) hC cf_X5_15 rfl rfl hR 0 rfl (Nat.le_of_ble_eq_true rfl) (lv_at hl 0 rfl) dX5_init_9 (fun _ _ _ z => lv_lconst hC.1 hC.2.1 dX5_init_10 (by decide) z) dX5_init_11 (fun H locs hR => ?_)
  have hR : ct_R D A s [(h0, .inr (5, [.long (Int64.ofInt 1), .long (Int64.ofInt 1), .int (Int32.ofInt 0)]))] [] H locs := hR
  refine ct_set (v := .int (Int32.ofInt 9)) hC cf_X5_18 rfl rfl hR 0 rfl (Nat.le_of_ble_eq_true rfl) (lv_at hl 0 rfl) dX5_init_14 (fun _ _ _ z => lv_bipush hC.1 hC.2.1 dX5_init_15 (by decide) z) dX5_init_17 (fun H locs hR => ?_)
  have hR : ct_R D A s [(h0, .inr (5, [.long (Int64.ofInt 1), .long (Int64.ofInt 1), .int (Int32.ofInt 9)]))] [] H locs := hR
  exact hend (fun i => cond (Nat.ble i 0) (h0) (0), fun i => cond (Nat.ble i 0) (0) (0)) H locs 20 ls rfl hR dX5_init_20

theorem cf_X4_11 : ct_Fl RX4 11 4 0 RX4 TX4 2 tyX4 := ⟨rfl, z_inX4, by decide, z_in (i := 647) (by decide +kernel) rfl, rfl, tyX4_ok, nmX4⟩
theorem cf_X4_15 : ct_Fl RX4 15 4 1 RX4 TX4 2 tyX4 := ⟨rfl, z_inX4, by decide, z_in (i := 648) (by decide +kernel) rfl, rfl, tyX4_ok, nmX4⟩
def shX4 (α : Nat → Nat) (γ : Nat → ClassId) : va_W := ((α 0, .inr (4, [.ref (α 1), .ref (α 2)])) :: ([(α 1, .inl (γ 1, ct_I 10 []))] ++ [(α 2, .inl (γ 2, ct_J 64 []))]))
def tyX4s (γ : Nat → ClassId) : List (ClassId × FieldType) := ([(γ 1, .int)] ++ [(γ 2, .long)])
set_option maxRecDepth 20000 in
set_option maxHeartbeats 4000000 in
theorem ci_X4 (l : Launch) (D : va_G) : ct_Met l D (fun _ _ => True) yX4_init cX4_init 1 { frames := 1, cells := 2, slots := 74, locals := 38 } 4 [.null, .null] shX4 tyX4s 2 74 := by
  refine ct_met (i0 := 3) (by decide) rfl (by decide) (z_in (i := 646) (by decide +kernel) rfl) dX4_init_0 dX4_init_1 (by decide) (by decide) ?_
  intro p e s m args below meth c A h0 ls Q hC hA hR hE hl hend
  refine ct_arr (a0 := ct_I 10 []) (n := Int32.ofInt 10) hC cf_X4_11 ct_hI rfl (fun _ => rfl) (fun _ => rfl) hR hA 0 rfl (Nat.le_of_ble_eq_true rfl) (ct_aI 10) (by decide) (by decide) (by decide) (by decide) (by decide) (lv_at hl 0 rfl) dX4_init_4 (fun _ _ _ z => lv_bipush hC.1 hC.2.1 dX4_init_5 (by decide) z) dX4_init_7 dX4_init_9 (fun q1 c1 H locs hR => ?_)
  have hR : ct_R D A s ((h0, .inr (4, [.ref q1, .null])) :: [(q1, .inl (c1, ct_I 10 []))]) ([(c1, .int)]) H locs := hR
  refine ct_arr (a0 := ct_J 64 []) (n := Int32.ofInt 64) hC cf_X4_15 ct_hJ rfl (fun _ => rfl) (fun _ => rfl) hR hA 0 rfl (Nat.le_of_ble_eq_true rfl) (ct_aJ 64) (by decide) (by decide) (by decide) (by decide) (by decide) (lv_at hl 0 rfl) dX4_init_12 (fun _ _ _ z => lv_bipush hC.1 hC.2.1 dX4_init_13 (by decide) z) dX4_init_15 dX4_init_17 (fun q2 c2 H locs hR => ?_)
  have hR : ct_R D A s ((h0, .inr (4, [.ref q1, .ref q2])) :: ([(q1, .inl (c1, ct_I 10 []))] ++ [(q2, .inl (c2, ct_J 64 []))])) (([(c1, .int)]) ++ [(c2, .long)]) H locs := hR
  exact hend (fun i => cond (Nat.ble i 0) (h0) (cond (Nat.ble i 1) (q1) (cond (Nat.ble i 2) (q2) (0))), fun i => cond (Nat.ble i 0) (0) (cond (Nat.ble i 1) (c1) (cond (Nat.ble i 2) (c2) (0)))) H locs 20 ls rfl hR dX4_init_20

theorem cf_X1_9 : ct_Fl RX1 9 1 0 RX1 TX1 7 tyX1 := ⟨rfl, z_inX1, by decide, z_in (i := 661) (by decide +kernel) rfl, rfl, tyX1_ok, nmX1⟩
theorem cf_X1_15 : ct_Fl RX1 15 1 1 RX1 TX1 7 tyX1 := ⟨rfl, z_inX1, by decide, z_in (i := 662) (by decide +kernel) rfl, rfl, tyX1_ok, nmX1⟩
theorem cf_X1_18 : ct_Fl RX1 18 1 2 RX1 TX1 7 tyX1 := ⟨rfl, z_inX1, by decide, z_in (i := 663) (by decide +kernel) rfl, rfl, tyX1_ok, nmX1⟩
theorem cf_X1_21 : ct_Fl RX1 21 1 3 RX1 TX1 7 tyX1 := ⟨rfl, z_inX1, by decide, z_in (i := 664) (by decide +kernel) rfl, rfl, tyX1_ok, nmX1⟩
theorem cf_X1_25 : ct_Fl RX1 25 1 4 RX1 TX1 7 tyX1 := ⟨rfl, z_inX1, by decide, z_in (i := 665) (by decide +kernel) rfl, rfl, tyX1_ok, nmX1⟩
theorem cf_X1_28 : ct_Fl RX1 28 1 5 RX1 TX1 7 tyX1 := ⟨rfl, z_inX1, by decide, z_in (i := 666) (by decide +kernel) rfl, rfl, tyX1_ok, nmX1⟩
theorem cf_X1_31 : ct_Fl RX1 31 1 6 RX1 TX1 7 tyX1 := ⟨rfl, z_inX1, by decide, z_in (i := 667) (by decide +kernel) rfl, rfl, tyX1_ok, nmX1⟩
def shX1 (α : Nat → Nat) (γ : Nat → ClassId) : va_W := ((α 0, .inr (1, [.int (Int32.ofInt 0), .int (Int32.ofInt 0), .int (Int32.ofInt 0), .ref (α 1), .ref (α 2), .ref (α 3), .ref (α 4)])) :: ((([(α 1, .inl (γ 1, ct_I 8 []))] ++ [(α 2, .inl (γ 2, ct_I 8 []))]) ++ [(α 3, .inl (γ 3, ct_I 8 []))]) ++ [(α 4, .inl (γ 4, ct_I 8 []))]))
def tyX1s (γ : Nat → ClassId) : List (ClassId × FieldType) := ((([(γ 1, .int)] ++ [(γ 2, .int)]) ++ [(γ 3, .int)]) ++ [(γ 4, .int)])
set_option maxRecDepth 20000 in
set_option maxHeartbeats 4000000 in
theorem ci_X1 (l : Launch) (D : va_G) : ct_Met l D (fun _ _ => True) yX1_init cX1_init 1 { frames := 1, cells := 4, slots := 32, locals := 38 } 1 [.int (Int32.ofInt 0), .int (Int32.ofInt 0), .int (Int32.ofInt 0), .null, .null, .null, .null] shX1 tyX1s 4 32 := by
  refine ct_met (i0 := 3) (by decide) rfl (by decide) (z_in (i := 660) (by decide +kernel) rfl) dX1_init_0 dX1_init_1 (by decide) (by decide) ?_
  intro p e s m args below meth c A h0 ls Q hC hA hR hE hl hend
  refine ct_set (v := .int (Int32.ofInt 0)) hC cf_X1_9 rfl rfl hR 0 rfl (Nat.le_of_ble_eq_true rfl) (lv_at hl 0 rfl) dX1_init_4 (fun _ _ _ z => lv_iconst hC.1 hC.2.1 dX1_init_5 rfl z) dX1_init_6 (fun H locs hR => ?_)
  have hR : ct_R D A s [(h0, .inr (1, [.int (Int32.ofInt 0), .int (Int32.ofInt 0), .int (Int32.ofInt 0), .null, .null, .null, .null]))] [] H locs := hR
  refine ct_set (v := .int (Int32.ofInt 0)) hC cf_X1_15 rfl rfl hR 0 rfl (Nat.le_of_ble_eq_true rfl) (lv_at hl 0 rfl) dX1_init_9 (fun _ _ _ z => lv_iconst hC.1 hC.2.1 dX1_init_10 rfl z) dX1_init_11 (fun H locs hR => ?_)
  have hR : ct_R D A s [(h0, .inr (1, [.int (Int32.ofInt 0), .int (Int32.ofInt 0), .int (Int32.ofInt 0), .null, .null, .null, .null]))] [] H locs := hR
  refine ct_set (v := .int (Int32.ofInt 0)) hC cf_X1_18 rfl rfl hR 0 rfl (Nat.le_of_ble_eq_true rfl) (lv_at hl 0 rfl) dX1_init_14 (fun _ _ _ z => lv_iconst hC.1 hC.2.1 dX1_init_15 rfl z) dX1_init_16 (fun H locs hR => ?_)
  have hR : ct_R D A s [(h0, .inr (1, [.int (Int32.ofInt 0), .int (Int32.ofInt 0), .int (Int32.ofInt 0), .null, .null, .null, .null]))] [] H locs := hR
  refine ct_arr (a0 := ct_I 8 []) (n := Int32.ofInt 8) hC cf_X1_21 ct_hI rfl (fun _ => rfl) (fun _ => rfl) hR hA 0 rfl (Nat.le_of_ble_eq_true rfl) (ct_aI 8) (by decide) (by decide) (by decide) (by decide) (by decide) (lv_at hl 0 rfl) dX1_init_19 (fun _ _ _ z => lv_bipush hC.1 hC.2.1 dX1_init_20 (by decide) z) dX1_init_22 dX1_init_24 (fun q1 c1 H locs hR => ?_)
  have hR : ct_R D A s ((h0, .inr (1, [.int (Int32.ofInt 0), .int (Int32.ofInt 0), .int (Int32.ofInt 0), .ref q1, .null, .null, .null])) :: [(q1, .inl (c1, ct_I 8 []))]) ([(c1, .int)]) H locs := hR
  refine ct_arr (a0 := ct_I 8 []) (n := Int32.ofInt 8) hC cf_X1_25 ct_hI rfl (fun _ => rfl) (fun _ => rfl) hR hA 0 rfl (Nat.le_of_ble_eq_true rfl) (ct_aI 8) (by decide) (by decide) (by decide) (by decide) (by decide) (lv_at hl 0 rfl) dX1_init_27 (fun _ _ _ z => lv_bipush hC.1 hC.2.1 dX1_init_28 (by decide) z) dX1_init_30 dX1_init_32 (fun q2 c2 H locs hR => ?_)
  have hR : ct_R D A s ((h0, .inr (1, [.int (Int32.ofInt 0), .int (Int32.ofInt 0), .int (Int32.ofInt 0), .ref q1, .ref q2, .null, .null])) :: ([(q1, .inl (c1, ct_I 8 []))] ++ [(q2, .inl (c2, ct_I 8 []))])) (([(c1, .int)]) ++ [(c2, .int)]) H locs := hR
  refine ct_arr (a0 := ct_I 8 []) (n := Int32.ofInt 8) hC cf_X1_28 ct_hI rfl (fun _ => rfl) (fun _ => rfl) hR hA 0 rfl (Nat.le_of_ble_eq_true rfl) (ct_aI 8) (by decide) (by decide) (by decide) (by decide) (by decide) (lv_at hl 0 rfl) dX1_init_35 (fun _ _ _ z => lv_bipush hC.1 hC.2.1 dX1_init_36 (by decide) z) dX1_init_38 dX1_init_40 (fun q3 c3 H locs hR => ?_)
  have hR : ct_R D A s ((h0, .inr (1, [.int (Int32.ofInt 0), .int (Int32.ofInt 0), .int (Int32.ofInt 0), .ref q1, .ref q2, .ref q3, .null])) :: (([(q1, .inl (c1, ct_I 8 []))] ++ [(q2, .inl (c2, ct_I 8 []))]) ++ [(q3, .inl (c3, ct_I 8 []))])) ((([(c1, .int)]) ++ [(c2, .int)]) ++ [(c3, .int)]) H locs := hR
  refine ct_arr (a0 := ct_I 8 []) (n := Int32.ofInt 8) hC cf_X1_31 ct_hI rfl (fun _ => rfl) (fun _ => rfl) hR hA 0 rfl (Nat.le_of_ble_eq_true rfl) (ct_aI 8) (by decide) (by decide) (by decide) (by decide) (by decide) (lv_at hl 0 rfl) dX1_init_43 (fun _ _ _ z => lv_bipush hC.1 hC.2.1 dX1_init_44 (by decide) z) dX1_init_46 dX1_init_48 (fun q4 c4 H locs hR => ?_)
  have hR : ct_R D A s ((h0, .inr (1, [.int (Int32.ofInt 0), .int (Int32.ofInt 0), .int (Int32.ofInt 0), .ref q1, .ref q2, .ref q3, .ref q4])) :: ((([(q1, .inl (c1, ct_I 8 []))] ++ [(q2, .inl (c2, ct_I 8 []))]) ++ [(q3, .inl (c3, ct_I 8 []))]) ++ [(q4, .inl (c4, ct_I 8 []))])) (((([(c1, .int)]) ++ [(c2, .int)]) ++ [(c3, .int)]) ++ [(c4, .int)]) H locs := hR
  exact hend (fun i => cond (Nat.ble i 0) (h0) (cond (Nat.ble i 1) (q1) (cond (Nat.ble i 2) (q2) (cond (Nat.ble i 3) (q3) (cond (Nat.ble i 4) (q4) (0))))), fun i => cond (Nat.ble i 0) (0) (cond (Nat.ble i 1) (c1) (cond (Nat.ble i 2) (c2) (cond (Nat.ble i 3) (c3) (cond (Nat.ble i 4) (c4) (0)))))) H locs 51 ls rfl hR dX1_init_51

