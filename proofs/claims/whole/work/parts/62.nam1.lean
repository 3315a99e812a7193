/-! ===== names: the class ===== -/
/-- only one row may differ -/
abbrev fA (A : Int) (M M' : zM) : Prop := ∀ a k, a ≠ A → M' a k = M a k
theorem fA.rf (A : Int) (M : zM) : fA A M M := fun _ _ _ => rfl
theorem fA.tr {A : Int} {M M1 M2 : zM} (h : fA A M M1) (h2 : fA A M1 M2) : fA A M M2 := fun a k q => (h2 a k q).trans (h a k q)
theorem fA.wr {A : Int} {M : zM} {k v : Int} : fA A M (z_wr M A k v) := fun a j q => z_wr_ne (Or.inl q)
theorem fA.sm7 {M M' : zM} (h : fA 77 M M') : Sm M M' := fun a k q => h a k (by rintro rfl; exact q (by unfold Scr; omega))
theorem fA.sm4 {M M' : zM} (h : fA 114 M M') : Sm M M' := fun a k q => h a k (by rintro rfl; exact q (by unfold Scr; omega))
section
variable {M V : zM} {c : Int}
theorem h76 (h : LayO M) : M 76 0 = 77 ∧ M 76 1 = 78 := by simp only [h, and_self]
theorem o76 {M M' : zM} (h : M 76 0 = 77) (hf : fA 77 M M') : M' 76 0 = 77 := (hf 76 0 (by decide)).trans h
theorem e_X4_start (hO : M 76 0 = 77) (h : cOk M c V) {t : Int} (t0 : 0 ≤ t) (t1 : t < V 7 0) : ∃ M', zm_X4_start zLa [zA 4 76, zA 0 c, zI t] M = some ([], M') ∧ fA 77 M M' ∧ M' 77 0 = V 9 t ∧ ∀ j, 1 ≤ j → j < 10 → M' 77 j = 0 := by
  have hN := h.2.2.2.1
  have hΛ := zLc_of h.1
  obtain ⟨M1, e, hf, hz⟩ := lp_ex (fun i (m : zM) => z_ev (zcd_X4_start zLa) 1 [zA 4 76, zA 0 c, zI t, zI i] [] m) (fun i m => fA 77 M m ∧ ∀ j, 0 ≤ j → j < i → m 77 j = 0) (n := 10) 0 (fun i m hi0 hi1 ⟨hf, hz⟩ => by
    refine ⟨z_wr m 77 i 0, ?_, hf.tr fA.wr, fun j a b => ?_⟩
    · rw [zb_X4_start_1, o76 hO hf, la77, if_pos hi1, if_pos (by omega), z_lt_eq, z_w32_id (by omega) (by omega)]
    · rcases (by omega : j < i ∨ j = i) with r | r
      · rw [z_wr_ne (Or.inr (by omega))]; exact hz j a r
      · subst r; exact z_wr_eq _ _ _ _) (s := M) (by omega) ⟨fA.rf 77 M, fun j a b => absurd b (by omega)⟩
  try dsimp only at e
  have hC := h.sm hf.sm7
  have hL := hC.2.1
  have hV := hC.2.2.1
  refine ⟨z_wr M1 77 0 (V 9 t), ?_, hf.tr fA.wr, z_wr_eq _ _ _ _, fun j a b => ?_⟩
  · rw [zr_X4_start]
    refine z_out_some ?_
    rw [zb_X4_start_0, e, zb_X4_start_1, if_neg (by decide), o76 hO hf]
    simp only [hL, hΛ, la77]
    simp only [hV]
    rw [if_pos (by omega), if_pos (by decide), z_lt_eq]
  · rw [z_wr_ne (Or.inr (by omega))]; exact hz j (by omega) b
theorem e_X4_addAsk (hO : M 76 0 = 77) (v : Int) (r3 : 0 ≤ M 77 3 ∧ M 77 3 < 1000) (r4 : 0 ≤ M 77 4 ∧ M 77 4 < 1000) : ∃ M', zm_X4_addAsk zLa [zA 4 76, zI v] M = some ([], M') ∧ fA 77 M M' ∧ M' 77 3 = M 77 3 + 1 ∧ M' 77 4 = M 77 4 + b2i (v ≠ -1) ∧ ∀ j, j ≠ 3 → j ≠ 4 → M' 77 j = M 77 j := by
  rw [zr_X4_addAsk, zb_X4_addAsk_0]
  simp only [hO, la77, z_lt_eq]
  rw [if_pos (by decide), if_pos (by decide), z_add_id (by omega) (by omega)]
  by_cases q : v = -1
  · rw [if_pos q]
    exact ⟨_, rfl, fA.wr, z_wr_eq _ _ _ _, by rw [z_wr_ne (Or.inr (by decide)), b2i_neg (fun r => r q), Int.add_zero], fun j a b => z_wr_ne (Or.inr a)⟩
  · rw [if_neg q, z_wr_ne (M := M) (Or.inl (by decide)), hO, la77, if_pos (by decide), if_pos (by decide), z_wr_ne (M := M) (Or.inr (by decide)), z_add_id (by omega) (by omega)]
    exact ⟨_, rfl, fA.wr.tr fA.wr, by rw [z_wr_ne (Or.inr (by decide)), z_wr_eq], by rw [z_wr_eq, b2i_pos q], fun j a b => by rw [z_wr_ne (Or.inr b), z_wr_ne (Or.inr a)]⟩
theorem e_X4_addFirst (hO : M 76 0 = 77) (r w : Prop) (r5 : 0 ≤ M 77 5 ∧ M 77 5 < 1000) (r6 : 0 ≤ M 77 6 ∧ M 77 6 < 1000) (r7 : 0 ≤ M 77 7 ∧ M 77 7 < 1000) : ∃ M', zm_X4_addFirst zLa [zA 4 76, zI (b2i r), zI (b2i w)] M = some ([], M') ∧ fA 77 M M' ∧ M' 77 5 = M 77 5 + b2i r ∧ M' 77 6 = M 77 6 + b2i (¬ r) ∧ M' 77 7 = M 77 7 + b2i w ∧ ∀ j, j ≠ 5 → j ≠ 6 → j ≠ 7 → M' 77 j = M 77 j := by
  have key : ∀ (x : Int) (w1 : zV), (x = 5 ∨ x = 6) → ∃ M', z_out (z_ev (zcd_X4_addFirst zLa) 1 [zA 4 76, w1, zI (b2i w)] [zI x, zA 13 77] M) = some ([], M') ∧ fA 77 M M' ∧ M' 77 x = M 77 x + 1 ∧ M' 77 7 = M 77 7 + b2i w ∧ ∀ j, j ≠ x → j ≠ 7 → M' 77 j = M 77 j := by
    intro x w1 hx
    have hx1 : 0 ≤ x ∧ x < 10 := by omega
    have hr : 0 ≤ M 77 x ∧ M 77 x < 1000 := by rcases hx with rfl | rfl <;> assumption
    rw [zb_X4_addFirst_1, la77, if_pos hx1, if_pos hx1, z_lt_eq, z_add_id (by omega) (by omega)]
    rcases Classical.em w with q | q
    · rw [b2i_pos q, if_neg (by decide), z_wr_ne (M := M) (Or.inl (by decide)), hO, la77, if_pos (by decide), if_pos (by decide), z_wr_ne (M := M) (Or.inr (by omega)), z_add_id (by omega) (by omega), z_lt_eq]
      exact ⟨_, rfl, fA.wr.tr fA.wr, by rw [z_wr_ne (Or.inr (by omega)), z_wr_eq], z_wr_eq _ _ _ _, fun j a b => by rw [z_wr_ne (Or.inr b), z_wr_ne (Or.inr a)]⟩
    · rw [b2i_neg q, if_pos rfl]
      exact ⟨_, rfl, fA.wr, z_wr_eq _ _ _ _, by rw [z_wr_ne (Or.inr (by omega)), Int.add_zero], fun j a b => z_wr_ne (Or.inr a)⟩
  rw [zr_X4_addFirst, zb_X4_addFirst_0]
  rcases Classical.em r with q | q
  · obtain ⟨M', e, h1, h2, h3, h4⟩ := key 5 (zI (b2i r)) (Or.inl rfl)
    rw [b2i_pos q] at e ⊢
    rw [if_neg (by decide), hO]
    exact ⟨M', e, h1, h2, by rw [b2i_neg (fun z => z q), Int.add_zero]; exact h4 6 (by decide) (by decide), h3, fun j a b d => h4 j a d⟩
  · obtain ⟨M', e, h1, h2, h3, h4⟩ := key 6 (zI (b2i r)) (Or.inr rfl)
    rw [b2i_neg q] at e ⊢
    rw [if_pos rfl, hO, b2i_pos (p := ¬ r) q]
    exact ⟨M', e, h1, by rw [Int.add_zero]; exact h4 5 (by decide) (by decide), h2, h3, fun j a b d => h4 j b d⟩
theorem sLo_rng (hv : vOk V) {t u : Int} (t0 : 0 ≤ t) (t1 : t < V 7 0) (hu : V 10 t ≤ u) (hu2 : u ≤ 199) : V 10 t - 1 ≤ sLo V t u ∧ sLo V t u ≤ u := by
  have ht := hv.2.2.1 t t0 t1
  unfold sLo
  by_cases q : V 12 t = -1
  · rw [cite_pos q]; omega
  · rw [cite_neg q]; unfold z_min; split <;> omega
theorem e_X8_offHours (h : cOk M c V) {t u : Int} (t0 : 0 ≤ t) (t1 : t < V 7 0) (hu : V 10 t ≤ u) (hu2 : u ≤ 199) : zm_X8_offHours zLa [zA 8 (c + 7), zI t, zI u] M = some ([zI (sLo V t u - V 10 t + 1)], M) := by
  have hr := sLo_rng h.2.2.2 t0 t1 hu hu2
  have ht := h.2.2.2.2.2.1 t t0 t1
  have hL := h.2.1
  have hV := h.2.2.1
  have hΛ := zLc_of h.1
  have hN := h.2.2.2.1
  rw [zr_X8_offHours]
  refine z_out_some ?_
  rw [zb_X8_offHours_0, e_X8_lastOff h t0 t1, z_bI_mk]
  simp only [hL, hΛ]
  simp only [hV]
  rw [if_pos (by omega), z_sub_id (by omega) (by omega), z_add_id (by omega) (by omega)]
/-! what the names are -/
abbrev aW (V : zM) (k i : Int) : Prop := V 15 i = V 15 k ∧ V 14 i = 0
abbrev aW2 (V : zM) (k i : Int) : Prop := (V 15 i = V 15 k ∧ V 14 i = 0) ∧ V 18 i ≠ -1
noncomputable def nW (V : zM) (k j : Int) : Int := if j = 0 then V 9 (V 15 k) else if j = 1 then V 16 k - V 10 (V 15 k) else if j = 2 then sLo V (V 15 k) (V 16 k) - V 10 (V 15 k) + 1 else if j = 3 then cnt (aW V k) k else if j = 4 then cnt (aW2 V k) k else 0
theorem e_X4_setAtWord (hO : M 76 0 = 77) (h : cOk M c V) {k : Int} (k0 : 0 ≤ k) (k1 : k < V 13 0) : ∃ M', zm_X4_setAtWord zLa [zA 4 76, zA 0 c, zI k] M = some ([], M') ∧ fA 77 M M' ∧ ∀ j, 0 ≤ j → j < 10 → M' 77 j = nW V k j := by
  have hN := h.2.2.2.1
  have hΛ := zLc_of h.1
  have hl := h.2.2.2.2.2.2.1
  have hk := hl k k0 k1
  have hst := h.2.2.2.2.2.1 (V 15 k) (by omega) (by omega)
  have hr := sLo_rng h.2.2.2 (t := V 15 k) (u := V 16 k) (by omega) (by omega) (by omega) (by omega)
  obtain ⟨M1, e1, hf1, h10, h1z⟩ := e_X4_start hO h (t := V 15 k) (by omega) (by omega)
  have hO1 := o76 hO hf1
  have hC1 := h.sm hf1.sm7
  have hf2 : fA 77 M (z_wr M1 77 1 (V 16 k - V 10 (V 15 k))) := hf1.tr fA.wr
  have hO2 := o76 hO hf2
  have hC2 := h.sm hf2.sm7
  have hf3 : fA 77 M (z_wr (z_wr M1 77 1 (V 16 k - V 10 (V 15 k))) 77 2 (sLo V (V 15 k) (V 16 k) - V 10 (V 15 k) + 1)) := hf2.tr fA.wr
  generalize hM3 : z_wr (z_wr M1 77 1 (V 16 k - V 10 (V 15 k))) 77 2 (sLo V (V 15 k) (V 16 k) - V 10 (V 15 k) + 1) = M3 at hf3
  have g0 : M3 77 0 = V 9 (V 15 k) := by rw [← hM3, z_wr_ne (Or.inr (by decide)), z_wr_ne (Or.inr (by decide))]; exact h10
  have g1 : M3 77 1 = V 16 k - V 10 (V 15 k) := by rw [← hM3, z_wr_ne (Or.inr (by decide)), z_wr_eq]
  have g2 : M3 77 2 = sLo V (V 15 k) (V 16 k) - V 10 (V 15 k) + 1 := by rw [← hM3, z_wr_eq]
  have gz : ∀ j, 3 ≤ j → j < 10 → M3 77 j = 0 := fun j a b => by rw [← hM3, z_wr_ne (Or.inr (by omega)), z_wr_ne (Or.inr (by omega))]; exact h1z j (by omega) b
  obtain ⟨M4, e4, hf4, h43, h44, h4o⟩ := lp_ex (fun i (m : zM) => z_ev (zcd_X4_setAtWord zLa) 1 [zA 4 76, zA 0 c, zI k, zA 3 (c + 13), zI (V 15 k), zI i] [] m) (fun i m => fA 77 M3 m ∧ m 77 3 = cnt (aW V k) i ∧ m 77 4 = cnt (aW2 V k) i ∧ ∀ j, j ≠ 3 → j ≠ 4 → m 77 j = M3 77 j) (n := k) 0 (fun i m hi0 hi1 ⟨hf, h3, h4, ho⟩ => by
    have hC := h.sm (hf3.tr hf).sm7
    have hL := hC.2.1
    have hV := hC.2.2.1
    have c3 := cnt_rng (aW V k) hi0
    have c4 := cnt_rng (aW2 V k) hi0
    have s3 := cnt_s (aW V k) hi0
    have s4 := cnt_s (aW2 V k) hi0
    rw [zb_X4_setAtWord_1]
    simp only [hL, hΛ, z_w32_id (n := i + 1) (by omega) (by omega)]
    simp only [hV]
    rw [if_pos hi1, if_pos (by omega)]
    by_cases q1 : V 15 i = V 15 k
    case neg =>
      rw [if_neg q1]
      rw [b2i_neg (fun r => q1 r.1)] at s3
      rw [b2i_neg (fun r => q1 r.1.1)] at s4
      exact ⟨m, rfl, hf, by omega, by omega, ho⟩
    rw [if_pos q1, if_pos (by omega)]
    by_cases q2 : V 14 i = 0
    case neg =>
      rw [if_neg q2]
      rw [b2i_neg (fun r => q2 r.2)] at s3
      rw [b2i_neg (fun r => q2 r.1.2)] at s4
      exact ⟨m, rfl, hf, by omega, by omega, ho⟩
    rw [if_pos q2, if_pos (by omega)]
    obtain ⟨m', e', hf', h3', h4', ho'⟩ := e_X4_addAsk (o76 hO (hf3.tr hf)) (V 18 i) (by omega) (by omega)
    rw [e', z_bV_mk]
    rw [b2i_pos ⟨q1, q2⟩] at s3
    rw [b2i_congr (q := V 18 i ≠ -1) ⟨fun r => r.2, fun r => ⟨⟨q1, q2⟩, r⟩⟩] at s4
    exact ⟨m', rfl, hf.tr hf', by omega, by omega, fun j a b => (ho' j a b).trans (ho j a b)⟩) (s := M3) (by omega) ⟨fA.rf 77 M3, gz 3 (by decide) (by decide), gz 4 (by decide) (by decide), fun _ _ _ => rfl⟩
  try dsimp only at e4
  refine ⟨M4, ?_, hf3.tr hf4, fun j a b => ?_⟩
  · have hL := h.2.1
    have hV := h.2.2.1
    have hL1 := hC1.2.1
    have hV1 := hC1.2.2.1
    have hL2 := hC2.2.1
    have hV2 := hC2.2.2.1
    rw [zr_X4_setAtWord]
    refine z_out_some ?_
    rw [zb_X4_setAtWord_0]
    simp only [hL, hΛ]
    simp only [hV]
    rw [if_pos (by omega), e1, z_bV_mk]
    simp only [hL1, hΛ, hO1, la77, z_lt_eq]
    simp only [hV1]
    rw [if_pos (by omega), if_pos (by omega), if_pos (by decide), z_sub_id (a := V 16 k) (by omega) (by omega)]
    simp only [hL2, hΛ, hO2, la77]
    simp only [hV2]
    rw [if_pos (by omega), e_X8_offHours hC2 (by omega) (by omega) (by omega) (by omega), z_bI_mk, if_pos (by decide), hM3, e4, zb_X4_setAtWord_1, if_neg (by omega)]
  · rcases (by omega : j = 0 ∨ j = 1 ∨ j = 2 ∨ j = 3 ∨ j = 4 ∨ 5 ≤ j) with r | r | r | r | r | r
    · subst r; rw [h4o 0 (by decide) (by decide), g0]; rfl
    · subst r; rw [h4o 1 (by decide) (by decide), g1]; rfl
    · subst r; rw [h4o 2 (by decide) (by decide), g2]; rfl
    · subst r; rw [h43]; rfl
    · subst r; rw [h44]; rfl
    · rw [h4o j (by omega) (by omega), gz j (by omega) b]
      unfold nW
      rw [if_neg (by omega), if_neg (by omega), if_neg (by omega), if_neg (by omega), if_neg (by omega)]
end
