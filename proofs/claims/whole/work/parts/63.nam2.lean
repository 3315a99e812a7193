/-! ===== names of a talk, of a tape, of a page: the class ===== -/
abbrev pT (V : zM) (t s i : Int) : Prop := V 15 i = t ∧ s ≤ V 16 i ∧ sHe V i
abbrev pFi (V : zM) (s k : Int) : Prop := ∀ i, 0 ≤ i → i < k → ¬ (V 14 i ≠ 0 ∧ sSt V i k ∧ s ≤ V 16 i)
abbrev p3 (V : zM) (t s i : Int) : Prop := pT V t s i ∧ V 14 i = 0
abbrev p4 (V : zM) (t s i : Int) : Prop := (pT V t s i ∧ V 14 i = 0) ∧ V 18 i ≠ -1
abbrev p567 (V : zM) (t s i : Int) : Prop := pT V t s i ∧ V 14 i ≠ 0 ∧ pFi V s i
abbrev p5 (V : zM) (t s i : Int) : Prop := p567 V t s i ∧ sRi V i
abbrev p6 (V : zM) (t s i : Int) : Prop := p567 V t s i ∧ ¬ sRi V i
abbrev p7 (V : zM) (t s i : Int) : Prop := p567 V t s i ∧ sNew V i
/-- five rows by counting -/
abbrev k5 (V : zM) (t s : Int) (A : Int) (m : zM) (i : Int) : Prop := m A 3 = cnt (p3 V t s) i ∧ m A 4 = cnt (p4 V t s) i ∧ m A 5 = cnt (p5 V t s) i ∧ m A 6 = cnt (p6 V t s) i ∧ m A 7 = cnt (p7 V t s) i
section
variable {M V : zM} {c : Int}
/-- a line that counts nothing -/
theorem k5_no {t s A i : Int} {m : zM} (i0 : 0 ≤ i) (h : k5 V t s A m i) (h3 : ¬ p3 V t s i) (h5 : ¬ p567 V t s i) : k5 V t s A m (i + 1) := by
  have s3 := cnt_s (p3 V t s) i0
  have s4 := cnt_s (p4 V t s) i0
  have s5 := cnt_s (p5 V t s) i0
  have s6 := cnt_s (p6 V t s) i0
  have s7 := cnt_s (p7 V t s) i0
  rw [b2i_neg h3] at s3
  rw [b2i_neg (fun r => h3 r.1)] at s4
  rw [b2i_neg (fun r => h5 r.1)] at s5 s6 s7
  obtain ⟨a, b, d, e, f⟩ := h
  exact ⟨by omega, by omega, by omega, by omega, by omega⟩
theorem k5_ask {t s A i : Int} {m m' : zM} (i0 : 0 ≤ i) (h : k5 V t s A m i) (h3 : p3 V t s i) (e3 : m' A 3 = m A 3 + 1) (e4 : m' A 4 = m A 4 + b2i (V 18 i ≠ -1)) (eo : ∀ j, j ≠ 3 → j ≠ 4 → m' A j = m A j) : k5 V t s A m' (i + 1) := by
  have s3 := cnt_s (p3 V t s) i0
  have s4 := cnt_s (p4 V t s) i0
  have s5 := cnt_s (p5 V t s) i0
  have s6 := cnt_s (p6 V t s) i0
  have s7 := cnt_s (p7 V t s) i0
  have h5 : ¬ p567 V t s i := fun r => r.2.1 h3.2
  rw [b2i_pos h3] at s3
  rw [b2i_congr (q := V 18 i ≠ -1) ⟨fun r => r.2, fun r => ⟨h3, r⟩⟩] at s4
  rw [b2i_neg (fun r => h5 r.1)] at s5 s6 s7
  obtain ⟨a, b, d, e, f⟩ := h
  have e5 := eo 5 (by decide) (by decide)
  have e6 := eo 6 (by decide) (by decide)
  have e7 := eo 7 (by decide) (by decide)
  exact ⟨by omega, by omega, by omega, by omega, by omega⟩
theorem k5_fst {t s A i : Int} {m m' : zM} (i0 : 0 ≤ i) (h : k5 V t s A m i) (h5 : p567 V t s i) (e5 : m' A 5 = m A 5 + b2i (sRi V i)) (e6 : m' A 6 = m A 6 + b2i (¬ sRi V i)) (e7 : m' A 7 = m A 7 + b2i (sNew V i)) (eo : ∀ j, j ≠ 5 → j ≠ 6 → j ≠ 7 → m' A j = m A j) : k5 V t s A m' (i + 1) := by
  have s3 := cnt_s (p3 V t s) i0
  have s4 := cnt_s (p4 V t s) i0
  have s5 := cnt_s (p5 V t s) i0
  have s6 := cnt_s (p6 V t s) i0
  have s7 := cnt_s (p7 V t s) i0
  rw [b2i_neg (fun r => h5.2.1 r.2)] at s3
  rw [b2i_neg (fun r => h5.2.1 r.1.2)] at s4
  rw [b2i_congr (q := sRi V i) ⟨fun r => r.2, fun r => ⟨h5, r⟩⟩] at s5
  rw [b2i_congr (q := ¬ sRi V i) ⟨fun r => r.2, fun r => ⟨h5, r⟩⟩] at s6
  rw [b2i_congr (q := sNew V i) ⟨fun r => r.2, fun r => ⟨h5, r⟩⟩] at s7
  obtain ⟨a, b, d, e, f⟩ := h
  have e3 := eo 3 (by decide) (by decide) (by decide)
  have e4 := eo 4 (by decide) (by decide) (by decide)
  exact ⟨by omega, by omega, by omega, by omega, by omega⟩
theorem e_X4_addLines (hO : M 76 0 = 77) (h : cOk M c V) (t s : Int) (hz : ∀ j, 3 ≤ j → j < 8 → M 77 j = 0) : ∃ M', zm_X4_addLines zLa [zA 4 76, zA 0 c, zI t, zI s] M = some ([], M') ∧ fA 77 M M' ∧ k5 V t s 77 M' (V 13 0) ∧ ∀ j, j < 3 ∨ 8 ≤ j → M' 77 j = M 77 j := by
  have hN := h.2.2.2.1
  have hΛ := zLc_of h.1
  obtain ⟨M1, e, hf1, hk1, ho1⟩ := lp_ex (fun i (m : zM) => z_ev (zcd_X4_addLines zLa) 1 [zA 4 76, zA 0 c, zI t, zI s, zA 3 (c + 13), zI i] [] m) (fun i m => fA 77 M m ∧ k5 V t s 77 m i ∧ ∀ j, j < 3 ∨ 8 ≤ j → m 77 j = M 77 j) (n := V 13 0) 0 (fun i m hi0 hi1 ⟨hf, hk, ho⟩ => by
    have hC := h.sm hf.sm7
    have hL := hC.2.1
    have hV := hC.2.2.1
    have c3 := cnt_rng (p3 V t s) hi0
    have c4 := cnt_rng (p4 V t s) hi0
    have c5 := cnt_rng (p5 V t s) hi0
    have c6 := cnt_rng (p6 V t s) hi0
    have c7 := cnt_rng (p7 V t s) hi0
    obtain ⟨k3, k4, k55, k6, k7⟩ := id hk
    rw [zb_X4_addLines_1]
    simp only [hL, hΛ, e_X0_isHeard hC, z_bI_mk, z_w32_id (n := i + 1) (by omega) (by omega)]
    simp only [hV]
    rw [if_pos hi1, if_pos (by omega)]
    by_cases q1 : V 15 i = t
    case neg =>
      rw [if_neg q1]
      exact ⟨m, rfl, hf, k5_no hi0 hk (fun r => q1 r.1.1) (fun r => q1 r.1.1), ho⟩
    rw [if_pos q1, if_pos (by omega)]
    by_cases q2 : V 16 i < s
    · rw [if_pos q2]
      exact ⟨m, rfl, hf, k5_no hi0 hk (fun r => by have := r.1.2.1; omega) (fun r => by have := r.1.2.1; omega), ho⟩
    rw [if_neg q2]
    rcases Classical.em (sHe V i) with q3 | q3
    case inr =>
      rw [b2i_neg q3, if_pos rfl]
      exact ⟨m, rfl, hf, k5_no hi0 hk (fun r => q3 r.1.2.2) (fun r => q3 r.1.2.2), ho⟩
    have hT : pT V t s i := ⟨q1, by omega, q3⟩
    rw [b2i_pos q3, if_neg (by decide), if_pos (by omega)]
    by_cases q4 : V 14 i = 0
    · rw [if_pos q4, if_pos (by omega)]
      obtain ⟨m', e', hf', h3', h4', ho'⟩ := e_X4_addAsk (o76 hO hf) (V 18 i) (by omega) (by omega)
      rw [e', z_bV_mk]
      exact ⟨m', rfl, hf.tr hf', k5_ask hi0 hk ⟨hT, q4⟩ h3' h4' ho', fun j a => (ho' j (by omega) (by omega)).trans (ho j a)⟩
    rw [if_neg q4, e_X0_isFirst hC hi0 hi1, z_bI_mk]
    rcases Classical.em (pFi V s i) with q5 | q5
    case inr =>
      rw [b2i_neg q5, if_pos rfl]
      exact ⟨m, rfl, hf, k5_no hi0 hk (fun r => q4 r.2) (fun r => q5 r.2.2), ho⟩
    rw [b2i_pos q5, if_neg (by decide), e_X0_isRight hC hi0 hi1, z_bI_mk, e_X0_isNew hC hi0 hi1, z_bI_mk]
    obtain ⟨m', e', hf', h5', h6', h7', ho'⟩ := e_X4_addFirst (o76 hO hf) (sRi V i) (sNew V i) (by omega) (by omega) (by omega)
    rw [e', z_bV_mk]
    exact ⟨m', rfl, hf.tr hf', k5_fst hi0 hk ⟨hT, q4, q5⟩ h5' h6' h7' ho', fun j a => (ho' j (by omega) (by omega) (by omega)).trans (ho j a)⟩) (s := M) (by omega) ⟨fA.rf 77 M, ⟨hz 3 (by decide) (by decide), hz 4 (by decide) (by decide), hz 5 (by decide) (by decide), hz 6 (by decide) (by decide), hz 7 (by decide) (by decide)⟩, fun _ _ => rfl⟩
  try dsimp only at e
  have hL := h.2.1
  have hC1 := h.sm hf1.sm7
  have hV1 := hC1.2.2.1
  refine ⟨M1, ?_, hf1, hk1, ho1⟩
  rw [zr_X4_addLines]
  refine z_out_some ?_
  rw [zb_X4_addLines_0]
  simp only [hL]
  rw [e, zb_X4_addLines_1]
  simp only [hV1]
  rw [if_neg (by omega)]
/-- the names of a talk -/
noncomputable def nT (V : zM) (t j : Int) : Int := if j = 0 then V 9 t else if j = 1 then V 11 t - V 10 t else if j = 2 then sLo V t (V 11 t) - V 10 t + 1 else if j = 3 then cnt (p3 V t 0) (V 13 0) else if j = 4 then cnt (p4 V t 0) (V 13 0) else if j = 5 then cnt (p5 V t 0) (V 13 0) else if j = 6 then cnt (p6 V t 0) (V 13 0) else if j = 7 then cnt (p7 V t 0) (V 13 0) else if j = 8 then cnt (fun g => V 20 g = t ∧ 2 ≤ sPg V g) (V 19 0) else if j = 9 then cnt (fun g => V 20 g = t) (V 19 0) else 0
/-- of a tape -/
noncomputable def nTp (V : zM) (t j : Int) : Int := if j = 0 then V 9 t else if V 12 t = -1 then 0 else if j = 1 then V 11 t - V 12 t else if j = 3 then cnt (p3 V t (V 12 t)) (V 13 0) else if j = 4 then cnt (p4 V t (V 12 t)) (V 13 0) else if j = 5 then cnt (p5 V t (V 12 t)) (V 13 0) else if j = 6 then cnt (p6 V t (V 12 t)) (V 13 0) else if j = 7 then cnt (p7 V t (V 12 t)) (V 13 0) else 0
/-- of a page -/
noncomputable def nP (V : zM) (t j : Int) : Int := if j = 0 then V 9 t else if j = 5 then cnt (fun g => sPf V g t ∧ V 22 g = V 4 (V 21 g)) (V 19 0) else if j = 6 then cnt (fun g => sPf V g t ∧ ¬ V 22 g = V 4 (V 21 g)) (V 19 0) else if j = 9 then cnt (fun g => V 20 g = t) (V 19 0) else 0
theorem e_X4_setTalk (hO : M 76 0 = 77) (h : cOk M c V) {t : Int} (t0 : 0 ≤ t) (t1 : t < V 7 0) : ∃ M', zm_X4_setTalk zLa [zA 4 76, zA 0 c, zI t] M = some ([], M') ∧ fA 77 M M' ∧ ∀ j, 0 ≤ j → j < 10 → M' 77 j = nT V t j := by
  have hN := h.2.2.2.1
  have hΛ := zLc_of h.1
  have hst := h.2.2.2.2.2.1 t t0 t1
  have hr := sLo_rng h.2.2.2 (t := t) (u := V 11 t) t0 t1 (by omega) (by omega)
  obtain ⟨M1, e1, hf1, h10, h1z⟩ := e_X4_start hO h t0 t1
  have hO1 := o76 hO hf1
  have hC1 := h.sm hf1.sm7
  have hf2 : fA 77 M (z_wr M1 77 1 (V 11 t - V 10 t)) := hf1.tr fA.wr
  have hO2 := o76 hO hf2
  have hC2 := h.sm hf2.sm7
  have hf3 : fA 77 M (z_wr (z_wr M1 77 1 (V 11 t - V 10 t)) 77 2 (sLo V t (V 11 t) - V 10 t + 1)) := hf2.tr fA.wr
  generalize hM3 : z_wr (z_wr M1 77 1 (V 11 t - V 10 t)) 77 2 (sLo V t (V 11 t) - V 10 t + 1) = M3 at hf3
  have g0 : M3 77 0 = V 9 t := by rw [← hM3, z_wr_ne (Or.inr (by decide)), z_wr_ne (Or.inr (by decide))]; exact h10
  have g1 : M3 77 1 = V 11 t - V 10 t := by rw [← hM3, z_wr_ne (Or.inr (by decide)), z_wr_eq]
  have g2 : M3 77 2 = sLo V t (V 11 t) - V 10 t + 1 := by rw [← hM3, z_wr_eq]
  have gz : ∀ j, 3 ≤ j → j < 10 → M3 77 j = 0 := fun j a b => by rw [← hM3, z_wr_ne (Or.inr (by omega)), z_wr_ne (Or.inr (by omega))]; exact h1z j (by omega) b
  obtain ⟨M4, e4, hf4, hk4, ho4⟩ := e_X4_addLines (o76 hO hf3) (h.sm hf3.sm7) t 0 (fun j a b => gz j a (by omega))
  have hf4' := hf3.tr hf4
  have hO4 := o76 hO hf4'
  have hC4 := h.sm hf4'.sm7
  have hf5 : fA 77 M (z_wr M4 77 9 (cnt (fun i => V 20 i = t) (V 19 0))) := hf4'.tr fA.wr
  generalize hM5 : z_wr M4 77 9 (cnt (fun i => V 20 i = t) (V 19 0)) = M5 at hf5
  have m9 : M5 77 9 = cnt (fun i => V 20 i = t) (V 19 0) := by rw [← hM5, z_wr_eq]
  have mo : ∀ j, j ≠ 9 → M5 77 j = M4 77 j := fun j a => by rw [← hM5, z_wr_ne (Or.inr a)]
  obtain ⟨M6, e6, hf6, h68, h6o⟩ := lp_ex (fun i (m : zM) => z_ev (zcd_X4_setTalk zLa) 1 [zA 4 76, zA 0 c, zI t, zI (V 11 t), zI i] [] m) (fun i m => fA 77 M5 m ∧ m 77 8 = cnt (fun g => V 20 g = t ∧ 2 ≤ sPg V g) i ∧ ∀ j, j ≠ 8 → m 77 j = M5 77 j) (n := V 19 0) 0 (fun i m hi0 hi1 ⟨hf, h8, ho⟩ => by
    have hff := hf5.tr hf
    have hC := h.sm hff.sm7
    have hL := hC.2.1
    have hV := hC.2.2.1
    have hO' := o76 hO hff
    have c8 := cnt_rng (fun g => V 20 g = t ∧ 2 ≤ sPg V g) hi0
    have s8 := cnt_s (fun g => V 20 g = t ∧ 2 ≤ sPg V g) hi0
    rw [zb_X4_setTalk_1]
    simp only [hL, hΛ, e_X0_pageState hC hi0 hi1, z_bI_mk, z_w32_id (n := i + 1) (by omega) (by omega), hO', la77, z_lt_eq]
    simp only [hV]
    rw [if_pos hi1, if_pos (by omega)]
    by_cases q1 : V 20 i = t
    case neg =>
      rw [if_neg q1]
      rw [b2i_neg (fun r => q1 r.1)] at s8
      exact ⟨m, rfl, hf, by omega, ho⟩
    rw [if_pos q1]
    by_cases q2 : sPg V i < 2
    · rw [if_pos q2]
      rw [b2i_neg (fun r => by have := r.2; omega)] at s8
      exact ⟨m, rfl, hf, by omega, ho⟩
    · rw [if_neg q2, if_pos (by decide), if_pos (by decide), z_add_id (by omega) (by omega)]
      rw [b2i_pos ⟨q1, by omega⟩] at s8
      exact ⟨_, rfl, hf.tr fA.wr, by rw [z_wr_eq]; omega, fun j a => by rw [z_wr_ne (Or.inr a)]; exact ho j a⟩) (s := M5) (by omega) ⟨fA.rf 77 M5, by rw [mo 8 (by decide), ho4 8 (by decide), gz 8 (by decide) (by decide)]; rfl, fun _ _ => rfl⟩
  try dsimp only at e6
  have hC6 := h.sm (hf5.tr hf6).sm7
  refine ⟨M6, ?_, hf5.tr hf6, fun j a b => ?_⟩
  · have hL := h.2.1
    have hV := h.2.2.1
    have hL1 := hC1.2.1
    have hV1 := hC1.2.2.1
    have hL2 := hC2.2.1
    have hL4 := hC4.2.1
    have hV6 := hC6.2.2.1
    have hL6 := hC6.2.1
    rw [zr_X4_setTalk]
    refine z_out_some ?_
    rw [zb_X4_setTalk_0]
    simp only [hL, hΛ]
    simp only [hV]
    rw [if_pos (by omega), e1, z_bV_mk]
    simp only [hL1, hΛ, hO1, la77, z_lt_eq]
    simp only [hV1]
    rw [if_pos (by omega), if_pos (by decide), z_sub_id (a := V 11 t) (by omega) (by omega)]
    simp only [hL2, hO2, la77]
    rw [e_X8_offHours hC2 t0 t1 (by omega) (by omega), z_bI_mk, if_pos (by decide), hM3, e4, z_bV_mk]
    simp only [hL4, hO4, la77]
    rw [e_X6_linesOf hC4, z_bI_mk, if_pos (by decide), hM5, e6, zb_X4_setTalk_1]
    simp only [hL6]
    simp only [hV6]
    rw [if_neg (by omega)]
  · rcases (by omega : j = 0 ∨ j = 1 ∨ j = 2 ∨ j = 3 ∨ j = 4 ∨ j = 5 ∨ j = 6 ∨ j = 7 ∨ j = 8 ∨ j = 9) with r | r | r | r | r | r | r | r | r | r
    · subst r; rw [h6o 0 (by decide), mo 0 (by decide), ho4 0 (by decide), g0]; rfl
    · subst r; rw [h6o 1 (by decide), mo 1 (by decide), ho4 1 (by decide), g1]; rfl
    · subst r; rw [h6o 2 (by decide), mo 2 (by decide), ho4 2 (by decide), g2]; rfl
    · subst r; rw [h6o 3 (by decide), mo 3 (by decide), hk4.1]; rfl
    · subst r; rw [h6o 4 (by decide), mo 4 (by decide), hk4.2.1]; rfl
    · subst r; rw [h6o 5 (by decide), mo 5 (by decide), hk4.2.2.1]; rfl
    · subst r; rw [h6o 6 (by decide), mo 6 (by decide), hk4.2.2.2.1]; rfl
    · subst r; rw [h6o 7 (by decide), mo 7 (by decide), hk4.2.2.2.2]; rfl
    · subst r; rw [h68]; rfl
    · subst r; rw [h6o 9 (by decide), m9]; rfl
theorem e_X4_setTape (hO : M 76 0 = 77) (h : cOk M c V) {t : Int} (t0 : 0 ≤ t) (t1 : t < V 7 0) : ∃ M', zm_X4_setTape zLa [zA 4 76, zA 0 c, zI t] M = some ([], M') ∧ fA 77 M M' ∧ ∀ j, 0 ≤ j → j < 10 → M' 77 j = nTp V t j := by
  have hN := h.2.2.2.1
  have hΛ := zLc_of h.1
  have hL := h.2.1
  have hV := h.2.2.1
  have hst := h.2.2.2.2.2.1 t t0 t1
  obtain ⟨M1, e1, hf1, h10, h1z⟩ := e_X4_start hO h t0 t1
  have hO1 := o76 hO hf1
  have hC1 := h.sm hf1.sm7
  have hL1 := hC1.2.1
  have hV1 := hC1.2.2.1
  by_cases q : V 12 t = -1
  · refine ⟨M1, ?_, hf1, fun j a b => ?_⟩
    · rw [zr_X4_setTape]
      refine z_out_some ?_
      rw [zb_X4_setTape_0]
      simp only [hL, hΛ]
      simp only [hV]
      rw [if_pos (by omega), e1, z_bV_mk, if_pos q]
    · unfold nTp
      by_cases r : j = 0
      · subst r; rw [h10, if_pos rfl]
      · rw [if_neg r, if_pos q, h1z j (by omega) b]
  have hf2 : fA 77 M (z_wr M1 77 1 (V 11 t - V 12 t)) := hf1.tr fA.wr
  generalize hM2 : z_wr M1 77 1 (V 11 t - V 12 t) = M2 at hf2
  have g0 : M2 77 0 = V 9 t := by rw [← hM2, z_wr_ne (Or.inr (by decide))]; exact h10
  have g1 : M2 77 1 = V 11 t - V 12 t := by rw [← hM2, z_wr_eq]
  have gz : ∀ j, 2 ≤ j → j < 10 → M2 77 j = 0 := fun j a b => by rw [← hM2, z_wr_ne (Or.inr (by omega))]; exact h1z j (by omega) b
  obtain ⟨M4, e4, hf4, hk4, ho4⟩ := e_X4_addLines (o76 hO hf2) (h.sm hf2.sm7) t (V 12 t) (fun j a b => gz j (by omega) (by omega))
  refine ⟨M4, ?_, hf2.tr hf4, fun j a b => ?_⟩
  · rw [zr_X4_setTape]
    refine z_out_some ?_
    rw [zb_X4_setTape_0]
    simp only [hL, hΛ]
    simp only [hV]
    rw [if_pos (by omega), e1, z_bV_mk, if_neg q]
    simp only [hL1, hΛ, hO1, la77, z_lt_eq]
    simp only [hV1]
    rw [if_pos (by omega), if_pos (by decide), z_sub_id (by omega) (by omega), hM2, e4, z_bV_mk]
  · unfold nTp
    rcases (by omega : j = 0 ∨ j = 1 ∨ j = 2 ∨ j = 3 ∨ j = 4 ∨ j = 5 ∨ j = 6 ∨ j = 7 ∨ 8 ≤ j) with r | r | r | r | r | r | r | r | r
    · subst r; rw [ho4 0 (by decide), g0]; rfl
    · subst r; rw [if_neg (by decide), if_neg q, ho4 1 (by decide), g1]; rfl
    · subst r; rw [if_neg (by decide), if_neg q, ho4 2 (by decide), gz 2 (by decide) (by decide)]; rfl
    · subst r; rw [if_neg (by decide), if_neg q, hk4.1]; rfl
    · subst r; rw [if_neg (by decide), if_neg q, hk4.2.1]; rfl
    · subst r; rw [if_neg (by decide), if_neg q, hk4.2.2.1]; rfl
    · subst r; rw [if_neg (by decide), if_neg q, hk4.2.2.2.1]; rfl
    · subst r; rw [if_neg (by decide), if_neg q, hk4.2.2.2.2]; rfl
    · rw [if_neg (by omega), if_neg q, if_neg (by omega), if_neg (by omega), if_neg (by omega), if_neg (by omega), if_neg (by omega), if_neg (by omega), ho4 j (Or.inr r), gz j (by omega) b]
theorem e_X4_setPage (hO : M 76 0 = 77) (h : cOk M c V) {t : Int} (t0 : 0 ≤ t) (t1 : t < V 7 0) : ∃ M', zm_X4_setPage zLa [zA 4 76, zA 0 c, zI t] M = some ([], M') ∧ fA 77 M M' ∧ ∀ j, 0 ≤ j → j < 10 → M' 77 j = nP V t j := by
  have hN := h.2.2.2.1
  have hΛ := zLc_of h.1
  have hL := h.2.1
  have hp := h.2.2.2.2.2.2.2.2
  obtain ⟨M1, e1, hf1, h10, h1z⟩ := e_X4_start hO h t0 t1
  have hO1 := o76 hO hf1
  have hC1 := h.sm hf1.sm7
  have hf2 : fA 77 M (z_wr M1 77 9 (cnt (fun i => V 20 i = t) (V 19 0))) := hf1.tr fA.wr
  generalize hM2 : z_wr M1 77 9 (cnt (fun i => V 20 i = t) (V 19 0)) = M2 at hf2
  have g0 : M2 77 0 = V 9 t := by rw [← hM2, z_wr_ne (Or.inr (by decide))]; exact h10
  have g9 : M2 77 9 = cnt (fun i => V 20 i = t) (V 19 0) := by rw [← hM2, z_wr_eq]
  have gz : ∀ j, 1 ≤ j → j < 9 → M2 77 j = 0 := fun j a b => by rw [← hM2, z_wr_ne (Or.inr (by omega))]; exact h1z j a (by omega)
  obtain ⟨M6, e6, hf6, h65, h66, h6o⟩ := lp_ex (fun i (m : zM) => z_ev (zcd_X4_setPage zLa) 1 [zA 4 76, zA 0 c, zI t, zA 6 (c + 19), zI i] [] m) (fun i m => fA 77 M2 m ∧ m 77 5 = cnt (fun g => sPf V g t ∧ V 22 g = V 4 (V 21 g)) i ∧ m 77 6 = cnt (fun g => sPf V g t ∧ ¬ V 22 g = V 4 (V 21 g)) i ∧ ∀ j, j ≠ 5 → j ≠ 6 → m 77 j = M2 77 j) (n := V 19 0) 0 (fun i m hi0 hi1 ⟨hf, h5, h6, ho⟩ => by
    have hff := hf2.tr hf
    have hC := h.sm hff.sm7
    have hL := hC.2.1
    have hV := hC.2.2.1
    have hO' := o76 hO hff
    have hpi := hp i hi0 hi1
    have c5 := cnt_rng (fun g => sPf V g t ∧ V 22 g = V 4 (V 21 g)) hi0
    have s5 := cnt_s (fun g => sPf V g t ∧ V 22 g = V 4 (V 21 g)) hi0
    have c6 := cnt_rng (fun g => sPf V g t ∧ ¬ V 22 g = V 4 (V 21 g)) hi0
    have s6 := cnt_s (fun g => sPf V g t ∧ ¬ V 22 g = V 4 (V 21 g)) hi0
    rw [zb_X4_setPage_1]
    simp only [hL, hΛ, e_X6_isFirstOf hC hi0 hi1, z_bI_mk, z_w32_id (n := i + 1) (by omega) (by omega), hO', la77, z_lt_eq]
    simp only [hV]
    rw [if_pos hi1]
    rcases Classical.em (sPf V i t) with q1 | q1
    case inr =>
      rw [b2i_neg q1, if_pos rfl]
      rw [b2i_neg (fun r => q1 r.1)] at s5 s6
      exact ⟨m, rfl, hf, by omega, by omega, ho⟩
    rw [b2i_pos q1, if_neg (by decide), if_pos (by omega), if_pos (by omega), if_pos (by omega)]
    by_cases q2 : V 22 i = V 4 (V 21 i)
    · rw [if_pos q2, if_pos (by decide), if_pos (by decide), z_add_id (by omega) (by omega)]
      rw [b2i_pos ⟨q1, q2⟩] at s5
      rw [b2i_neg (fun r => r.2 q2)] at s6
      exact ⟨_, rfl, hf.tr fA.wr, by rw [z_wr_eq]; omega, by rw [z_wr_ne (Or.inr (by decide))]; omega, fun j a b => by rw [z_wr_ne (Or.inr a)]; exact ho j a b⟩
    · rw [if_neg q2, if_pos (by decide), if_pos (by decide), z_add_id (by omega) (by omega)]
      rw [b2i_neg (fun r => q2 r.2)] at s5
      rw [b2i_pos ⟨q1, q2⟩] at s6
      exact ⟨_, rfl, hf.tr fA.wr, by rw [z_wr_ne (Or.inr (by decide))]; omega, by rw [z_wr_eq]; omega, fun j a b => by rw [z_wr_ne (Or.inr b)]; exact ho j a b⟩) (s := M2) (by omega) ⟨fA.rf 77 M2, gz 5 (by decide) (by decide), gz 6 (by decide) (by decide), fun _ _ _ => rfl⟩
  try dsimp only at e6
  have hC6 := h.sm (hf2.tr hf6).sm7
  have hV6 := hC6.2.2.1
  refine ⟨M6, ?_, hf2.tr hf6, fun j a b => ?_⟩
  · rw [zr_X4_setPage]
    refine z_out_some ?_
    rw [zb_X4_setPage_0]
    simp only [hL]
    rw [e1, z_bV_mk, e_X6_linesOf hC1, z_bI_mk, hO1, la77, if_pos (by decide), z_lt_eq, hM2, e6, zb_X4_setPage_1]
    simp only [hV6]
    rw [if_neg (by omega)]
  · unfold nP
    rcases (by omega : j = 0 ∨ j = 5 ∨ j = 6 ∨ j = 9 ∨ (1 ≤ j ∧ j < 9 ∧ j ≠ 5 ∧ j ≠ 6)) with r | r | r | r | r
    · subst r; rw [h6o 0 (by decide) (by decide), g0]; rfl
    · subst r; rw [h65]; rfl
    · subst r; rw [h66]; rfl
    · subst r; rw [h6o 9 (by decide) (by decide), g9]; rfl
    · rw [if_neg (by omega), if_neg (by omega), if_neg (by omega), if_neg (by omega), h6o j (by omega) (by omega), gz j (by omega) (by omega)]
end
