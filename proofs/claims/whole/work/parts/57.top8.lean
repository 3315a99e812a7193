/-! ===== odds, the calls ===== -/
noncomputable def oF (tr : Int) (P R : Int → Prop) (W : Int → Int) (i : Int) (s : Int × Int) : Int × Int := ci (P i) (oG (oX tr (R i) (W i) s)) s
theorem oF_rng {tr N : Int} {P R : Int → Prop} {W : Int → Int} {s0 : Int × Int} (t0 : 1 ≤ tr) (t1 : tr ≤ 9) (hW : ∀ i, 0 ≤ i → i < N → P i → 2 ≤ W i ∧ W i ≤ 9) (hs : oB s0 0) : ∀ i, 0 ≤ i → i ≤ N → oB (fl (oF tr P R W) s0 i) (cnt P i) := by
  refine sm_ind (p := fun i => i ≤ N → oB (fl (oF tr P R W) s0 i) (cnt P i)) (fun _ => hs) (fun i hi ih hN => ?_)
  have h1 := ih (by omega)
  rw [fl_s _ _ hi, cnt_s _ hi]
  generalize fl (oF tr P R W) s0 i = s at h1 ⊢
  unfold oF
  rcases Classical.em (P i) with q | q
  · rw [ci_pos q, b2i_pos q]
    have hw := hW i hi (by omega) q
    exact oG_rng (oX_rng t0 t1 hw.1 hw.2 (cnt_rng P hi).1 h1)
  · rw [ci_neg q, b2i_neg q, Int.add_zero]
    exact h1
theorem and_14 {x : Int} (h0 : 0 ≤ x) (h1 : x < 128) : z_and x 14 = 2 ↔ x / 2 % 8 = 1 := fin_of (n := 128) (p := fun x => z_and x 14 = 2 ↔ x / 2 % 8 = 1) (by decide +kernel) h0 h1
theorem and_30 {x : Int} (h0 : 0 ≤ x) (h1 : x < 128) : z_and x 30 = 2 ↔ x / 2 % 16 = 1 := fin_of (n := 128) (p := fun x => z_and x 30 = 2 ↔ x / 2 % 16 = 1) (by decide +kernel) h0 h1
theorem and_16 {x : Int} (h0 : 0 ≤ x) (h1 : x < 128) : z_and x 16 = 0 ↔ x / 16 % 2 = 0 := fin_of (n := 128) (p := fun x => z_and x 16 = 0 ↔ x / 16 % 2 = 0) (by decide +kernel) h0 h1
theorem and_32 {x : Int} (h0 : 0 ≤ x) (h1 : x < 128) : z_and x 32 = 0 ↔ x / 32 % 2 = 0 := fin_of (n := 128) (p := fun x => z_and x 32 = 0 ↔ x / 32 % 2 = 0) (by decide +kernel) h0 h1
theorem and_sp {x : Int} (h0 : 0 ≤ x) (h1 : x < 128) : z_and x 30 = 2 ↔ (z_and x 14 = 2 ∧ z_and x 16 = 0) := fin_of (n := 128) (p := fun x => z_and x 30 = 2 ↔ (z_and x 14 = 2 ∧ z_and x 16 = 0)) (by decide +kernel) h0 h1
theorem sBits_rng (V : zM) (k : Int) : 0 ≤ sBits V k ∧ sBits V k < 128 := by
  unfold sBits
  have h1 := b2i_rng (sRi V k)
  have h2 := b2i_rng (sFst V k)
  have h3 := b2i_rng (¬ sLed V k = -1)
  have h4 := b2i_rng (sPub V k)
  have h5 := b2i_rng (sOff V k)
  have h6 := b2i_rng (sNew V k)
  have h7 := b2i_rng (sFst V k ∧ sLed V k = -1 ∧ ¬ sPub V k ∧ ¬ sOff V k)
  omega
theorem sBits_fst (V : zM) (k : Int) (h : sBits V k / 2 % 2 = 1) : sFst V k := by
  unfold sBits at h
  have h1 := b2i_rng (sRi V k)
  have h2 := b2i_rng (sFst V k)
  have h3 := b2i_rng (¬ sLed V k = -1)
  have h4 := b2i_rng (sPub V k)
  have h5 := b2i_rng (sOff V k)
  have h6 := b2i_rng (sNew V k)
  have h7 := b2i_rng (sFst V k ∧ sLed V k = -1 ∧ ¬ sPub V k ∧ ¬ sOff V k)
  refine Classical.byContradiction (fun q => ?_)
  rw [b2i_neg (p := sFst V k) q] at h
  omega
theorem sBits_new (V : zM) (k : Int) : z_and (sBits V k) 32 = 0 ↔ ¬ sNew V k := by
  have hr := sBits_rng V k
  rw [and_32 hr.1 hr.2]
  unfold sBits
  have h1 := b2i_rng (sRi V k)
  have h2 := b2i_rng (sFst V k)
  have h3 := b2i_rng (¬ sLed V k = -1)
  have h4 := b2i_rng (sPub V k)
  have h5 := b2i_rng (sOff V k)
  have h7 := b2i_rng (sFst V k ∧ sLed V k = -1 ∧ ¬ sPub V k ∧ ¬ sOff V k)
  rcases Classical.em (sNew V k) with q | q
  · rw [b2i_pos q]
    exact ⟨fun r => by omega, fun r => absurd q r⟩
  · rw [b2i_neg q]
    exact ⟨fun _ => q, fun _ => by omega⟩
/-- of a teller there are no more FIRST words than things -/
theorem first_8 {V : zM} (hv : vOk V) (t : Int) {P : Int → Prop} (hP : ∀ i, 0 ≤ i → i < V 13 0 → P i → sHt V i t ∧ sFst V i) : ∀ n, 0 ≤ n → n ≤ V 13 0 → cnt P n ≤ V 1 0 :=
  pigeon (f := fun i => V 17 i) hv.1.1 (fun i i0 i1 _ => by have := hv.2.2.2.1 i i0 i1; omega) (fun i j i0 ij j1 pi pj e => by
    have h1 := (hP i i0 (by omega) pi).1
    have h2 := hP j (by omega) j1 pj
    exact h2.2 i i0 ij ⟨h1.2.2.2.1, h1.2.2.2.2.trans h2.1.2.2.2.2.symm, e⟩)
theorem page_8 {V : zM} (hv : vOk V) (t : Int) : ∀ n, 0 ≤ n → n ≤ V 19 0 → cnt (fun g => sPf V g t) n ≤ V 1 0 :=
  pigeon (f := fun i => V 21 i) hv.1.1 (fun i i0 i1 _ => by have := hv.2.2.2.2.2 i i0 i1; omega) (fun i j i0 ij j1 pi pj e => pj.2 i i0 ij ⟨pi.1, e⟩)
section
variable {M V : zM} {c : Int}
abbrev pOw (V : zM) (t u i : Int) : Prop := sHt V i t ∧ z_and (sBits V i) u = 2
theorem pOw_f {t u : Int} (hu : u = 14 ∨ u = 30) (i : Int) (h : pOw V t u i) : sHt V i t ∧ sFst V i := by
  refine ⟨h.1, sBits_fst V i ?_⟩
  have hr := sBits_rng V i
  have h2 := h.2
  rcases hu with rfl | rfl
  · rw [and_14 hr.1 hr.2] at h2; omega
  · rw [and_30 hr.1 hr.2] at h2; omega
noncomputable abbrev oW (V : zM) (tr t u : Int) : Int → Int × Int → Int × Int := oF tr (pOw V t u) (sRi V) (fun i => V 3 (V 17 i))
noncomputable abbrev oP (V : zM) (tr t : Int) : Int → Int × Int → Int × Int := oF tr (fun g => sPf V g t) (fun g => V 22 g = V 4 (V 21 g)) (fun g => V 3 (V 21 g))
theorem e_X5_start {p q tr : Int} (p0 : 1 ≤ p) (p1 : p ≤ 99) (q0 : 1 ≤ q) (q1 : q ≤ 99) (M : zM) : ∃ M', zm_X5_start zLa [zA 5 75, zI p, zI q, zI tr] M = some ([], M') ∧ Sm M M' ∧ oC M' (oG (p, q)) ∧ M' 75 2 = tr := by
  obtain ⟨m', e, hs, hc, h2⟩ := e_X5_shorten (m := z_wr (z_wr (z_wr M 75 2 tr) 75 0 p) 75 1 q) (s := (p, q)) ⟨by rw [z_wr_ne (Or.inr (by decide)), z_wr_eq], by rw [z_wr_eq]⟩ ⟨p0, by show p < _; omega, q0, by show q < _; omega⟩
  refine ⟨m', ?_, (((Sm.wr (by decide)).tr (Sm.wr (by decide))).tr (Sm.wr (by decide))).tr hs, hc, ?_⟩
  · rw [zr_X5_start]
    refine z_out_some ?_
    rw [zb_X5_start_0, z_lt_eq, z_lt_eq, z_lt_eq, e, z_bV_mk]
  · rw [h2, z_wr_ne (Or.inr (by decide)), z_wr_ne (Or.inr (by decide)), z_wr_eq]
theorem e_X5_takeWords (h : cOk M c V) {s0 : Int × Int} {tr : Int} (t0 : 1 ≤ tr) (t1 : tr ≤ 9) (hs0 : oC M s0) (htr : M 75 2 = tr) (hb : oB s0 0) (t x : Int) {u : Int} (hu : (x = 0 ∧ u = 30) ∨ (x = 1 ∧ u = 14)) : ∃ M', zm_X5_takeWords zLa [zA 5 75, zA 0 c, zI t, zI x] M = some ([], M') ∧ Sm M M' ∧ oC M' (fl (oW V tr t u) s0 (V 13 0)) := by
  have hN := h.2.2.2.1
  have hΛ := zLc_of h.1
  have hT := h.2.2.2.2.1
  have hl := h.2.2.2.2.2.2.1
  have hW : ∀ i, 0 ≤ i → i < V 13 0 → pOw V t u i → 2 ≤ V 3 (V 17 i) ∧ V 3 (V 17 i) ≤ 9 := fun i i0 i1 _ => by
    have h1 := hl i i0 i1
    have h2 := hT (V 17 i) (by omega) (by omega)
    omega
  have h8 := first_8 h.2.2.2 t (P := pOw V t u) (fun i _ _ q => pOw_f (by omega) i q)
  have hRg := oF_rng (R := sRi V) (W := fun i => V 3 (V 17 i)) t0 t1 hW hb
  have key : ∀ (x' u0 : Int), z_or 2 u0 = u → ∃ M', z_ev (zcd_X5_takeWords zLa) 1 [zA 5 75, zA 0 c, zI t, zI x', zI u0, zI 0] [] M = some (.inl ([], M')) ∧ Sm M M' ∧ oC M' (fl (oW V tr t u) s0 (V 13 0)) := by
    intro x' u0 hu0
    obtain ⟨M1, e, hs1, hc1, htr1⟩ := lp_ex (fun i (m : zM) => z_ev (zcd_X5_takeWords zLa) 1 [zA 5 75, zA 0 c, zI t, zI x', zI u0, zI i] [] m) (fun i m => Sm M m ∧ oC m (fl (oW V tr t u) s0 i) ∧ m 75 2 = tr) (n := V 13 0) 0 (fun i m hi0 hi1 ⟨hs, hc, htr⟩ => by
      have hC := h.sm hs
      have hL := hC.2.1
      have hV := hC.2.2.1
      have hli := hl i hi0 hi1
      have hrg := hRg i hi0 (by omega)
      rw [zb_X5_takeWords_1]
      simp only [hL, hΛ, e_X0_isHeardWordOf hC, e_X0_bitsOf hC hi0 hi1, e_X0_isRight hC hi0 hi1, z_bI_mk, z_w32_id (n := i + 1) (by omega) (by omega), hu0]
      simp only [hV]
      rw [if_pos hi1, fl_s _ _ hi0]
      generalize hS : fl (oW V tr t u) s0 i = S at *
      have hno : ¬ pOw V t u i → oW V tr t u i S = S := fun q => ci_neg q
      rcases Classical.em (sHt V i t) with w1 | w1
      case inr =>
        rw [b2i_neg w1, if_pos rfl, hno (fun r => w1 r.1)]
        exact ⟨m, rfl, hs, hc, htr⟩
      rw [b2i_pos w1, if_neg (by decide)]
      by_cases w2 : z_and (sBits V i) u = 2
      case neg =>
        rw [if_neg w2, hno (fun r => w2 r.2)]
        exact ⟨m, rfl, hs, hc, htr⟩
      rw [if_pos w2, if_pos (by omega), if_pos (by omega)]
      have hy : oW V tr t u i S = oG (oX tr (sRi V i) (V 3 (V 17 i)) S) := ci_pos (⟨w1, w2⟩ : pOw V t u i)
      have hw := hW i hi0 hi1 ⟨w1, w2⟩
      have h8' := h8 (i + 1) (by omega) (by omega)
      rw [cnt_s _ hi0, b2i_pos ⟨w1, w2⟩] at h8'
      obtain ⟨m', e', hs', hc', htr'⟩ := e_X5_takeOne (r := sRi V i) hc htr t0 t1 hw.1 hw.2 (cnt_rng _ hi0).1 (by omega) hrg
      rw [e', z_bV_mk, hy]
      exact ⟨m', rfl, hs.tr hs', hc', htr'⟩) (s := M) (by omega) ⟨Sm.rf M, hs0, htr⟩
    try dsimp only at e
    have hC1 := h.sm hs1
    have hL1 := hC1.2.1
    have hV1 := hC1.2.2.1
    refine ⟨M1, ?_, hs1, hc1⟩
    rw [e, zb_X5_takeWords_1]
    simp only [hL1]
    simp only [hV1]
    rw [if_neg (by omega)]
  rcases hu with ⟨rfl, rfl⟩ | ⟨rfl, rfl⟩
  · obtain ⟨M', e, r⟩ := key 0 28 (by decide)
    refine ⟨M', ?_, r⟩
    rw [zr_X5_takeWords]
    refine z_out_some ?_
    rw [zb_X5_takeWords_0, if_pos rfl, e]
  · obtain ⟨M', e, r⟩ := key 1 12 (by decide)
    refine ⟨M', ?_, r⟩
    rw [zr_X5_takeWords]
    refine z_out_some ?_
    rw [zb_X5_takeWords_0, if_neg (by decide), e]
theorem e_X5_takePage (h : cOk M c V) {s0 : Int × Int} {tr : Int} (t0 : 1 ≤ tr) (t1 : tr ≤ 9) (hs0 : oC M s0) (htr : M 75 2 = tr) (hb : oB s0 0) (t : Int) : ∃ M', zm_X5_takePage zLa [zA 5 75, zA 0 c, zI t] M = some ([], M') ∧ Sm M M' ∧ oC M' (fl (oP V tr t) s0 (V 19 0)) := by
  have hN := h.2.2.2.1
  have hΛ := zLc_of h.1
  have hT := h.2.2.2.2.1
  have hp := h.2.2.2.2.2.2.2.2
  have hW : ∀ i, 0 ≤ i → i < V 19 0 → sPf V i t → 2 ≤ V 3 (V 21 i) ∧ V 3 (V 21 i) ≤ 9 := fun i i0 i1 _ => by
    have h1 := hp i i0 i1
    have h2 := hT (V 21 i) (by omega) (by omega)
    omega
  have h8 := page_8 h.2.2.2 t
  have hRg := oF_rng (R := fun g => V 22 g = V 4 (V 21 g)) (W := fun i => V 3 (V 21 i)) t0 t1 hW hb
  obtain ⟨⟨w5, M1⟩, e, hs1, hc1, htr1⟩ := lp_ex (fun i (s : zV × zM) => z_ev (zcd_X5_takePage zLa) 1 [zA 5 75, zA 0 c, zI t, zA 6 (c + 19), zI i, s.1] [] s.2) (fun i s => Sm M s.2 ∧ oC s.2 (fl (oP V tr t) s0 i) ∧ s.2 75 2 = tr) (n := V 19 0) 0 (fun i s hi0 hi1 ⟨hs, hc, htr⟩ => by
    obtain ⟨w5, m⟩ := s
    dsimp only at hs hc htr
    have hC := h.sm hs
    have hL := hC.2.1
    have hV := hC.2.2.1
    have hpi := hp i hi0 hi1
    have hrg := hRg i hi0 (by omega)
    dsimp only
    rw [zb_X5_takePage_1]
    simp only [hL, hΛ, e_X6_isFirstOf hC hi0 hi1, z_bI_mk, z_w32_id (n := i + 1) (by omega) (by omega)]
    simp only [hV]
    rw [if_pos hi1, fl_s _ _ hi0]
    generalize hS : fl (oP V tr t) s0 i = S at *
    rcases Classical.em (sPf V i t) with w1 | w1
    case inr =>
      rw [b2i_neg w1, if_pos rfl, show oP V tr t i S = S from ci_neg w1]
      exact ⟨(w5, m), rfl, hs, hc, htr⟩
    rw [b2i_pos w1, if_neg (by decide), if_pos (by omega), if_pos (by omega), if_pos (by omega)]
    have hy : oP V tr t i S = oG (oX tr (V 22 i = V 4 (V 21 i)) (V 3 (V 21 i)) S) := ci_pos w1
    have hw := hW i hi0 hi1 w1
    have h8' := h8 (i + 1) (by omega) (by omega)
    rw [cnt_s _ hi0, b2i_pos w1] at h8'
    obtain ⟨m', e', hs', hc', htr'⟩ := e_X5_takeOne (r := V 22 i = V 4 (V 21 i)) hc htr t0 t1 hw.1 hw.2 (cnt_rng _ hi0).1 (by omega) hrg
    rw [hy]
    by_cases w2 : V 22 i = V 4 (V 21 i)
    · rw [b2i_pos w2] at e'
      rw [if_pos w2, if_pos (by omega), e', z_bV_mk]
      exact ⟨(_, m'), rfl, hs.tr hs', hc', htr'⟩
    · rw [b2i_neg w2] at e'
      rw [if_neg w2, if_pos (by omega), e', z_bV_mk]
      exact ⟨(_, m'), rfl, hs.tr hs', hc', htr'⟩) (s := (zU, M)) (by omega) ⟨Sm.rf M, hs0, htr⟩
  dsimp only at e hs1 hc1
  have hC1 := h.sm hs1
  have hV1 := hC1.2.2.1
  have hL0 := h.2.1
  refine ⟨M1, ?_, hs1, hc1⟩
  rw [zr_X5_takePage]
  refine z_out_some ?_
  rw [zb_X5_takePage_0]
  simp only [hL0]
  rw [e, zb_X5_takePage_1]
  simp only [hV1]
  rw [if_neg (by omega)]
theorem r_words (h : mOk M V) {s0 : Int × Int} {tr : Int} (t0 : 1 ≤ tr) (t1 : tr ≤ 9) (hs0 : oR M s0) (htr : M 84 47 = tr) (hb : oB s0 0) (t x w : Int) {u : Int} (hu : (x = 0 ∧ u = 30) ∨ (x = 1 ∧ u = 14)) : ∃ M', z_ev (zcd_X12_odds zLa) 2 [zA 12 84, zI t, zI x, zI w, zI 0, zU] [] M = some (.inl ([zJ (if w = 0 then (fl (oW V tr t u) s0 (V 13 0)).1 else (fl (oW V tr t u) s0 (V 13 0)).2)], M')) ∧ Sm M M' := by
  have hN := h.2.2.1
  have hΛ2 := zLo_ok
  have hT := h.2.2.2.1
  have hl := h.2.2.2.2.2.1
  have hW : ∀ i, 0 ≤ i → i < V 13 0 → pOw V t u i → 2 ≤ V 3 (V 17 i) ∧ V 3 (V 17 i) ≤ 9 := fun i i0 i1 _ => by
    have h1 := hl i i0 i1
    have h2 := hT (V 17 i) (by omega) (by omega)
    omega
  have h8 := first_8 h.2.2 t (P := pOw V t u) (fun i _ _ q => pOw_f (by omega) i q)
  have hRg := oF_rng (R := sRi V) (W := fun i => V 3 (V 17 i)) t0 t1 hW hb
  obtain ⟨⟨w5, M1⟩, e, hs1, hc1⟩ := lp_ex (fun i (s : zV × zM) => z_ev (zcd_X12_odds zLa) 2 [zA 12 84, zI t, zI x, zI w, zI i, s.1] [] s.2) (fun i s => Sm M s.2 ∧ oR s.2 (fl (oW V tr t u) s0 i)) (n := V 13 0) 0 (fun i s hi0 hi1 ⟨hs, hc⟩ => by
    obtain ⟨w5, m⟩ := s
    dsimp only at hs hc
    have hE := h.sm hs
    have htr' : m 84 47 = tr := (hs _ _ (by decide)).trans htr
    have hli := hl i hi0 hi1
    have mi := hE.2.1.2.2.2.1 i hi0 hi1
    have hrg := hRg i hi0 (by omega)
    dsimp only
    rw [zb_X12_odds_2]
    simp only [hE.1, hΛ2, hE.2.1.1, e_X12_isHeardWord hE, e_X12_isRight hE hi0 hi1, z_bI_mk, z_w32_id (n := i + 1) (by omega) (by omega)]
    simp only [mi]
    rw [if_pos hi1, fl_s _ _ hi0]
    generalize hS : fl (oW V tr t u) s0 i = S at *
    have hno : ¬ pOw V t u i → oW V tr t u i S = S := fun q => ci_neg q
    rcases Classical.em (sHw V i) with w1 | w1
    case inr =>
      rw [b2i_neg w1, if_pos rfl, hno (fun r => w1 ⟨r.1.1, r.1.2.1, r.1.2.2.1, r.1.2.2.2.1⟩)]
      exact ⟨(w5, m), rfl, hs, hc⟩
    rw [b2i_pos w1, if_neg (by decide), if_pos (by omega)]
    by_cases w2 : V 15 i = t
    case neg =>
      rw [if_neg w2, hno (fun r => w2 r.1.2.2.2.2)]
      exact ⟨(w5, m), rfl, hs, hc⟩
    have w3 : sHt V i t := ⟨w1.1, w1.2.1, w1.2.2.1, w1.2.2.2, w2⟩
    rw [if_pos w2, e_X12_whatIs hE hi0 hi1 w1.2.2.1, z_bI_mk]
    simp only [hE.1, hΛ2, mi, e_X12_isRight hE hi0 hi1, z_bI_mk]
    have hr := sBits_rng V i
    have hsp := and_sp hr.1 hr.2
    have yes : z_and (sBits V i) u = 2 → ∃ m', zm_X12_weighs zLa [zA 12 84, zI (V 17 i), zI (b2i (sRi V i))] m = some ([], m') ∧ Sm M m' ∧ oR m' (oW V tr t u i S) := fun w4 => by
      have hy : oW V tr t u i S = oG (oX tr (sRi V i) (V 3 (V 17 i)) S) := ci_pos (⟨w3, w4⟩ : pOw V t u i)
      have h8' := h8 (i + 1) (by omega) (by omega)
      rw [cnt_s _ hi0, b2i_pos ⟨w3, w4⟩] at h8'
      obtain ⟨m', e', hs', hc'⟩ := e_X12_weighs (r := sRi V i) hE hc htr' t0 t1 (y := V 17 i) (by omega) (by omega) (cnt_rng _ hi0).1 (by omega) hrg
      exact ⟨m', e', hs.tr hs', by rw [hy]; exact hc'⟩
    by_cases w4 : z_and (sBits V i) 14 = 2
    case neg =>
      rw [if_neg w4, hno (fun r => w4 (by
        have r2 := r.2
        rcases hu with ⟨rfl, rfl⟩ | ⟨rfl, rfl⟩
        · exact (hsp.1 r2).1
        · exact r2))]
      exact ⟨(_, m), rfl, hs, hc⟩
    rw [if_pos w4]
    rcases hu with ⟨rfl, rfl⟩ | ⟨rfl, rfl⟩
    · rw [if_neg (by decide)]
      by_cases w5 : z_and (sBits V i) 16 = 0
      · obtain ⟨m', e', hs', hc'⟩ := yes (hsp.2 ⟨w4, w5⟩)
        rw [if_pos w5, if_pos (by omega), e', z_bV_mk]
        exact ⟨(_, m'), rfl, hs', hc'⟩
      · rw [if_neg w5, hno (fun r => w5 (hsp.1 r.2).2)]
        exact ⟨(_, m), rfl, hs, hc⟩
    · obtain ⟨m', e', hs', hc'⟩ := yes w4
      rw [if_pos rfl, if_pos (by omega), e', z_bV_mk]
      exact ⟨(_, m'), rfl, hs', hc'⟩) (s := (zU, M)) (by omega) ⟨Sm.rf M, hs0⟩
  dsimp only at e hs1 hc1
  have hE1 := h.sm hs1
  refine ⟨M1, ?_, hs1⟩
  rw [e, zb_X12_odds_2]
  simp only [hE1.2.1.1]
  rw [if_neg (by omega), hc1.1, hc1.2]
  split <;> rfl
theorem r_pages (h : mOk M V) {s0 : Int × Int} {tr : Int} (t0 : 1 ≤ tr) (t1 : tr ≤ 9) (hs0 : oR M s0) (htr : M 84 47 = tr) (hb : oB s0 0) (t x w : Int) : ∃ M', z_ev (zcd_X12_odds zLa) 1 [zA 12 84, zI t, zI x, zI w, zI 0, zU] [] M = some (.inl ([zJ (if w = 0 then (fl (oP V tr t) s0 (V 19 0)).1 else (fl (oP V tr t) s0 (V 19 0)).2)], M')) ∧ Sm M M' := by
  have hN := h.2.2.1
  have hΛ2 := zLo_ok
  have hT := h.2.2.2.1
  have hp := h.2.2.2.2.2.2.2
  have hW : ∀ i, 0 ≤ i → i < V 19 0 → sPf V i t → 2 ≤ V 3 (V 21 i) ∧ V 3 (V 21 i) ≤ 9 := fun i i0 i1 _ => by
    have h1 := hp i i0 i1
    have h2 := hT (V 21 i) (by omega) (by omega)
    omega
  have h8 := page_8 h.2.2 t
  have hRg := oF_rng (R := fun g => V 22 g = V 4 (V 21 g)) (W := fun i => V 3 (V 21 i)) t0 t1 hW hb
  obtain ⟨M1, e, hs1, hc1⟩ := lp_ex (fun i (m : zM) => z_ev (zcd_X12_odds zLa) 1 [zA 12 84, zI t, zI x, zI w, zI i, zU] [] m) (fun i m => Sm M m ∧ oR m (fl (oP V tr t) s0 i)) (n := V 19 0) 0 (fun i m hi0 hi1 ⟨hs, hc⟩ => by
    have hE := h.sm hs
    have htr' : m 84 47 = tr := (hs _ _ (by decide)).trans htr
    have hpi := hp i hi0 hi1
    have mi := hE.2.1.2.2.2.2 i hi0 hi1
    have mt := hE.2.1.2.1 (V 21 i) (by omega) (by omega)
    have hrg := hRg i hi0 (by omega)
    rw [zb_X12_odds_1]
    simp only [hE.1, hΛ2, hE.2.1.1, e_X12_isFirstLine hE hi0 hi1, z_bI_mk, z_w32_id (n := i + 1) (by omega) (by omega)]
    simp only [mi, mt]
    rw [if_pos hi1, fl_s _ _ hi0, if_pos (by omega)]
    generalize hS : fl (oP V tr t) s0 i = S at *
    by_cases w1 : V 20 i = t
    case neg =>
      rw [if_neg w1, show oP V tr t i S = S from ci_neg (fun r => w1 r.1)]
      exact ⟨m, rfl, hs, hc⟩
    rw [if_pos w1]
    rcases Classical.em (∀ j, 0 ≤ j → j < i → ¬ (V 20 j = V 20 i ∧ V 21 j = V 21 i)) with w2 | w2
    case inr =>
      rw [b2i_neg w2, if_pos rfl, show oP V tr t i S = S from ci_neg (fun r => w2 (by rw [w1]; exact r.2))]
      exact ⟨m, rfl, hs, hc⟩
    have w3 : sPf V i t := ⟨w1, by rw [w1] at w2; exact w2⟩
    rw [b2i_pos w2, if_neg (by decide), if_pos (by omega), if_pos (by omega), if_pos (by omega), if_pos (by omega)]
    have hy : oP V tr t i S = oG (oX tr (V 22 i = V 4 (V 21 i)) (V 3 (V 21 i)) S) := ci_pos w3
    have h8' := h8 (i + 1) (by omega) (by omega)
    rw [cnt_s _ hi0, b2i_pos w3] at h8'
    obtain ⟨m', e', hs', hc'⟩ := e_X12_weighs (r := V 22 i = V 4 (V 21 i)) hE hc htr' t0 t1 (y := V 21 i) (by omega) (by omega) (cnt_rng _ hi0).1 (by omega) hrg
    rw [hy]
    by_cases w4 : V 22 i = V 4 (V 21 i)
    · rw [b2i_pos w4] at e'
      rw [if_pos w4, e', z_bV_mk]
      exact ⟨m', rfl, hs.tr hs', hc'⟩
    · rw [b2i_neg w4] at e'
      rw [if_neg w4, e', z_bV_mk]
      exact ⟨m', rfl, hs.tr hs', hc'⟩) (s := M) (by omega) ⟨Sm.rf M, hs0⟩
  try dsimp only at e
  have hE1 := h.sm hs1
  refine ⟨M1, ?_, hs1⟩
  rw [e, zb_X12_odds_1]
  simp only [hE1.2.1.1]
  rw [if_neg (by omega), hc1.1, hc1.2]
  split <;> rfl
abbrev gT (M : zM) : Prop := M 0 2 = M 84 47 ∧ M 0 3 = M 84 48 ∧ M 0 4 = M 84 49 ∧ (1 ≤ M 84 47 ∧ M 84 47 ≤ 9) ∧ (1 ≤ M 84 48 ∧ M 84 48 ≤ 99) ∧ (1 ≤ M 84 49 ∧ M 84 49 ≤ 99)
theorem q_odds (h : gQ M c V) (hT : gT M) (t k w : Int) : Pr zm_X11_odds zm_X12_odds [zI t, zI k, zI w] M := by
  have hg := h
  obtain ⟨hn, hO, hC, hD⟩ := h
  have hL := hC.2.1
  have hs : Sm M (z_wr M 84 2 0) := Sm.wr (by decide)
  have hE := hD.sm hs
  rcases Classical.em ((0 ≤ t ∧ t < V 7 0) ∧ (0 ≤ k ∧ k ≤ 2) ∧ (0 ≤ w ∧ w ≤ 1)) with q | q
  case inr =>
    refine ⟨[zJ (-1)], M, z_wr M 84 2 0, ?_, ?_, hs⟩
    · rw [zr_X11_odds]
      refine z_out_some ?_
      rw [zb_X11_odds_0]
      simp only [hn, hL, e_X8_has hC, z_bI_mk]
      rcases Classical.em (0 ≤ t ∧ t < V 7 0) with q1 | q1
      case inr => rw [b2i_neg q1, if_pos rfl]
      rw [b2i_pos q1, if_neg (by decide)]
      by_cases q2 : k < 0
      · rw [if_pos q2]
      rw [if_neg q2]
      by_cases q3 : k ≤ 2
      case neg => rw [if_neg q3]
      rw [if_pos q3]
      by_cases q4 : w < 0
      · rw [if_pos q4]
      rw [if_neg q4, if_neg (fun r => q ⟨q1, by omega, by omega⟩)]
    · rw [zr_X12_odds]
      refine z_out_some ?_
      rw [zb_X12_odds_0, z_lt_eq]
      simp only [e_X12_isTeller hE, e_X12_isIn, z_bI_mk]
      rcases Classical.em (0 ≤ t ∧ t < V 7 0) with q1 | q1
      case inr => rw [b2i_neg q1, if_pos rfl]
      rw [b2i_pos q1, if_neg (by decide)]
      rcases Classical.em (0 ≤ k ∧ k ≤ 2) with q2 | q2
      case inr => rw [b2i_neg q2, if_pos rfl]
      rw [b2i_pos q2, if_neg (by decide), b2i_neg (fun r => q ⟨q1, q2, r⟩), if_pos rfl]
  obtain ⟨q1, q2, q3⟩ := q
  obtain ⟨M1, e1, hs1, hc1, ht1⟩ := e_X5_start (tr := M 84 47) hT.2.2.2.2.1.1 hT.2.2.2.2.1.2 hT.2.2.2.2.2.1 hT.2.2.2.2.2.2 M
  have hbd0 : bd (0 : Int).toNat = 99 := rfl
  have hB0 : oB (M 84 48, M 84 49) 0 := ⟨hT.2.2.2.2.1.1, by rw [hbd0]; exact hT.2.2.2.2.1.2, hT.2.2.2.2.2.1, by rw [hbd0]; exact hT.2.2.2.2.2.2⟩
  have hB1 := oG_rng hB0
  have hok0 := oB_ok hB0 (by omega) (by omega)
  have hg1 := hg.sm hs1
  -- the class takes what it counts
  have cls : ∀ (S : Int × Int) (M2 : zM), oC M2 S → Sm M1 M2 → ((k = 2 → zm_X5_takePage zLa [zA 5 75, zA 0 c, zI t] M1 = some ([], M2)) ∧ (k = 1 → zm_X5_takeWords zLa [zA 5 75, zA 0 c, zI t, zI 1] M1 = some ([], M2)) ∧ (k = 0 → zm_X5_takeWords zLa [zA 5 75, zA 0 c, zI t, zI 0] M1 = some ([], M2))) → zm_X11_odds zLa [zA 11 0, zI t, zI k, zI w] M = some ([zJ (if w = 0 then S.1 else S.2)], M2) := by
    intro S M2 hc2 hs2 hk
    have h5 : M1 0 5 = 75 := by simp only [hg1.2.1]
    have h6 : M2 0 5 = 75 := by simp only [(hg1.sm hs2).2.1]
    rw [zr_X11_odds]
    refine z_out_some ?_
    rw [zb_X11_odds_0]
    simp only [hn, hL, e_X8_has hC, z_bI_mk]
    rw [b2i_pos q1, if_neg (by decide), if_neg (by omega), if_pos q2.2, if_neg (by omega), if_pos q3.2]
    simp only [hO, hT.1, hT.2.1, hT.2.2.1]
    rw [e1, z_bV_mk, hg1.1, h5]
    rcases (by omega : k = 2 ∨ k = 1 ∨ k = 0) with r | r | r
    · rw [if_pos r, hk.1 r, z_bV_mk, h6, hc2.1, hc2.2]
      split <;> rfl
    · rw [if_neg (by omega), if_pos r, hk.2.1 r, z_bV_mk, h6, hc2.1, hc2.2]
      split <;> rfl
    · rw [if_neg (by omega), if_neg (by omega), hk.2.2 r, z_bV_mk, h6, hc2.1, hc2.2]
      split <;> rfl
  -- and so does the reference
  have rfn : ∀ (S : Int × Int) (M2 : zM), Sm M M2 → (∀ m, mOk m V → oR m (oG (M 84 48, M 84 49)) → m 84 47 = M 84 47 → ∃ m', z_ev (zcd_X12_odds zLa) (if k = 2 then 1 else 2) [zA 12 84, zI t, zI k, zI w, zI 0, zU] [] m = some (.inl ([zJ (if w = 0 then S.1 else S.2)], m')) ∧ Sm m m') → ∃ M3, zm_X12_odds zLa [zA 12 84, zI t, zI k, zI w] M2 = some ([zJ (if w = 0 then S.1 else S.2)], M3) ∧ Sm M M3 := by
    intro S M2 hs2 hk
    have hs3 : Sm M (z_wr M2 84 2 0) := hs2.tr (Sm.wr (by decide))
    have hE3 := hD.sm hs3
    have hs4 : Sm M (z_wr (z_wr (z_wr M2 84 2 0) 84 58 (M 84 48)) 84 59 (M 84 49)) := (hs3.tr (Sm.wr (by decide))).tr (Sm.wr (by decide))
    obtain ⟨m5, e5, hs5, hc5⟩ := e_X12_least (m := z_wr (z_wr (z_wr M2 84 2 0) 84 58 (M 84 48)) 84 59 (M 84 49)) (s := (M 84 48, M 84 49)) ⟨by rw [z_wr_ne (Or.inr (by decide)), z_wr_eq], by rw [z_wr_eq]⟩ hok0
    have hs6 := hs4.tr hs5
    obtain ⟨m', e6, hs7⟩ := hk m5 (hD.sm hs6) hc5 (hs6 _ _ (by decide))
    refine ⟨m', ?_, hs6.tr hs7⟩
    rw [zr_X12_odds]
    refine z_out_some ?_
    rw [zb_X12_odds_0, z_lt_eq]
    simp only [e_X12_isTeller hE3, e_X12_isIn, z_bI_mk, z_lt_eq]
    rw [b2i_pos q1, if_neg (by decide), b2i_pos q2, if_neg (by decide), b2i_pos q3, if_neg (by decide), z_wr_ne (M := z_wr M2 84 2 0) (Or.inr (by decide)), hs3 84 48 (by decide), hs3 84 49 (by decide), e5, z_bV_mk]
    by_cases r : k = 2
    · rw [if_pos r] at e6
      rw [if_pos r, e6]
    · rw [if_neg r] at e6
      rw [if_neg r, e6]
  rcases (by omega : k = 2 ∨ k = 1 ∨ k = 0) with r | r | r
  · obtain ⟨M2, e2, hs2, hc2⟩ := e_X5_takePage hg1.2.2.1 hT.2.2.2.1.1 hT.2.2.2.1.2 hc1 ht1 hB1 t
    obtain ⟨M3, e3, hs3⟩ := rfn _ M2 (hs1.tr hs2) (fun m hm ho htm => by
      obtain ⟨m', e', hs'⟩ := r_pages hm hT.2.2.2.1.1 hT.2.2.2.1.2 ho htm hB1 t k w
      exact ⟨m', by rw [if_pos r]; exact e', hs'⟩)
    exact ⟨_, M2, M3, cls _ M2 hc2 hs2 ⟨fun _ => e2, fun z => absurd z (by omega), fun z => absurd z (by omega)⟩, e3, hs3⟩
  · obtain ⟨M2, e2, hs2, hc2⟩ := e_X5_takeWords hg1.2.2.1 hT.2.2.2.1.1 hT.2.2.2.1.2 hc1 ht1 hB1 t 1 (u := 14) (Or.inr ⟨rfl, rfl⟩)
    obtain ⟨M3, e3, hs3⟩ := rfn _ M2 (hs1.tr hs2) (fun m hm ho htm => by
      obtain ⟨m', e', hs'⟩ := r_words hm hT.2.2.2.1.1 hT.2.2.2.1.2 ho htm hB1 t k w (u := 14) (Or.inr ⟨r, rfl⟩)
      exact ⟨m', by rw [if_neg (by omega)]; exact e', hs'⟩)
    exact ⟨_, M2, M3, cls _ M2 hc2 hs2 ⟨fun z => absurd z (by omega), fun _ => e2, fun z => absurd z (by omega)⟩, e3, hs3⟩
  · obtain ⟨M2, e2, hs2, hc2⟩ := e_X5_takeWords hg1.2.2.1 hT.2.2.2.1.1 hT.2.2.2.1.2 hc1 ht1 hB1 t 0 (u := 30) (Or.inl ⟨rfl, rfl⟩)
    obtain ⟨M3, e3, hs3⟩ := rfn _ M2 (hs1.tr hs2) (fun m hm ho htm => by
      obtain ⟨m', e', hs'⟩ := r_words hm hT.2.2.2.1.1 hT.2.2.2.1.2 ho htm hB1 t k w (u := 30) (Or.inl ⟨r, rfl⟩)
      exact ⟨m', by rw [if_neg (by omega)]; exact e', hs'⟩)
    exact ⟨_, M2, M3, cls _ M2 hc2 hs2 ⟨fun z => absurd z (by omega), fun z => absurd z (by omega), fun _ => e2⟩, e3, hs3⟩
end
