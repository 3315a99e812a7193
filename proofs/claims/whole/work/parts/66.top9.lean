/-! ===== law, barred, jury, found: answered alike ===== -/
theorem or_0 {x : Int} (h0 : 0 ≤ x) (h1 : x < 32) : z_or x 0 = x := fin_of (n := 32) (p := fun x => z_or x 0 = x) (by decide +kernel) h0 h1
section
variable {M V : zM} {c : Int}
theorem q_law (h : gQ M c V) (hF : gF M V) (k : Int) : Pr zm_X11_law zm_X12_law [zI k] M := by
  have hg := h
  obtain ⟨hn, hO, hC, hD⟩ := h
  rcases Classical.em (sHw V k) with q | q
  · obtain ⟨M1, e1, hs1'⟩ := e_X4_lawAt (h76 hO) hC hF.cF q.1 q.2.1
    have hs1 := hs1'.sm
    have hg1 := hg.sm hs1
    have hs : Sm M1 (z_wr M1 84 2 0) := Sm.wr (by decide)
    have hE := hg1.2.2.2.sm hs
    obtain ⟨M2, e2, hs2'⟩ := e_X12_lawAt hE ((hF.sm hs1).sm hs) q.1 q.2.1 q.2.2.1
    have hs2 := hs2'.sm
    refine ⟨[zI (sLaw V k)], M1, M2, ?_, ?_, (hs1.tr hs).tr hs2⟩
    · rw [zr_X11_law]
      refine z_out_some ?_
      rw [zb_X11_law_0]
      simp only [hn, hO, e_X0_isHeardWord hC, z_bI_mk]
      rw [b2i_pos q, if_neg (by decide), e1, z_bI_mk]
    · rw [zr_X12_law]
      refine z_out_some ?_
      rw [zb_X12_law_0, z_lt_eq, e_X12_isHeardWord hE, z_bI_mk, b2i_pos q, if_neg (by decide), e2, z_bI_mk]
  · have hs : Sm M (z_wr M 84 2 0) := Sm.wr (by decide)
    have hE := hD.sm hs
    refine ⟨[zI (-1)], M, z_wr M 84 2 0, ?_, ?_, hs⟩
    · rw [zr_X11_law]
      refine z_out_some ?_
      rw [zb_X11_law_0]
      simp only [hn, hO, e_X0_isHeardWord hC, z_bI_mk]
      rw [b2i_neg q, if_pos rfl]
    · rw [zr_X12_law]
      refine z_out_some ?_
      rw [zb_X12_law_0, z_lt_eq, e_X12_isHeardWord hE, z_bI_mk, b2i_neg q, if_pos rfl]
theorem q_barred (h : gQ M c V) (hF : gF M V) (t : Int) : Pr zm_X11_barred zm_X12_barred [zI t] M := by
  have hg := h
  obtain ⟨hn, hO, hC, hD⟩ := h
  have hL := hC.2.1
  rcases Classical.em (0 ≤ t ∧ t < V 7 0) with q | q
  · obtain ⟨M1, e1, hs1⟩ := e_X4_bars (h76 hO) hC hF.cF q.1 q.2
    have hg1 := hg.sm hs1
    have hs : Sm M1 (z_wr M1 84 2 0) := Sm.wr (by decide)
    have hE := hg1.2.2.2.sm hs
    obtain ⟨M2, e2, hs2⟩ := e_X12_isBarred hE ((hF.sm hs1).sm hs) q.1 q.2
    refine ⟨[zI (b2i (sBar V t))], M1, M2, ?_, ?_, (hs1.tr hs).tr hs2⟩
    · rw [zr_X11_barred]
      refine z_out_some ?_
      rw [zb_X11_barred_0]
      simp only [hn, hO, hL, e_X8_has hC, z_bI_mk]
      rw [b2i_pos q, if_neg (by decide), e1, z_bI_mk]
      rcases b2i_01 (sBar V t) with r | r <;> rw [r] <;> rfl
    · rw [zr_X12_barred]
      refine z_out_some ?_
      rw [zb_X12_barred_0, z_lt_eq, e_X12_isTeller hE, z_bI_mk, b2i_pos q, if_neg (by decide), e2, z_bI_mk]
      rcases b2i_01 (sBar V t) with r | r <;> rw [r] <;> rfl
  · have hs : Sm M (z_wr M 84 2 0) := Sm.wr (by decide)
    have hE := hD.sm hs
    refine ⟨[zI (-1)], M, z_wr M 84 2 0, ?_, ?_, hs⟩
    · rw [zr_X11_barred]
      refine z_out_some ?_
      rw [zb_X11_barred_0]
      simp only [hn, hO, hL, e_X8_has hC, z_bI_mk]
      rw [b2i_neg q, if_pos rfl]
    · rw [zr_X12_barred]
      refine z_out_some ?_
      rw [zb_X12_barred_0, z_lt_eq, e_X12_isTeller hE, z_bI_mk, b2i_neg q, if_pos rfl]
theorem q_jury (h : gQ M c V) (hF : gF M V) (t x : Int) : Pr zm_X11_jury zm_X12_jury [zI t, zI x] M := by
  have hg := h
  obtain ⟨hn, hO, hC, hD⟩ := h
  have hL := hC.2.1
  rcases Classical.em (0 ≤ t ∧ t < V 7 0) with q | q
  case inr =>
    have hs : Sm M (z_wr M 84 2 0) := Sm.wr (by decide)
    have hE := hD.sm hs
    refine ⟨[zI (-1)], M, z_wr M 84 2 0, ?_, ?_, hs⟩
    · rw [zr_X11_jury]
      refine z_out_some ?_
      rw [zb_X11_jury_0]
      simp only [hn, hO, hL, e_X8_has hC, z_bI_mk]
      rw [b2i_neg q, if_pos rfl]
    · rw [zr_X12_jury]
      refine z_out_some ?_
      rw [zb_X12_jury_0, z_lt_eq, e_X12_isTeller hE, z_bI_mk, b2i_neg q, if_pos rfl]
  by_cases qx : 0 ≤ x ∧ x ≤ 2
  · obtain ⟨M1, e1, hs1⟩ := e_X4_finds (h76 hO) hC hF.cF q.1 q.2 x
    have hg1 := hg.sm hs1
    have hs : Sm M1 (z_wr M1 84 2 0) := Sm.wr (by decide)
    have hE := hg1.2.2.2.sm hs
    obtain ⟨M2, e2, hs2⟩ := e_X12_finds hE ((hF.sm hs1).sm hs) q.1 q.2 x
    refine ⟨[zI (b2i (sFd V t x))], M1, M2, ?_, ?_, (hs1.tr hs).tr hs2⟩
    · rw [zr_X11_jury]
      refine z_out_some ?_
      rw [zb_X11_jury_0]
      simp only [hn, hO, hL, e_X8_has hC, z_bI_mk]
      rw [b2i_pos q, if_neg (by decide), if_neg (by omega), if_pos (by omega), e1, z_bI_mk]
      rcases b2i_01 (sFd V t x) with r | r <;> rw [r] <;> rfl
    · rw [zr_X12_jury]
      refine z_out_some ?_
      rw [zb_X12_jury_0, z_lt_eq, e_X12_isTeller hE, z_bI_mk, b2i_pos q, if_neg (by decide), e_X12_isIn, z_bI_mk, b2i_pos qx, if_neg (by decide), e2, z_bI_mk]
      rcases b2i_01 (sFd V t x) with r | r <;> rw [r] <;> rfl
  · have hs : Sm M (z_wr M 84 2 0) := Sm.wr (by decide)
    have hE := hD.sm hs
    refine ⟨[zI (-1)], M, z_wr M 84 2 0, ?_, ?_, hs⟩
    · rw [zr_X11_jury]
      refine z_out_some ?_
      rw [zb_X11_jury_0]
      simp only [hn, hO, hL, e_X8_has hC, z_bI_mk]
      rw [b2i_pos q, if_neg (by decide)]
      by_cases r : x < 0
      · rw [if_pos r]
      · rw [if_neg r, if_neg (by omega)]
    · rw [zr_X12_jury]
      refine z_out_some ?_
      rw [zb_X12_jury_0, z_lt_eq, e_X12_isTeller hE, z_bI_mk, b2i_pos q, if_neg (by decide), e_X12_isIn, z_bI_mk, b2i_neg qx, if_pos rfl]
noncomputable def gFo (V : zM) (x t a : Int) : Int := cite (sFd V t x ∧ ¬ sBar V t) (z_or a (z_shl 1 t)) a
theorem gFo_rng (hv : vOk V) (x : Int) : ∀ i, 0 ≤ i → i ≤ V 7 0 → 0 ≤ fld (gFo V x) 0 i ∧ fld (gFo V x) 0 i < 32 := by
  have hN := hv.1
  refine sm_ind (p := fun i => i ≤ V 7 0 → 0 ≤ fld (gFo V x) 0 i ∧ fld (gFo V x) 0 i < 32) (fun _ => by rw [fld_0]; omega) (fun n h ih hn => ?_)
  have := ih (by omega)
  rw [fld_s _ _ h]
  unfold gFo
  rcases Classical.em (sFd V n x ∧ ¬ sBar V n) with q | q
  · rw [cite_pos q]; exact or_rng this.1 this.2 h (by omega)
  · rw [cite_neg q]; exact this
theorem q_found (h : gQ M c V) (hF : gF M V) (x w : Int) : Pr zm_X11_found zm_X12_found [zI x, zI w] M := by
  have hg := h
  obtain ⟨hn, hO, hC, hD⟩ := h
  have hL := hC.2.1
  have hN := hC.2.2.2.1
  by_cases qx : (0 ≤ x ∧ x ≤ 2) ∧ (0 ≤ w ∧ w ≤ 1)
  case neg =>
    have hs : Sm M (z_wr M 84 2 0) := Sm.wr (by decide)
    refine ⟨[zI (-1)], M, z_wr M 84 2 0, ?_, ?_, hs⟩
    · rw [zr_X11_found]
      refine z_out_some ?_
      rw [zb_X11_found_0]
      (repeat' split) <;> first | rfl | (exfalso; omega)
    · rw [zr_X12_found]
      refine z_out_some ?_
      rw [zb_X12_found_0, z_lt_eq, e_X12_isIn, z_bI_mk, e_X12_isIn, z_bI_mk]
      simp only [b2i_eq0]
      (repeat' split) <;> first | rfl | (exfalso; omega)
  have hr := gFo_rng hC.2.2.2 x
  obtain ⟨⟨a, M1⟩, e, hs1, hI⟩ := lp_ex (fun i (s : Int × zM) => z_ev (zcd_X11_found zLa) 1 [zA 11 0, zI x, zI w, zI s.1, zI i] [] s.2) (fun i s => Sm M s.2 ∧ s.1 = fld (gFo V x) 0 i) (n := V 7 0) 0 (fun i s hi0 hi1 ⟨hs, hI⟩ => by
    obtain ⟨a, m⟩ := s
    dsimp only at hs hI
    have hg' := hg.sm hs
    have hO' := hg'.2.1
    have hL' := hg'.2.2.1.2.1
    have hV' := hg'.2.2.1.2.2.1
    obtain ⟨m2, e2, hs2⟩ := e_X4_finds (h76 hO') hg'.2.2.1 hF.cF hi0 hi1 x
    have hg2 := hg'.sm hs2
    have hO2 := hg2.2.1
    obtain ⟨m3, e3, hs3⟩ := e_X4_bars (h76 hO2) hg2.2.2.1 hF.cF hi0 hi1
    dsimp only
    rw [zb_X11_found_1]
    simp only [hg'.1, hL', hO']
    simp only [hV', e2, z_bI_mk, z_w32_id (n := i + 1) (by omega) (by omega)]
    rw [if_pos hi1]
    simp only [hg2.1, hO2, e3, z_bI_mk]
    have hfs : fld (gFo V x) 0 (i + 1) = gFo V x i a := by rw [fld_s _ _ hi0, ← hI]
    unfold gFo at hfs
    rcases Classical.em (sFd V i x) with q1 | q1
    case inr =>
      rw [b2i_neg q1, if_pos rfl]
      rw [cite_neg (fun r => q1 r.1)] at hfs
      exact ⟨(a, m2), rfl, hs.tr hs2, hfs.symm⟩
    rw [b2i_pos q1, if_neg (by decide)]
    rcases Classical.em (sBar V i) with q2 | q2
    · rw [b2i_pos q2, if_neg (by decide)]
      rw [cite_neg (fun r => r.2 q2)] at hfs
      exact ⟨(a, m3), rfl, (hs.tr hs2).tr hs3, hfs.symm⟩
    · rw [b2i_neg q2, if_pos rfl]
      rw [cite_pos ⟨q1, q2⟩] at hfs
      exact ⟨(z_or a (z_shl 1 i), m3), rfl, (hs.tr hs2).tr hs3, hfs.symm⟩) (s := (0, M)) (by omega) ⟨Sm.rf M, rfl⟩
  dsimp only at e hs1 hI
  have hg1 := hg.sm hs1
  have hL1 := hg1.2.2.1.2.1
  have hV1 := hg1.2.2.1.2.2.1
  have hs : Sm M1 (z_wr M1 84 2 0) := Sm.wr (by decide)
  have hE := hg1.2.2.2.sm hs
  have hF1 := (hF.sm hs1).sm hs
  obtain ⟨⟨a2, M2⟩, e2, hs2, hI2⟩ := lp_ex (fun i (s : Int × zM) => z_ev (zcd_X12_found zLa) 1 [zA 12 84, zI x, zI w, zI s.1, zI i] [] s.2) (fun i s => Sm (z_wr M1 84 2 0) s.2 ∧ s.1 = fld (gFo V x) 0 i) (n := V 7 0) 0 (fun i s hi0 hi1 ⟨hs, hI⟩ => by
    obtain ⟨a, m⟩ := s
    dsimp only at hs hI
    have hE' := hE.sm hs
    obtain ⟨m2, e2, hs2⟩ := e_X12_finds hE' (hF1.sm hs) hi0 hi1 x
    obtain ⟨m3, e3, hs3⟩ := e_X12_isBarred (hE'.sm hs2) ((hF1.sm hs).sm hs2) hi0 hi1
    have hra := hr i hi0 (by omega)
    rw [← hI] at hra
    dsimp only
    rw [zb_X12_found_1, hE'.2.1.1.2.1, if_pos hi1, e2, z_bI_mk, e3, z_bI_mk, z_w32_id (n := i + 1) (by omega) (by omega), or_0 hra.1 hra.2]
    have hfs : fld (gFo V x) 0 (i + 1) = gFo V x i a := by rw [fld_s _ _ hi0, ← hI]
    unfold gFo at hfs
    rcases Classical.em (sFd V i x) with q1 | q1
    case inr =>
      rw [b2i_neg q1, if_pos rfl]
      rw [cite_neg (fun r => q1 r.1)] at hfs
      exact ⟨(a, m2), rfl, hs.tr hs2, hfs.symm⟩
    rw [b2i_pos q1, if_neg (by decide)]
    rcases Classical.em (sBar V i) with q2 | q2
    · rw [b2i_pos q2, if_neg (by decide)]
      rw [cite_neg (fun r => r.2 q2)] at hfs
      exact ⟨(a, m3), rfl, (hs.tr hs2).tr hs3, hfs.symm⟩
    · rw [b2i_neg q2, if_pos rfl]
      rw [cite_pos ⟨q1, q2⟩] at hfs
      exact ⟨(z_or a (z_shl 1 i), m3), rfl, (hs.tr hs2).tr hs3, hfs.symm⟩) (s := (0, z_wr M1 84 2 0)) (by omega) ⟨Sm.rf _, rfl⟩
  dsimp only at e2 hs2 hI2
  have hE2 := (hE.sm hs2).2.1.1
  refine ⟨[zI (if w = 0 then z_and (fld (gFo V x) 0 (V 7 0)) (z_xor (V 0 10) (-1)) else z_and (V 0 10) (z_xor (fld (gFo V x) 0 (V 7 0)) (-1)))], M1, M2, ?_, ?_, (hs1.tr hs).tr hs2⟩
  · rw [zr_X11_found]
    refine z_out_some ?_
    rw [zb_X11_found_0, if_neg (by omega), if_pos (by omega), if_neg (by omega), if_pos (by omega), e, zb_X11_found_1]
    simp only [hg1.1, hL1]
    simp only [hV1]
    rw [if_neg (by omega), hI]
    by_cases qw : w = 0
    · rw [if_pos qw, if_pos qw]
    · rw [if_neg qw, if_neg qw]
  · rw [zr_X12_found]
    refine z_out_some ?_
    rw [zb_X12_found_0, z_lt_eq, e_X12_isIn, z_bI_mk, b2i_pos qx.1, if_neg (by decide), e_X12_isIn, z_bI_mk, b2i_pos qx.2, if_neg (by decide), e2, zb_X12_found_1, hE2.2.1, if_neg (by omega), hI2, hE2.2.2.2.2.2.2.1]
    by_cases qw : w = 0
    · rw [if_pos qw, if_pos qw]
    · rw [if_neg qw, if_neg qw]
end
