/-! ===== the reference: bits of a WORD, stories, pages, asks ===== -/
section
variable {M V : zM}
theorem e_X12_isThing (h : mOk M V) (t : Int) : zm_X12_isThing zLa [zA 12 84, zI t] M = some ([zI (b2i (0 ≤ t ∧ t < V 1 0))], M) := by
  obtain ⟨hR, hE, hN, hT, hS, hl, hm, hp⟩ := h
  have hΛ := zLo_ok
  rw [zr_X12_isThing]
  refine z_out_some ?_
  rw [zb_X12_isThing_0]
  try simp only [hR, hΛ, hE.1, z_bI_mk, z_bJ_mk, z_bV_mk]
  try simp only [b2i_eq0]
  repeat' split
  all_goals first | (rw [b2i_pos (by omega)]; done) | (rw [b2i_neg (by omega)]; done) | rfl | (exfalso; omega)

theorem e_X12_isTeller (h : mOk M V) (t : Int) : zm_X12_isTeller zLa [zA 12 84, zI t] M = some ([zI (b2i (0 ≤ t ∧ t < V 7 0))], M) := by
  obtain ⟨hR, hE, hN, hT, hS, hl, hm, hp⟩ := h
  have hΛ := zLo_ok
  rw [zr_X12_isTeller]
  refine z_out_some ?_
  rw [zb_X12_isTeller_0]
  try simp only [hR, hΛ, hE.1, z_bI_mk, z_bJ_mk, z_bV_mk]
  try simp only [b2i_eq0]
  repeat' split
  all_goals first | (rw [b2i_pos (by omega)]; done) | (rw [b2i_neg (by omega)]; done) | rfl | (exfalso; omega)

set_option maxHeartbeats 4000000 in
theorem e_X12_whatIs (h : mOk M V) {k : Int} (h0 : 0 ≤ k) (h1 : k < V 13 0) (h2 : V 16 k ≤ V 0 9) : zm_X12_whatIs zLa [zA 12 84, zI k] M = some ([zI (sBits V k)], M) := by
  have er := e_X12_isRight h h0 h1
  have ef := e_X12_isFirst h h0 h1 h2
  have el := e_X12_ledBy h h0 h1 h2
  have eo := e_X12_isOff h h0 h1
  obtain ⟨hR, hE, hN, hT, hS, hl, hm, hp⟩ := h
  have hΛ := zLo_ok
  have mk := hE.2.2.2.1 k h0 h1
  have hk := hl k h0 h1
  have mt := hE.2.1 (V 17 k) (by omega) (by omega)
  have htk := hT (V 17 k) (by omega) (by omega)
  have hb : k < 120 := by omega
  have hb2 : 0 ≤ V 17 k := by omega
  have hb3 : V 17 k < 16 := by omega
  have el3 := lst_spec (fun i => V 14 i = 0 ∧ sSt V i k ∧ V 18 i = V 18 k) h0
  have eL : sLed V k = lst (fun i => V 14 i = 0 ∧ sSt V i k ∧ V 18 i = V 18 k) k := rfl
  rw [← eL] at el3
  have eL1 : (sLed V k < 0) ↔ sLed V k = -1 := by omega
  have ep : b2i (0 ≤ V 5 (V 17 k) ∧ V 5 (V 17 k) ≤ V 16 k) = b2i (sHad (V 5 (V 17 k)) (V 16 k)) := had_eq (by omega)
  have eq : b2i (0 ≤ V 6 (V 17 k) ∧ V 6 (V 17 k) ≤ V 16 k) = b2i (sHad (V 6 (V 17 k)) (V 16 k)) := had_eq (by omega)
  rw [zr_X12_whatIs]
  refine z_out_some ?_
  simp only [zb_X12_whatIs_0, zb_X12_whatIs_1, zb_X12_whatIs_2, zb_X12_whatIs_3, zb_X12_whatIs_4, zb_X12_whatIs_5, zb_X12_whatIs_6, zb_X12_whatIs_7, er, ef, el, eo, e_X12_had, z_bI_mk, hR, hΛ, hE.1]
  simp only [mk, mt, ep, eq, h0, hb, hb2, hb3, and_self, if_true, eL1]
  have eNew : b2i (sNew V k) = b2i (sRi V k) * ((1 - b2i (sHad (V 6 (V 17 k)) (V 16 k))) * (1 - b2i (sHad (V 5 (V 17 k)) (V 16 k)))) := by
    rw [show sNew V k = (sRi V k ∧ (¬ sHad (V 6 (V 17 k)) (V 16 k) ∧ ¬ sHad (V 5 (V 17 k)) (V 16 k))) from rfl, b2i_and (sRi V k), b2i_and (¬ sHad (V 6 (V 17 k)) (V 16 k)), b2i_not (sHad (V 6 (V 17 k)) (V 16 k)), b2i_not (sHad (V 5 (V 17 k)) (V 16 k))]
  have eOff : b2i (sOff V k) = b2i (sRi V k) * b2i (V 10 (V 15 k) ≤ sLo V (V 15 k) (V 16 k) ∧ sHad (V 6 (V 17 k)) (sLo V (V 15 k) (V 16 k))) := b2i_and (sRi V k) _
  rw [sBits_eq, eNew, eOff]
  have zR := b2i_01 (sRi V k)
  have zF := b2i_01 (sFst V k)
  have zH := b2i_01 (sHad (V 5 (V 17 k)) (V 16 k))
  have zP := b2i_01 (sHad (V 6 (V 17 k)) (V 16 k))
  have zO := b2i_01 (V 10 (V 15 k) ≤ sLo V (V 15 k) (V 16 k) ∧ sHad (V 6 (V 17 k)) (sLo V (V 15 k) (V 16 k)))
  generalize b2i (sRi V k) = pR at *
  generalize b2i (sFst V k) = pF at *
  generalize sLed V k = pL at *
  generalize b2i (sHad (V 5 (V 17 k)) (V 16 k)) = pH at *
  generalize b2i (sHad (V 6 (V 17 k)) (V 16 k)) = pP at *
  generalize b2i (V 10 (V 15 k) ≤ sLo V (V 15 k) (V 16 k) ∧ sHad (V 6 (V 17 k)) (sLo V (V 15 k) (V 16 k))) = pO at *
  clear er ef el eo ep eq eNew eOff el3 eL eL1
  rcases Classical.em (pL = -1) with qL | qL
  · rw [b2i_pos qL]
    simp only [qL, if_true]
    rcases zR with rfl | rfl <;> rcases zF with rfl | rfl <;> rcases zH with rfl | rfl <;> rcases zO with rfl | rfl <;> rcases zP with rfl | rfl <;> rfl
  · rw [b2i_neg qL]
    simp only [qL, if_false]
    rcases zR with rfl | rfl <;> rcases zF with rfl | rfl <;> rcases zH with rfl | rfl <;> rcases zO with rfl | rfl <;> rcases zP with rfl | rfl <;> rfl

theorem e_X12_latestWord (h : mOk M V) (t y : Int) : zm_X12_latestWord zLa [zA 12 84, zI t, zI y] M = some ([zI (lst (fun i => sSay V i t y) (V 13 0))], M) := by
  have hh := e_X12_says h
  obtain ⟨hR, hE, hN, hT, hS, hl, hm, hp⟩ := h
  have hΛ := zLo_ok
  rw [zr_X12_latestWord]
  refine z_out_some ?_
  rw [zb_X12_latestWord_0]
  try simp only [hR, hΛ, hE.1, z_bI_mk, z_bJ_mk, z_bV_mk]
  try simp only [b2i_eq0]
  obtain ⟨s', e, hI⟩ := lp_up (fun i (a : Int) => z_ev (zcd_X12_latestWord zLa) 1 [zA 12 84, zI t, zI y, zI a, zI i] [] M) (fun i a => cite (sSay V i t y) (i) a) (fun i a => a = lst (fun i => sSay V i t y) i) (n := V 13 0) (fun i a hi0 hi1 hI => by
    have hls := lst_s (fun i => sSay V i t y) hi0
    refine ⟨?_, ?_⟩
    · rw [zb_X12_latestWord_1]
      try simp only [hR, hΛ, hE.1, hh, z_w32_id (n := i + 1) (by omega) (by omega), z_bI_mk, z_bJ_mk, z_bV_mk]
      try simp only [b2i_eq0]
      repeat' split
      all_goals first | (rw [cite_pos (by omega)]; done) | (rw [cite_neg (by omega)]; done) | (exfalso; omega)
    · rcases Classical.em (sSay V i t y) with q | q
      · rw [cite_pos q]
        rw [hls.1 q]
      · rw [cite_neg q, hI]
        rw [hls.2 q]) (V 13 0).toNat 0 (-1) (by omega) (by omega) (by rfl)
  try dsimp only at e
  rw [e, zb_X12_latestWord_1]
  try simp only [hR, hΛ, hE.1, z_bI_mk, z_bJ_mk, z_bV_mk]
  try simp only [b2i_eq0]
  rw [if_neg (by omega), hI]

theorem e_X12_firstSaid (h : mOk M V) (t y v : Int) : zm_X12_firstSaid zLa [zA 12 84, zI t, zI y, zI v] M = some ([zI (fst (fun i => sSay V i t y ∧ V 18 i = v) (V 13 0))], M) := by
  have hh := e_X12_says h
  obtain ⟨hR, hE, hN, hT, hS, hl, hm, hp⟩ := h
  have hΛ := zLo_ok
  have mi := hΛ
  rw [zr_X12_firstSaid]
  refine z_out_some ?_
  rw [zb_X12_firstSaid_0]
  try simp only [hR, hΛ, hE.1, z_bI_mk, z_bJ_mk, z_bV_mk]
  try simp only [mi, b2i_eq0]
  have hf := lp_find (fun i => z_ev (zcd_X12_firstSaid zLa) 1 [zA 12 84, zI t, zI y, zI v, zI i] [] M) (fun i => sSay V i t y ∧ V 18 i = v) (n := V 13 0) (by omega) (A := fun i => some (.inl ([zI i], M))) (B := some (.inl ([zI (-1)], M))) (fun i a b hq => by
      have mi := hE.2.2.2.1 i a b
      rw [zb_X12_firstSaid_1]
      try simp only [hR, hΛ, hE.1, hh, z_bI_mk, z_bJ_mk, z_bV_mk]
      try simp only [mi, b2i_eq0]
      repeat' split
      all_goals first | rfl | (exfalso; omega)) (fun i a b hq => by
      have mi := hE.2.2.2.1 i a b
      rw [zb_X12_firstSaid_1]
      try simp only [hR, hΛ, hE.1, hh, z_w32_id (n := i + 1) (by omega) (by omega), z_bI_mk, z_bJ_mk, z_bV_mk]
      try simp only [mi, b2i_eq0]
      repeat' split
      all_goals first | rfl | (exfalso; omega)) (by
      rw [zb_X12_firstSaid_1]
      try simp only [hR, hΛ, hE.1, z_bI_mk, z_bJ_mk, z_bV_mk]
      try simp only [mi, b2i_eq0]
      rw [if_neg (by omega)])
  have hs := fst_spec (fun i => sSay V i t y ∧ V 18 i = v) (n := V 13 0) (by omega)
  rcases hs with ⟨a, b⟩ | ⟨a, b, d, -⟩
  · rw [hf.1 a, a]
  · rw [hf.2 (by omega)]

theorem e_X12_storyOf (h : mOk M V) (t y : Int) : zm_X12_storyOf zLa [zA 12 84, zI t, zI y] M = some ([zI (sSto V t y)], M) := by
  have hw := e_X12_latestWord h t y
  obtain ⟨hR, hE, hN, hT, hS, hl, hm, hp⟩ := h
  have hΛ := zLo_ok
  rw [zr_X12_storyOf]
  refine z_out_some ?_
  rw [zb_X12_storyOf_0]
  simp only [hR, hΛ, hE.1, hw, z_bI_mk]
  have hs := lst_spec (fun i => sSay V i t y) (n := V 13 0) (by omega)
  unfold sSto sVal
  have e : lst (fun i => sHt V i t ∧ V 17 i = y) (V 13 0) = lst (fun i => sSay V i t y) (V 13 0) := rfl
  rw [e]
  generalize lst (fun i => sSay V i t y) (V 13 0) = z at *
  rcases hs with ⟨a, -⟩ | ⟨a, b, -, -⟩
  · rw [if_pos (by omega), cite_pos a]
  · have mz := hE.2.2.2.1 z a b
    rw [if_neg (by omega), if_pos (by omega), cite_neg (by omega)]
    simp only [mz]

theorem e_X12_pageIs (h : mOk M V) {g : Int} (g0 : 0 ≤ g) (g1 : g < V 19 0) : zm_X12_pageIs zLa [zA 12 84, zI g] M = some ([zI (sPg V g)], M) := by
  have hw := e_X12_latestWord h
  have hfs := e_X12_firstSaid h
  obtain ⟨hR, hE, hN, hT, hS, hl, hm, hp⟩ := h
  have hΛ := zLo_ok
  have mg := hE.2.2.2.2 g g0 g1
  have hg := hp g g0 g1
  rw [zr_X12_pageIs]
  refine z_out_some ?_
  rw [zb_X12_pageIs_0]
  simp only [hR, hΛ, hE.1, hw, hfs, z_bI_mk]
  simp only [mg]
  rw [if_pos (by omega), if_pos (by omega)]
  have hs := lst_spec (fun i => sSay V i (V 20 g) (V 21 g)) (n := V 13 0) (by omega)
  have hq := fst_spec (fun i => sSay V i (V 20 g) (V 21 g) ∧ V 18 i = V 22 g) (n := V 13 0) (by omega)
  unfold sPg sFs sSto sVal
  have e : lst (fun i => sHt V i (V 20 g) ∧ V 17 i = V 21 g) (V 13 0) = lst (fun i => sSay V i (V 20 g) (V 21 g)) (V 13 0) := rfl
  have e2 : fst (fun i => sHt V i (V 20 g) ∧ V 17 i = V 21 g ∧ V 18 i = V 22 g) (V 13 0) = fst (fun i => sSay V i (V 20 g) (V 21 g) ∧ V 18 i = V 22 g) (V 13 0) := fst_congr (fun k _ _ => by constructor <;> (intro q; omega))
  rw [e, e2]
  rcases hs with ⟨a, -⟩ | ⟨a, b, d, -⟩
  · rw [a, if_pos (by omega), cite_pos (p := (-1 : Int) = -1) rfl, cite_pos rfl]
  · have mz := hE.2.2.2.1 _ a b
    have hz := hl _ a b
    rw [if_neg (by omega), if_pos (by omega), if_pos (by omega), cite_neg (p := lst (fun i => sSay V i (V 20 g) (V 21 g)) (V 13 0) = -1) (by omega)]
    simp only [mz]
    rw [cite_neg (p := V 18 (lst (fun i => sSay V i (V 20 g) (V 21 g)) (V 13 0)) = -1) (by omega)]
    by_cases q2 : V 18 (lst (fun i => sSay V i (V 20 g) (V 21 g)) (V 13 0)) = V 22 g
    · rw [if_pos q2, cite_pos q2]
    · rw [if_neg q2, cite_neg q2, if_pos (by omega), if_pos (by omega), if_pos (by omega)]
      rcases hq with ⟨a2, -⟩ | ⟨a2, b2, d2, -⟩
      · rw [if_pos (by omega), cite_pos a2]
      · rw [if_neg (by omega), cite_neg (by omega)]

theorem e_X12_isOnPage (h : mOk M V) (t y v : Int) : zm_X12_isOnPage zLa [zA 12 84, zI t, zI y, zI v] M = some ([zI (b2i (sTel V t y v))], M) := by
  obtain ⟨hR, hE, hN, hT, hS, hl, hm, hp⟩ := h
  have hΛ := zLo_ok
  have mi := hΛ
  rw [zr_X12_isOnPage]
  refine z_out_some ?_
  rw [zb_X12_isOnPage_0]
  try simp only [hR, hΛ, hE.1, z_bI_mk, z_bJ_mk, z_bV_mk]
  try simp only [mi, b2i_eq0]
  have hf := lp_find (fun i => z_ev (zcd_X12_isOnPage zLa) 1 [zA 12 84, zI t, zI y, zI v, zI i] [] M) (fun i => V 20 i = t ∧ V 21 i = y ∧ V 22 i = v) (n := V 19 0) (by omega) (A := fun i => some (.inl ([zI 1], M))) (B := some (.inl ([zI 0], M))) (fun i a b hq => by
      have mi := hE.2.2.2.2 i a b
      rw [zb_X12_isOnPage_1]
      try simp only [hR, hΛ, hE.1, z_bI_mk, z_bJ_mk, z_bV_mk]
      try simp only [mi, b2i_eq0]
      repeat' split
      all_goals first | rfl | (exfalso; omega)) (fun i a b hq => by
      have mi := hE.2.2.2.2 i a b
      rw [zb_X12_isOnPage_1]
      try simp only [hR, hΛ, hE.1, z_w32_id (n := i + 1) (by omega) (by omega), z_bI_mk, z_bJ_mk, z_bV_mk]
      try simp only [mi, b2i_eq0]
      repeat' split
      all_goals first | rfl | (exfalso; omega)) (by
      rw [zb_X12_isOnPage_1]
      try simp only [hR, hΛ, hE.1, z_bI_mk, z_bJ_mk, z_bV_mk]
      try simp only [mi, b2i_eq0]
      rw [if_neg (by omega)])
  have hs := fst_spec (fun i => V 20 i = t ∧ V 21 i = y ∧ V 22 i = v) (n := V 19 0) (by omega)
  rcases hs with ⟨a, b⟩ | ⟨a, b, d, -⟩
  · rw [hf.1 a, b2i_neg (fun ⟨i, q1, q2, q3⟩ => b i q1 q2 q3)]
  · rw [hf.2 (by omega), b2i_pos ⟨_, a, b, d⟩]

theorem sSto_rng (hv : vOk V) (t y : Int) : sSto V t y = -1 ∨ 0 ≤ sSto V t y ∧ sSto V t y < 9 := by
  obtain ⟨hN, hT, hS, hl, hm, hp⟩ := hv
  unfold sSto sVal
  rcases lst_spec (fun i => sHt V i t ∧ V 17 i = y) (n := V 13 0) (by omega) with ⟨a, -⟩ | ⟨a, b, d, -⟩
  · rw [cite_pos a]; left; rfl
  · have hz := hl _ a b
    have ht := hT (V 17 (lst (fun i => sHt V i t ∧ V 17 i = y) (V 13 0))) (by omega) (by omega)
    rw [cite_neg (by omega)]
    right
    have := hz.2.2.2.2.2.2.2.2.2 d.1.2.2.2.1
    omega
theorem e_X12_clashes (h : mOk M V) (a b : Int) : zm_X12_clashes zLa [zA 12 84, zI a, zI b] M = some ([zI (sCl V a b)], M) := by
  have hst := e_X12_storyOf h
  have hrg0 := sSto_rng h.2.2
  obtain ⟨hR, hE, hN, hT, hS, hl, hm, hp⟩ := h
  have hΛ := zLo_ok
  rw [zr_X12_clashes]
  refine z_out_some ?_
  rw [zb_X12_clashes_0]
  obtain ⟨s', e, hI⟩ := lp_up (fun i (s : Int × zV × zV) => z_ev (zcd_X12_clashes zLa) 1 [zA 12 84, zI a, zI b, zI s.1, zI i, s.2.1, s.2.2] [] M) (fun i s => (s.1 + b2i (sSto V a i ≠ -1 ∧ sSto V b i ≠ -1 ∧ sSto V a i ≠ sSto V b i), zI (sSto V a i), zI (sSto V b i))) (fun i s => s.1 = cnt (fun y => sSto V a y ≠ -1 ∧ sSto V b y ≠ -1 ∧ sSto V a y ≠ sSto V b y) i) (n := V 1 0) (fun i s hi0 hi1 hI => by
    refine ⟨?_, by show _ + _ = _; rw [hI, cnt_s _ hi0]⟩
    have hrg := cnt_rng (fun y => sSto V a y ≠ -1 ∧ sSto V b y ≠ -1 ∧ sSto V a y ≠ sSto V b y) hi0
    have r1 := hrg0 a i
    have r2 := hrg0 b i
    rw [zb_X12_clashes_1]
    simp only [hR, hΛ, hE.1, hst, z_bI_mk, z_w32_id (n := i + 1) (by omega) (by omega), z_add_id (a := s.1) (b := 0) (by omega) (by omega), z_add_id (a := s.1) (b := 1) (by omega) (by omega), Int.add_zero]
    rw [if_pos hi1]
    repeat' split
    all_goals first | (rw [b2i_neg (by omega), Int.add_zero]; done) | (rw [b2i_pos (by omega)]; done)) (V 1 0).toNat 0 (0, zU, zU) (by omega) (by omega) rfl
  try dsimp only at e
  rw [e, zb_X12_clashes_1]
  simp only [hR, hΛ, hE.1]
  rw [if_neg (by omega), hI]
  rfl

abbrev sTp (V : zM) (k : Int) : Prop := V 12 (V 15 k) ≠ -1 ∧ V 12 (V 15 k) ≤ V 16 k

theorem e_X12_isTaped (h : mOk M V) {k : Int} (h0 : 0 ≤ k) (h1 : k < V 13 0) : zm_X12_isTaped zLa [zA 12 84, zI k] M = some ([zI (b2i (sTp V k))], M) := by
  obtain ⟨hR, hE, hN, hT, hS, hl, hm, hp⟩ := h
  have hΛ := zLo_ok
  have mk := hE.2.2.2.1 k h0 h1
  have hk := hl k h0 h1
  have ms := hE.2.2.1 (V 15 k) (by omega) (by omega)
  have hsk := hS (V 15 k) (by omega) (by omega)
  rw [zr_X12_isTaped]
  refine z_out_some ?_
  rw [zb_X12_isTaped_0]
  try simp only [hR, hΛ, hE.1, z_bI_mk, z_bJ_mk, z_bV_mk]
  try simp only [mk, ms, b2i_eq0]
  repeat' split
  all_goals first | (rw [b2i_pos (by omega)]; done) | (rw [b2i_neg (by omega)]; done) | rfl | (exfalso; omega)

theorem e_X12_wasAsked (h : mOk M V) {k : Int} (h0 : 0 ≤ k) (h1 : k < V 13 0) (h2 : V 16 k ≤ V 0 9) : zm_X12_wasAsked zLa [zA 12 84, zI k] M = some ([zI (b2i (∃ i, 0 ≤ i ∧ i < k ∧ V 14 i = 0 ∧ sSt V i k ∧ sTp V i))], M) := by
  have hh := e_X12_asks h
  have ht := fun (i : Int) (a : 0 ≤ i) (b : i < k) => e_X12_isTaped h (k := i) a (by omega)
  obtain ⟨hR, hE, hN, hT, hS, hl, hm, hp⟩ := h
  have hΛ := zLo_ok
  have mk := hE.2.2.2.1 k h0 h1
  rw [zr_X12_wasAsked]
  refine z_out_some ?_
  rw [zb_X12_wasAsked_0]
  have hf := lp_find (fun i => z_ev (zcd_X12_wasAsked zLa) 1 [zA 12 84, zI k, zI i] [] M) (fun i => sAsk V i (V 15 k) ∧ V 17 i = V 17 k ∧ sTp V i) (n := k) (by omega) (A := fun _ => some (.inl ([zI 1], M))) (B := some (.inl ([zI 0], M))) (fun i a b hq => by
      have mi := hE.2.2.2.1 i a (by omega)
      rw [zb_X12_wasAsked_1]
      simp only [hR, hΛ, hE.1, hh, ht i a b, z_bI_mk]
      simp only [mk, mi, b2i_eq0]
      repeat' split
      all_goals first | rfl | (exfalso; omega)) (fun i a b hq => by
      have mi := hE.2.2.2.1 i a (by omega)
      rw [zb_X12_wasAsked_1]
      simp only [hR, hΛ, hE.1, hh, ht i a b, z_bI_mk, z_w32_id (n := i + 1) (by omega) (by omega)]
      simp only [mk, mi, b2i_eq0]
      repeat' split
      all_goals first | rfl | (exfalso; omega)) (by
      rw [zb_X12_wasAsked_1]
      simp only [hR, hΛ, hE.1]
      rw [if_neg (by omega)])
  have hs := fst_spec (fun i => sAsk V i (V 15 k) ∧ V 17 i = V 17 k ∧ sTp V i) (n := k) (by omega)
  rcases hs with ⟨a, b⟩ | ⟨a, b, d, -⟩
  · rw [hf.1 a, b2i_neg (fun ⟨i, q1, q2, q3, q4, q5⟩ => b i q1 q2 ⟨⟨q1, by omega, v_ahead hm q1 q2 h1 h2 q4.1, q3, q4.1⟩, q4.2, q5⟩)]
  · rw [hf.2 (by omega), b2i_pos ⟨_, a, b, d.1.2.2.2.1, ⟨d.1.2.2.2.2, d.2.1⟩, d.2.2⟩]

theorem e_X12_isFirstLine (h : mOk M V) {g : Int} (g0 : 0 ≤ g) (g1 : g < V 19 0) : zm_X12_isFirstLine zLa [zA 12 84, zI g] M = some ([zI (b2i (∀ i, 0 ≤ i → i < g → ¬ (V 20 i = V 20 g ∧ V 21 i = V 21 g)))], M) := by
  obtain ⟨hR, hE, hN, hT, hS, hl, hm, hp⟩ := h
  have hΛ := zLo_ok
  have mg := hE.2.2.2.2 g g0 g1
  have mi := hΛ
  rw [zr_X12_isFirstLine]
  refine z_out_some ?_
  rw [zb_X12_isFirstLine_0]
  try simp only [hR, hΛ, hE.1, z_bI_mk, z_bJ_mk, z_bV_mk]
  try simp only [mg, mi, b2i_eq0]
  have hf := lp_find (fun i => z_ev (zcd_X12_isFirstLine zLa) 1 [zA 12 84, zI g, zI i] [] M) (fun i => V 20 i = V 20 g ∧ V 21 i = V 21 g) (n := g) (by omega) (A := fun i => some (.inl ([zI 0], M))) (B := some (.inl ([zI 1], M))) (fun i a b hq => by
      have mi := hE.2.2.2.2 i a (by omega)
      rw [zb_X12_isFirstLine_1]
      try simp only [hR, hΛ, hE.1, z_bI_mk, z_bJ_mk, z_bV_mk]
      try simp only [mg, mi, b2i_eq0]
      repeat' split
      all_goals first | rfl | (exfalso; omega)) (fun i a b hq => by
      have mi := hE.2.2.2.2 i a (by omega)
      rw [zb_X12_isFirstLine_1]
      try simp only [hR, hΛ, hE.1, z_w32_id (n := i + 1) (by omega) (by omega), z_bI_mk, z_bJ_mk, z_bV_mk]
      try simp only [mg, mi, b2i_eq0]
      repeat' split
      all_goals first | rfl | (exfalso; omega)) (by
      rw [zb_X12_isFirstLine_1]
      try simp only [hR, hΛ, hE.1, z_bI_mk, z_bJ_mk, z_bV_mk]
      try simp only [mg, mi, b2i_eq0]
      rw [if_neg (by omega)])
  have hs := fst_spec (fun i => V 20 i = V 20 g ∧ V 21 i = V 21 g) (n := g) (by omega)
  rcases hs with ⟨a, b⟩ | ⟨a, b, d, -⟩
  · rw [hf.1 a, b2i_pos b]
  · rw [hf.2 (by omega), b2i_neg (fun q => q _ a b d)]

noncomputable def sPut (V : zM) (k : Int) : Int := sVal V (lst (fun i => V 14 i = 0 ∧ sSt V i k ∧ V 18 i ≠ -1) k)

theorem e_X12_putAhead (h : mOk M V) {k : Int} (h0 : 0 ≤ k) (h1 : k < V 13 0) (h2 : V 16 k ≤ V 0 9) : zm_X12_putAhead zLa [zA 12 84, zI k] M = some ([zI (sPut V k)], M) := by
  have hh := e_X12_asks h
  obtain ⟨hR, hE, hN, hT, hS, hl, hm, hp⟩ := h
  have hΛ := zLo_ok
  have mk := hE.2.2.2.1 k h0 h1
  have hk := hl k h0 h1
  have mi := mk
  rw [zr_X12_putAhead]
  refine z_out_some ?_
  rw [zb_X12_putAhead_0]
  try simp only [hR, hΛ, hE.1, z_bI_mk, z_bJ_mk, z_bV_mk]
  try simp only [mk, mi, b2i_eq0]
  obtain ⟨s', e, hI⟩ := lp_up (fun i (a : Int) => z_ev (zcd_X12_putAhead zLa) 1 [zA 12 84, zI k, zI a, zI i] [] M) (fun i a => cite (sAsk V i (V 15 k) ∧ V 17 i = V 17 k ∧ 0 ≤ V 18 i) (V 18 i) a) (fun i a => a = sVal V (lst (fun i => sAsk V i (V 15 k) ∧ V 17 i = V 17 k ∧ 0 ≤ V 18 i) i)) (n := k) (fun i a hi0 hi1 hI => by
    have hls := lst_s (fun i => sAsk V i (V 15 k) ∧ V 17 i = V 17 k ∧ 0 ≤ V 18 i) hi0
    have mi := hE.2.2.2.1 i hi0 (by omega)
    refine ⟨?_, ?_⟩
    · rw [zb_X12_putAhead_1]
      try simp only [hR, hΛ, hE.1, hh, z_w32_id (n := i + 1) (by omega) (by omega), z_bI_mk, z_bJ_mk, z_bV_mk]
      try simp only [mk, mi, b2i_eq0]
      repeat' split
      all_goals first | (rw [cite_pos (by omega)]; done) | (rw [cite_neg (by omega)]; done) | (exfalso; omega)
    · rcases Classical.em (sAsk V i (V 15 k) ∧ V 17 i = V 17 k ∧ 0 ≤ V 18 i) with q | q
      · rw [cite_pos q]
        rw [hls.1 q, sVal, cite_neg (by omega)]
      · rw [cite_neg q, hI]
        rw [hls.2 q]) (k).toNat 0 (-1) (by omega) (by omega) (by rw [lst_0, sVal, cite_pos rfl])
  try dsimp only at e
  rw [e, zb_X12_putAhead_1]
  try simp only [hR, hΛ, hE.1, z_bI_mk, z_bJ_mk, z_bV_mk]
  try simp only [mk, mi, b2i_eq0]
  rw [if_neg (by omega), hI]
  unfold sPut
  rw [show lst (fun i => V 14 i = 0 ∧ sSt V i k ∧ V 18 i ≠ -1) k = lst (fun i => sAsk V i (V 15 k) ∧ V 17 i = V 17 k ∧ 0 ≤ V 18 i) k from lst_congr (fun i a b => ⟨fun q => ⟨⟨a, by omega, v_ahead hm a b h1 h2 q.2.1.1, q.1, q.2.1.1⟩, q.2.1.2, by have := hl i a (by omega); omega⟩, fun q => ⟨q.1.2.2.2.1, ⟨q.1.2.2.2.2, q.2.1⟩, by omega⟩⟩)]

end
