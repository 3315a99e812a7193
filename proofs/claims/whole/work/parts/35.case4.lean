/-! ===== the class: pages, left out, clashes, supposed ===== -/
section
variable {M V : zM} {c : Int}
abbrev sTel (V : zM) (t y v : Int) : Prop := ∃ i, 0 ≤ i ∧ i < V 19 0 ∧ V 20 i = t ∧ V 21 i = y ∧ V 22 i = v

theorem e_X6_tells (h : cOk M c V) (t y v : Int) : zm_X6_tells zLa [zA 6 (c + 19), zI t, zI y, zI v] M = some ([zI (b2i (sTel V t y v))], M) := by
  obtain ⟨hc, hL, hV, hN, hT, hS, hl, hm, hp⟩ := h
  have hΛ := zLc_of hc
  rw [zr_X6_tells]
  refine z_out_some ?_
  rw [zb_X6_tells_0]
  try simp only [hL, hΛ, z_bI_mk, z_bJ_mk, z_bV_mk]
  try simp only [hV, b2i_eq0]
  have hf := lp_find (fun i => z_ev (zcd_X6_tells zLa) 1 [zA 6 (c + 19), zI t, zI y, zI v, zI i] [] M) (fun i => V 20 i = t ∧ V 21 i = y ∧ V 22 i = v) (n := V 19 0) (by omega) (A := fun i => some (.inl ([zI 1], M))) (B := some (.inl ([zI 0], M))) (fun i a b hq => by
      rw [zb_X6_tells_1]
      try simp only [hL, hΛ, z_bI_mk, z_bJ_mk, z_bV_mk]
      try simp only [hV, b2i_eq0]
      repeat' split
      all_goals first | rfl | (exfalso; omega)) (fun i a b hq => by
      rw [zb_X6_tells_1]
      try simp only [hL, hΛ, z_w32_id (n := i + 1) (by omega) (by omega), z_bI_mk, z_bJ_mk, z_bV_mk]
      try simp only [hV, b2i_eq0]
      repeat' split
      all_goals first | rfl | (exfalso; omega)) (by
      rw [zb_X6_tells_1]
      try simp only [hL, hΛ, z_bI_mk, z_bJ_mk, z_bV_mk]
      try simp only [hV, b2i_eq0]
      rw [if_neg (by omega)])
  have hs := fst_spec (fun i => V 20 i = t ∧ V 21 i = y ∧ V 22 i = v) (n := V 19 0) (by omega)
  rcases hs with ⟨a, b⟩ | ⟨a, b, d, -⟩
  · rw [hf.1 a, b2i_neg (fun ⟨i, q1, q2, q3⟩ => b i q1 q2 q3)]
  · rw [hf.2 (by omega), b2i_pos ⟨_, a, b, d⟩]

abbrev sPf (V : zM) (g t : Int) : Prop := V 20 g = t ∧ ∀ i, 0 ≤ i → i < g → ¬ (V 20 i = t ∧ V 21 i = V 21 g)

theorem e_X6_isFirstOf (h : cOk M c V) {g : Int} (g0 : 0 ≤ g) (g1 : g < V 19 0) (t : Int) : zm_X6_isFirstOf zLa [zA 6 (c + 19), zI g, zI t] M = some ([zI (b2i (sPf V g t))], M) := by
  obtain ⟨hc, hL, hV, hN, hT, hS, hl, hm, hp⟩ := h
  have hΛ := zLc_of hc
  rw [zr_X6_isFirstOf]
  refine z_out_some ?_
  rw [zb_X6_isFirstOf_0]
  try simp only [hL, hΛ, z_bI_mk, z_bJ_mk, z_bV_mk]
  try simp only [hV, b2i_eq0]
  rw [if_pos (by omega)]
  by_cases ht : V 20 g = t
  case neg => rw [if_neg ht, b2i_neg (fun q => ht q.1)]
  rw [if_pos ht]
  have hf := lp_find (fun i => z_ev (zcd_X6_isFirstOf zLa) 1 [zA 6 (c + 19), zI g, zI t, zI i] [] M) (fun i => V 20 i = t ∧ V 21 i = V 21 g) (n := g) (by omega) (A := fun i => some (.inl ([zI 0], M))) (B := some (.inl ([zI 1], M))) (fun i a b hq => by
      rw [zb_X6_isFirstOf_1]
      try simp only [hL, hΛ, z_bI_mk, z_bJ_mk, z_bV_mk]
      try simp only [hV, b2i_eq0]
      repeat' split
      all_goals first | rfl | (exfalso; omega)) (fun i a b hq => by
      rw [zb_X6_isFirstOf_1]
      try simp only [hL, hΛ, z_w32_id (n := i + 1) (by omega) (by omega), z_bI_mk, z_bJ_mk, z_bV_mk]
      try simp only [hV, b2i_eq0]
      repeat' split
      all_goals first | rfl | (exfalso; omega)) (by
      rw [zb_X6_isFirstOf_1]
      try simp only [hL, hΛ, z_bI_mk, z_bJ_mk, z_bV_mk]
      try simp only [hV, b2i_eq0]
      rw [if_neg (by omega)])
  have hs := fst_spec (fun i => V 20 i = t ∧ V 21 i = V 21 g) (n := g) (by omega)
  rcases hs with ⟨a, b⟩ | ⟨a, b, d, -⟩
  · rw [hf.1 a, b2i_pos ⟨ht, b⟩]
  · rw [hf.2 (by omega), b2i_neg (fun q => q.2 _ a b d)]

theorem e_X6_linesOf (h : cOk M c V) (t : Int) : zm_X6_linesOf zLa [zA 6 (c + 19), zI t] M = some ([zI (cnt (fun i => V 20 i = t) (V 19 0))], M) := by
  obtain ⟨hc, hL, hV, hN, hT, hS, hl, hm, hp⟩ := h
  have hΛ := zLc_of hc
  rw [zr_X6_linesOf]
  refine z_out_some ?_
  rw [zb_X6_linesOf_0]
  try simp only [hL, hΛ, z_bI_mk, z_bJ_mk, z_bV_mk]
  try simp only [hV, b2i_eq0]
  obtain ⟨s', e, hI⟩ := lp_up (fun i (a : Int) => z_ev (zcd_X6_linesOf zLa) 1 [zA 6 (c + 19), zI t, zI a, zI i] [] M) (fun i a => a + b2i (V 20 i = t)) (fun i a => a = cnt (fun i => V 20 i = t) i) (n := V 19 0) (fun i a hi0 hi1 hI => by
    refine ⟨?_, by rw [hI, cnt_s _ hi0]⟩
    have hr := cnt_rng (fun i => V 20 i = t) hi0
    try dsimp only
    rw [zb_X6_linesOf_1]
    try simp only [hL, hΛ, z_w32_id (n := i + 1) (by omega) (by omega), z_w32_id (n := a + 1) (by omega) (by omega), z_bI_mk, z_bJ_mk, z_bV_mk]
    try simp only [hV, b2i_eq0]
    repeat' split
    all_goals first | (rw [b2i_neg (by omega), Int.add_zero]; done) | (rw [b2i_pos (by omega)]; done) | (exfalso; omega)) (V 19 0).toNat 0 0 (by omega) (by omega) rfl
  try dsimp only at e
  rw [e, zb_X6_linesOf_1]
  try simp only [hL, hΛ, z_bI_mk, z_bJ_mk, z_bV_mk]
  try simp only [hV, b2i_eq0]
  rw [if_neg (by omega), hI]

noncomputable def sLh (V : zM) (t : Int) : Int := cite (lst (fun i => V 15 i = t) (V 13 0) = -1) 0 (V 16 (lst (fun i => V 15 i = t) (V 13 0)))

theorem e_X3_latestHour (h : cOk M c V) (t : Int) : zm_X3_latestHour zLa [zA 3 (c + 13), zI t] M = some ([zI (sLh V t)], M) := by
  obtain ⟨hc, hL, hV, hN, hT, hS, hl, hm, hp⟩ := h
  have hΛ := zLc_of hc
  rw [zr_X3_latestHour]
  refine z_out_some ?_
  rw [zb_X3_latestHour_0]
  try simp only [hL, hΛ, z_bI_mk, z_bJ_mk, z_bV_mk]
  try simp only [hV, z_sub_id (a := V 13 0) (b := 1) (by omega) (by omega), b2i_eq0]
  have hf := lp_down (fun i => z_ev (zcd_X3_latestHour zLa) 1 [zA 3 (c + 13), zI t, zI i] [] M) (fun i => V 15 i = t) (n := V 13 0) (by omega) (A := fun i => some (.inl ([zI (V 16 i)], M))) (B := some (.inl ([zI 0], M))) (fun i a b hq => by
      rw [zb_X3_latestHour_1]
      try simp only [hL, hΛ, z_bI_mk, z_bJ_mk, z_bV_mk]
      try simp only [hV, z_sub_id (a := V 13 0) (b := 1) (by omega) (by omega), b2i_eq0]
      repeat' split
      all_goals first | rfl | (exfalso; omega)) (fun i a b hq => by
      rw [zb_X3_latestHour_1]
      try simp only [hL, hΛ, z_w32_id (n := i + -1) (by omega) (by omega), z_bI_mk, z_bJ_mk, z_bV_mk]
      try simp only [hV, z_sub_id (a := V 13 0) (b := 1) (by omega) (by omega), b2i_eq0]
      repeat' split
      all_goals first | rfl | (exfalso; omega)) (by
      rw [zb_X3_latestHour_1]
      try simp only [hL, hΛ, z_bI_mk, z_bJ_mk, z_bV_mk]
      try simp only [hV, z_sub_id (a := V 13 0) (b := 1) (by omega) (by omega), b2i_eq0]
      rw [if_pos (by omega)])
  have hs := lst_spec (fun i => V 15 i = t) (n := V 13 0) (by omega)
  rcases hs with ⟨a, b⟩ | ⟨a, b, d, -⟩
  · rw [hf.1 a, sLh, cite_pos a]
  · rw [hf.2 (by omega), sLh, cite_neg (by omega)]

noncomputable def sSto (V : zM) (t y : Int) : Int := sVal V (lst (fun i => sHt V i t ∧ V 17 i = y) (V 13 0))
noncomputable def sFs (V : zM) (g : Int) : Int := fst (fun i => sHt V i (V 20 g) ∧ V 17 i = V 21 g ∧ V 18 i = V 22 g) (V 13 0)
noncomputable def sPg (V : zM) (g : Int) : Int := cite (sSto V (V 20 g) (V 21 g) = -1) 3 (cite (sSto V (V 20 g) (V 21 g) = V 22 g) 0 (cite (sFs V g = -1) 2 1))

theorem e_sto (h : cOk M c V) (t y : Int) : zm_X0_storyValue zLa [zA 0 c, zI t, zI y] M = some ([zI (sSto V t y)], M) := e_X0_storyValue h t y
theorem e_fs (h : cOk M c V) {g : Int} (g0 : 0 ≤ g) (g1 : g < V 19 0) : zm_X0_firstSaid zLa [zA 0 c, zI g] M = some ([zI (sFs V g)], M) := e_X0_firstSaid h g0 g1

theorem e_X0_pageState (h : cOk M c V) {g : Int} (g0 : 0 ≤ g) (g1 : g < V 19 0) : zm_X0_pageState zLa [zA 0 c, zI g] M = some ([zI (sPg V g)], M) := by
  have hst := e_sto h
  have hfs := e_fs h g0 g1
  obtain ⟨hc, hL, hV, hN, hT, hS, hl, hm, hp⟩ := h
  have hΛ := zLc_of hc
  rw [zr_X0_pageState]
  refine z_out_some ?_
  rw [zb_X0_pageState_0]
  simp only [hL, hΛ, hst, hfs, z_bI_mk]
  simp only [hV]
  rw [if_pos (by omega), if_pos (by omega)]
  unfold sPg
  by_cases q1 : sSto V (V 20 g) (V 21 g) = -1
  · rw [if_pos q1, cite_pos q1]
  rw [if_neg q1, if_pos (by omega), cite_neg q1]
  by_cases q2 : sSto V (V 20 g) (V 21 g) = V 22 g
  · rw [if_pos q2, cite_pos q2]
  rw [if_neg q2, cite_neg q2]
  by_cases q3 : sFs V g = -1
  · rw [if_pos q3, cite_pos q3]
  · rw [if_neg q3, cite_neg q3]

theorem e_X0_leftOut (h : cOk M c V) (t : Int) : zm_X0_leftOut zLa [zA 0 c, zI t] M = some ([zI (cnt (fun i => sHt V i t ∧ ¬ sRi V i ∧ ¬ sTel V t (V 17 i) (V 18 i)) (V 13 0))], M) := by
  have hh := e_X0_isHeardWordOf h
  have ht := e_X6_tells h
  have hr := fun (i : Int) (a : 0 ≤ i) (b : i < V 13 0) => e_X0_isRight h (k := i) a b
  obtain ⟨hc, hL, hV, hN, hT, hS, hl, hm, hp⟩ := h
  have hΛ := zLc_of hc
  rw [zr_X0_leftOut]
  refine z_out_some ?_
  rw [zb_X0_leftOut_0]
  obtain ⟨s', e, hI⟩ := lp_up (fun i (a : Int) => z_ev (zcd_X0_leftOut zLa) 1 [zA 0 c, zI t, zI a, zI i] [] M) (fun i a => a + b2i (sHt V i t ∧ ¬ sRi V i ∧ ¬ sTel V t (V 17 i) (V 18 i))) (fun i a => a = cnt (fun i => sHt V i t ∧ ¬ sRi V i ∧ ¬ sTel V t (V 17 i) (V 18 i)) i) (n := V 13 0) (fun i a hi0 hi1 hI => by
    refine ⟨?_, by rw [hI, cnt_s _ hi0]⟩
    have hrg := cnt_rng (fun i => sHt V i t ∧ ¬ sRi V i ∧ ¬ sTel V t (V 17 i) (V 18 i)) hi0
    rw [zb_X0_leftOut_1]
    simp only [hL, hΛ, hh, ht, hr i hi0 hi1, z_bI_mk, z_w32_id (n := i + 1) (by omega) (by omega), z_w32_id (n := a + 1) (by omega) (by omega)]
    simp only [hV]
    rw [if_pos hi1]
    rcases Classical.em (sHt V i t) with q1 | q1
    · rw [b2i_pos q1, if_neg (by decide)]
      rcases Classical.em (sRi V i) with q2 | q2
      · rw [b2i_pos q2, if_neg (by decide), b2i_neg (fun r => r.2.1 q2), Int.add_zero]
      · rw [b2i_neg q2, if_pos rfl, if_pos (by omega), if_pos (by omega)]
        rcases Classical.em (sTel V t (V 17 i) (V 18 i)) with q3 | q3
        · rw [b2i_pos q3, if_neg (by decide), b2i_neg (fun r => r.2.2 q3), Int.add_zero]
        · rw [b2i_neg q3, if_pos rfl, b2i_pos ⟨q1, q2, q3⟩]
    · rw [b2i_neg q1, if_pos rfl, b2i_neg (fun r => q1 r.1), Int.add_zero]) (V 13 0).toNat 0 0 (by omega) (by omega) rfl
  try dsimp only at e
  rw [e, zb_X0_leftOut_1]
  simp only [hL, hΛ]
  simp only [hV]
  rw [if_neg (by omega), hI]

noncomputable def sCl (V : zM) (a b : Int) : Int := cnt (fun y => sSto V a y ≠ -1 ∧ sSto V b y ≠ -1 ∧ sSto V a y ≠ sSto V b y) (V 1 0)
theorem e_X0_clashes (h : cOk M c V) (a b : Int) : zm_X0_clashes zLa [zA 0 c, zI a, zI b] M = some ([zI (sCl V a b)], M) := by
  have hst := e_sto h
  obtain ⟨hc, hL, hV, hN, hT, hS, hl, hm, hp⟩ := h
  have hΛ := zLc_of hc
  rw [zr_X0_clashes]
  refine z_out_some ?_
  rw [zb_X0_clashes_0]
  obtain ⟨s', e, hI⟩ := lp_up (fun i (s : Int × zV × zV) => z_ev (zcd_X0_clashes zLa) 1 [zA 0 c, zI a, zI b, zI s.1, zI i, s.2.1, s.2.2] [] M) (fun i s => (s.1 + b2i (sSto V a i ≠ -1 ∧ sSto V b i ≠ -1 ∧ sSto V a i ≠ sSto V b i), zI (sSto V a i), zI (sSto V b i))) (fun i s => s.1 = cnt (fun y => sSto V a y ≠ -1 ∧ sSto V b y ≠ -1 ∧ sSto V a y ≠ sSto V b y) i) (n := V 1 0) (fun i s hi0 hi1 hI => by
    refine ⟨?_, by show _ + _ = _; rw [hI, cnt_s _ hi0]⟩
    have hrg := cnt_rng (fun y => sSto V a y ≠ -1 ∧ sSto V b y ≠ -1 ∧ sSto V a y ≠ sSto V b y) hi0
    rw [zb_X0_clashes_1]
    simp only [hL, hΛ, hst, z_bI_mk, z_w32_id (n := i + 1) (by omega) (by omega), z_w32_id (n := s.1 + 1) (by omega) (by omega)]
    simp only [hV]
    rw [if_pos hi1]
    repeat' split
    all_goals first | (rw [b2i_neg (by omega), Int.add_zero]; done) | (rw [b2i_pos (by omega)]; done)) (V 1 0).toNat 0 (0, zU, zU) (by omega) (by omega) rfl
  try dsimp only at e
  rw [e, zb_X0_clashes_1]
  simp only [hL, hΛ]
  simp only [hV]
  rw [if_neg (by omega), hI]
  rfl

abbrev sSup (V : zM) (k : Int) : Prop := V 10 (V 15 k) < V 12 (V 15 k) ∧ V 12 (V 15 k) ≤ V 16 k ∧ sRi V k ∧ sHad (V 6 (V 17 k)) (V 12 (V 15 k)) ∧ ∀ i, 0 ≤ i → i < k → ¬ (V 14 i = 0 ∧ sSt V i k ∧ V 12 (V 15 k) ≤ V 16 i)
theorem e_X0_supposesMore (h : cOk M c V) {k : Int} (h0 : 0 ≤ k) (h1 : k < V 13 0) : zm_X0_supposesMore zLa [zA 0 c, zI k] M = some ([zI (b2i (sSup V k))], M) := by
  have er := e_X0_isRight h h0 h1
  have hst := fun (i : Int) (a : 0 ≤ i) (b : i < k) => e_X3_isSameTalk h (i := i) (j := k) a (by omega) h0 h1
  obtain ⟨hc, hL, hV, hN, hT, hS, hl, hm, hp⟩ := h
  have hΛ := zLc_of hc
  have hk := hl k h0 h1
  rw [zr_X0_supposesMore]
  refine z_out_some ?_
  rw [zb_X0_supposesMore_0]
  simp only [hL, hΛ, er, e_X11_hadBy, z_bI_mk]
  simp only [hV]
  rw [if_pos (by omega), if_pos (by omega), if_pos (by omega), if_pos (by omega)]
  have hf := lp_find (fun i => z_ev (zcd_X0_supposesMore zLa) 1 [zA 0 c, zI k, zI (V 12 (V 15 k)), zI i] [] M) (fun i => V 14 i = 0 ∧ sSt V i k ∧ V 12 (V 15 k) ≤ V 16 i) (n := k) (by omega) (A := fun _ => some (.inl ([zI 0], M))) (B := some (.inl ([zI 1], M))) (fun i a b hq => by
      rw [zb_X0_supposesMore_1]
      simp only [hL, hΛ, hst i a b, z_bI_mk]
      simp only [hV, b2i_eq0]
      repeat' split
      all_goals first | rfl | (exfalso; omega)) (fun i a b hq => by
      rw [zb_X0_supposesMore_1]
      simp only [hL, hΛ, hst i a b, z_bI_mk, z_w32_id (n := i + 1) (by omega) (by omega)]
      simp only [hV, b2i_eq0]
      repeat' split
      all_goals first | rfl | (exfalso; omega)) (by
      rw [zb_X0_supposesMore_1]
      simp only [hL, hΛ]
      simp only [hV]
      rw [if_neg (by omega)])
  have hs := fst_spec (fun i => V 14 i = 0 ∧ sSt V i k ∧ V 12 (V 15 k) ≤ V 16 i) (n := k) (by omega)
  by_cases q1 : V 12 (V 15 k) ≤ V 10 (V 15 k)
  · rw [if_pos q1, b2i_neg (fun r => by have := r.1; omega)]
  rw [if_neg q1, if_pos (by omega)]
  by_cases q2 : V 16 k < V 12 (V 15 k)
  · rw [if_pos q2, b2i_neg (fun r => by have := r.2.1; omega)]
  rw [if_neg q2]
  rcases Classical.em (sRi V k) with q3 | q3
  case inr => rw [b2i_neg q3, if_pos rfl, b2i_neg (fun r => q3 r.2.2.1)]
  rw [b2i_pos q3, if_neg (by decide), if_pos (by omega), if_pos (by omega)]
  rcases Classical.em (sHad (V 6 (V 17 k)) (V 12 (V 15 k))) with q4 | q4
  case inr => rw [b2i_neg q4, if_pos rfl, b2i_neg (fun r => q4 r.2.2.2.1)]
  rw [b2i_pos q4, if_neg (by decide)]
  rcases hs with ⟨a, b⟩ | ⟨a, b, d, -⟩
  · rw [hf.1 a, b2i_pos ⟨by omega, by omega, q3, q4, b⟩]
  · rw [hf.2 (by omega), b2i_neg (fun r => r.2.2.2.2 _ a b d)]

end
