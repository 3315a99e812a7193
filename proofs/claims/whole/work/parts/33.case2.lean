/-! ===== the class: what Case, Lines, Tellers, Pages answer, by the view ===== -/
section
variable {M V : zM} {c : Int}
abbrev sHad (a b : Int) : Prop := a ≠ -1 ∧ a ≤ b
theorem e_X11_hadBy (a b : Int) (M : zM) : zm_X11_hadBy zLa [zI a, zI b] M = some ([zI (b2i (sHad a b))], M) := by
  rw [zr_X11_hadBy]
  refine z_out_some ?_
  rw [zb_X11_hadBy_0]
  repeat' split
  all_goals first | (rw [b2i_pos (by omega)]; done) | (rw [b2i_neg (by omega)]; done) | rfl | (exfalso; omega)

theorem e_X3_isSameTalk (h : cOk M c V) {i j : Int} (i0 : 0 ≤ i) (i1 : i < V 13 0) (j0 : 0 ≤ j) (j1 : j < V 13 0) : zm_X3_isSameTalk zLa [zA 3 (c + 13), zI i, zI j] M = some ([zI (b2i (sSt V i j))], M) := by
  obtain ⟨hc, hL, hV, hN, hT, hS, hl, hm, hp⟩ := h
  have hΛ := zLc_of hc
  rw [zr_X3_isSameTalk]
  refine z_out_some ?_
  rw [zb_X3_isSameTalk_0]
  try simp only [hL, hΛ, z_bI_mk, z_bJ_mk, z_bV_mk]
  try simp only [hV, b2i_eq0]
  repeat' split
  all_goals first | (rw [b2i_pos (by omega)]; done) | (rw [b2i_neg (by omega)]; done) | rfl | (exfalso; omega)

noncomputable abbrev sLo (V : zM) (t h : Int) : Int := cite (V 12 t = -1) h (z_min h (V 12 t - 1))

theorem e_X8_lastOff (h : cOk M c V) {t : Int} (t0 : 0 ≤ t) (t1 : t < V 7 0) (u : Int) : zm_X8_lastOff zLa [zA 8 (c + 7), zI t, zI u] M = some ([zI (sLo V t u)], M) := by
  obtain ⟨hc, hL, hV, hN, hT, hS, hl, hm, hp⟩ := h
  have hΛ := zLc_of hc
  have ht := hS t t0 t1
  have hsb : z_sub (V 12 t) 1 = V 12 t - 1 := z_sub_id (by omega) (by omega)
  rw [zr_X8_lastOff]
  refine z_out_some ?_
  rw [zb_X8_lastOff_0]
  try simp only [hL, hΛ, z_bI_mk, z_bJ_mk, z_bV_mk]
  try simp only [hV, hsb, b2i_eq0]
  repeat' split
  all_goals first | (rw [sLo, cite_pos (by omega)]; done) | (rw [sLo, cite_neg (by omega)]; done) | (exfalso; omega)

abbrev sNew (V : zM) (k : Int) : Prop := sRi V k ∧ ¬ sHad (V 6 (V 17 k)) (V 16 k) ∧ ¬ sHad (V 5 (V 17 k)) (V 16 k)

theorem e_X0_isNew (h : cOk M c V) {k : Int} (h0 : 0 ≤ k) (h1 : k < V 13 0) : zm_X0_isNew zLa [zA 0 c, zI k] M = some ([zI (b2i (sNew V k))], M) := by
  have er := e_X0_isRight h h0 h1
  obtain ⟨hc, hL, hV, hN, hT, hS, hl, hm, hp⟩ := h
  have hΛ := zLc_of hc
  have hk := hl k h0 h1
  rw [zr_X0_isNew]
  refine z_out_some ?_
  rw [zb_X0_isNew_0]
  try simp only [hL, hΛ, er, e_X11_hadBy, z_bI_mk, z_bJ_mk, z_bV_mk]
  try simp only [hV, b2i_eq0]
  repeat' split
  all_goals first | (rw [b2i_pos (by omega)]; done) | (rw [b2i_neg (by omega)]; done) | rfl | (exfalso; omega)

abbrev sOff (V : zM) (k : Int) : Prop := sRi V k ∧ V 10 (V 15 k) ≤ sLo V (V 15 k) (V 16 k) ∧ sHad (V 6 (V 17 k)) (sLo V (V 15 k) (V 16 k))

theorem e_X0_isOff (h : cOk M c V) {k : Int} (h0 : 0 ≤ k) (h1 : k < V 13 0) : zm_X0_isOff zLa [zA 0 c, zI k] M = some ([zI (b2i (sOff V k))], M) := by
  have er := e_X0_isRight h h0 h1
  have hk := h.2.2.2.2.2.2.1 k h0 h1
  have el := e_X8_lastOff h (t := M (c + 15) k) (by rw [cv_15 h.2.2.1]; omega) (by rw [cv_15 h.2.2.1]; omega) (M (c + 16) k)
  obtain ⟨hc, hL, hV, hN, hT, hS, hl, hm, hp⟩ := h
  have hΛ := zLc_of hc
  rw [zr_X0_isOff]
  refine z_out_some ?_
  rw [zb_X0_isOff_0]
  try simp only [hL, hΛ, er, e_X11_hadBy, el, z_bI_mk, z_bJ_mk, z_bV_mk]
  try simp only [hV, b2i_eq0]
  repeat' split
  all_goals first | (rw [b2i_pos (by omega)]; done) | (rw [b2i_neg (by omega)]; done) | rfl | (exfalso; omega)

theorem e_X0_isFirst (h : cOk M c V) {k : Int} (h0 : 0 ≤ k) (h1 : k < V 13 0) (s : Int) : zm_X0_isFirst zLa [zA 0 c, zI k, zI s] M = some ([zI (b2i (∀ i, 0 ≤ i → i < k → ¬ (V 14 i ≠ 0 ∧ sSt V i k ∧ s ≤ V 16 i)))], M) := by
  have hst := fun (i : Int) (a : 0 ≤ i) (b : i < k) => e_X3_isSameTalk h (i := i) (j := k) a (by omega) h0 h1
  obtain ⟨hc, hL, hV, hN, hT, hS, hl, hm, hp⟩ := h
  have hΛ := zLc_of hc
  rw [zr_X0_isFirst]
  refine z_out_some ?_
  rw [zb_X0_isFirst_0]
  try simp only [hL, hΛ, z_bI_mk, z_bJ_mk, z_bV_mk]
  try simp only [hV, b2i_eq0]
  have hf := lp_find (fun i => z_ev (zcd_X0_isFirst zLa) 1 [zA 0 c, zI k, zI s, zI i] [] M) (fun i => V 14 i ≠ 0 ∧ sSt V i k ∧ s ≤ V 16 i) (n := k) (by omega) (A := fun i => some (.inl ([zI 0], M))) (B := some (.inl ([zI 1], M))) (fun i a b hq => by
      rw [zb_X0_isFirst_1]
      try simp only [hL, hΛ, hst i a b, z_bI_mk, z_bJ_mk, z_bV_mk]
      try simp only [hV, b2i_eq0]
      repeat' split
      all_goals first | rfl | (exfalso; omega)) (fun i a b hq => by
      rw [zb_X0_isFirst_1]
      try simp only [hL, hΛ, hst i a b, z_w32_id (n := i + 1) (by omega) (by omega), z_bI_mk, z_bJ_mk, z_bV_mk]
      try simp only [hV, b2i_eq0]
      repeat' split
      all_goals first | rfl | (exfalso; omega)) (by
      rw [zb_X0_isFirst_1]
      try simp only [hL, hΛ, z_bI_mk, z_bJ_mk, z_bV_mk]
      try simp only [hV, b2i_eq0]
      rw [if_neg (by omega)])
  have hs := fst_spec (fun i => V 14 i ≠ 0 ∧ sSt V i k ∧ s ≤ V 16 i) (n := k) (by omega)
  rcases hs with ⟨a, b⟩ | ⟨a, b, d, -⟩
  · rw [hf.1 a, b2i_pos b]
  · rw [hf.2 (by omega), b2i_neg (fun q => q _ a b d)]

theorem e_X0_ledBy (h : cOk M c V) {k : Int} (h0 : 0 ≤ k) (h1 : k < V 13 0) : zm_X0_ledBy zLa [zA 0 c, zI k] M = some ([zI (lst (fun i => V 14 i = 0 ∧ sSt V i k ∧ V 18 i = V 18 k) k)], M) := by
  have hst := fun (i : Int) (a : 0 ≤ i) (b : i < k) => e_X3_isSameTalk h (i := i) (j := k) a (by omega) h0 h1
  obtain ⟨hc, hL, hV, hN, hT, hS, hl, hm, hp⟩ := h
  have hΛ := zLc_of hc
  rw [zr_X0_ledBy]
  refine z_out_some ?_
  rw [zb_X0_ledBy_0]
  try simp only [hL, hΛ, z_sub_id (a := k) (b := 1) (by omega) (by omega), z_bI_mk, z_bJ_mk, z_bV_mk]
  try simp only [hV, b2i_eq0]
  have hf := lp_down (fun i => z_ev (zcd_X0_ledBy zLa) 1 [zA 0 c, zI k, zI i] [] M) (fun i => V 14 i = 0 ∧ sSt V i k ∧ V 18 i = V 18 k) (n := k) (by omega) (A := fun i => some (.inl ([zI i], M))) (B := some (.inl ([zI (-1)], M))) (fun i a b hq => by
      rw [zb_X0_ledBy_1]
      try simp only [hL, hΛ, hst i a b, z_bI_mk, z_bJ_mk, z_bV_mk]
      try simp only [hV, b2i_eq0]
      repeat' split
      all_goals first | rfl | (exfalso; omega)) (fun i a b hq => by
      rw [zb_X0_ledBy_1]
      try simp only [hL, hΛ, hst i a b, z_w32_id (n := i + -1) (by omega) (by omega), z_bI_mk, z_bJ_mk, z_bV_mk]
      try simp only [hV, b2i_eq0]
      repeat' split
      all_goals first | rfl | (exfalso; omega)) (by
      rw [zb_X0_ledBy_1]
      try simp only [hL, hΛ, z_bI_mk, z_bJ_mk, z_bV_mk]
      try simp only [hV, b2i_eq0]
      rw [if_pos (by omega)])
  have hs := lst_spec (fun i => V 14 i = 0 ∧ sSt V i k ∧ V 18 i = V 18 k) (n := k) (by omega)
  rcases hs with ⟨a, b⟩ | ⟨a, b, d, -⟩
  · rw [hf.1 a, a]
  · rw [hf.2 (by omega)]

noncomputable abbrev sVal (V : zM) (j : Int) : Int := cite (j = -1) (-1) (V 18 j)

theorem e_X0_latestPut (h : cOk M c V) {k : Int} (h0 : 0 ≤ k) (h1 : k < V 13 0) : zm_X0_latestPut zLa [zA 0 c, zI k] M = some ([zI (sVal V (lst (fun i => V 14 i = 0 ∧ sSt V i k ∧ V 18 i ≠ -1) k))], M) := by
  have hst := fun (i : Int) (a : 0 ≤ i) (b : i < k) => e_X3_isSameTalk h (i := i) (j := k) a (by omega) h0 h1
  obtain ⟨hc, hL, hV, hN, hT, hS, hl, hm, hp⟩ := h
  have hΛ := zLc_of hc
  rw [zr_X0_latestPut]
  refine z_out_some ?_
  rw [zb_X0_latestPut_0]
  try simp only [hL, hΛ, z_sub_id (a := k) (b := 1) (by omega) (by omega), z_bI_mk, z_bJ_mk, z_bV_mk]
  try simp only [hV, b2i_eq0]
  have hf := lp_down (fun i => z_ev (zcd_X0_latestPut zLa) 1 [zA 0 c, zI k, zI i] [] M) (fun i => V 14 i = 0 ∧ sSt V i k ∧ V 18 i ≠ -1) (n := k) (by omega) (A := fun i => some (.inl ([zI (V 18 i)], M))) (B := some (.inl ([zI (-1)], M))) (fun i a b hq => by
      rw [zb_X0_latestPut_1]
      try simp only [hL, hΛ, hst i a b, z_bI_mk, z_bJ_mk, z_bV_mk]
      try simp only [hV, b2i_eq0]
      repeat' split
      all_goals first | rfl | (exfalso; omega)) (fun i a b hq => by
      rw [zb_X0_latestPut_1]
      try simp only [hL, hΛ, hst i a b, z_w32_id (n := i + -1) (by omega) (by omega), z_bI_mk, z_bJ_mk, z_bV_mk]
      try simp only [hV, b2i_eq0]
      repeat' split
      all_goals first | rfl | (exfalso; omega)) (by
      rw [zb_X0_latestPut_1]
      try simp only [hL, hΛ, z_bI_mk, z_bJ_mk, z_bV_mk]
      try simp only [hV, b2i_eq0]
      rw [if_pos (by omega)])
  have hs := lst_spec (fun i => V 14 i = 0 ∧ sSt V i k ∧ V 18 i ≠ -1) (n := k) (by omega)
  rcases hs with ⟨a, b⟩ | ⟨a, b, d, -⟩
  · rw [hf.1 a, sVal, cite_pos a]
  · rw [hf.2 (by omega), sVal, cite_neg (by omega)]

theorem e_X0_firstSaid (h : cOk M c V) {g : Int} (g0 : 0 ≤ g) (g1 : g < V 19 0) : zm_X0_firstSaid zLa [zA 0 c, zI g] M = some ([zI (fst (fun i => sHt V i (V 20 g) ∧ V 17 i = V 21 g ∧ V 18 i = V 22 g) (V 13 0))], M) := by
  have hh := e_X0_isHeardWordOf h
  obtain ⟨hc, hL, hV, hN, hT, hS, hl, hm, hp⟩ := h
  have hΛ := zLc_of hc
  rw [zr_X0_firstSaid]
  refine z_out_some ?_
  rw [zb_X0_firstSaid_0]
  try simp only [hL, hΛ, z_bI_mk, z_bJ_mk, z_bV_mk]
  try simp only [hV, b2i_eq0]
  have hf := lp_find (fun i => z_ev (zcd_X0_firstSaid zLa) 1 [zA 0 c, zI g, zI i] [] M) (fun i => sHt V i (V 20 g) ∧ V 17 i = V 21 g ∧ V 18 i = V 22 g) (n := V 13 0) (by omega) (A := fun i => some (.inl ([zI i], M))) (B := some (.inl ([zI (-1)], M))) (fun i a b hq => by
      rw [zb_X0_firstSaid_1]
      try simp only [hL, hΛ, hh, z_bI_mk, z_bJ_mk, z_bV_mk]
      try simp only [hV, b2i_eq0]
      repeat' split
      all_goals first | rfl | (exfalso; omega)) (fun i a b hq => by
      rw [zb_X0_firstSaid_1]
      try simp only [hL, hΛ, hh, z_w32_id (n := i + 1) (by omega) (by omega), z_bI_mk, z_bJ_mk, z_bV_mk]
      try simp only [hV, b2i_eq0]
      repeat' split
      all_goals first | rfl | (exfalso; omega)) (by
      rw [zb_X0_firstSaid_1]
      try simp only [hL, hΛ, z_bI_mk, z_bJ_mk, z_bV_mk]
      try simp only [hV, b2i_eq0]
      rw [if_neg (by omega)])
  have hs := fst_spec (fun i => sHt V i (V 20 g) ∧ V 17 i = V 21 g ∧ V 18 i = V 22 g) (n := V 13 0) (by omega)
  rcases hs with ⟨a, b⟩ | ⟨a, b, d, -⟩
  · rw [hf.1 a, a]
  · rw [hf.2 (by omega)]

theorem e_X0_storyValue (h : cOk M c V) (t x0 : Int) : zm_X0_storyValue zLa [zA 0 c, zI t, zI x0] M = some ([zI (sVal V (lst (fun i => sHt V i t ∧ V 17 i = x0) (V 13 0)))], M) := by
  have hh := e_X0_isHeardWordOf h
  obtain ⟨hc, hL, hV, hN, hT, hS, hl, hm, hp⟩ := h
  have hΛ := zLc_of hc
  rw [zr_X0_storyValue]
  refine z_out_some ?_
  rw [zb_X0_storyValue_0]
  try simp only [hL, hΛ, z_bI_mk, z_bJ_mk, z_bV_mk]
  try simp only [hV, z_sub_id (a := V 13 0) (b := 1) (by omega) (by omega), b2i_eq0]
  have hf := lp_down (fun i => z_ev (zcd_X0_storyValue zLa) 1 [zA 0 c, zI t, zI x0, zI i] [] M) (fun i => sHt V i t ∧ V 17 i = x0) (n := V 13 0) (by omega) (A := fun i => some (.inl ([zI (V 18 i)], M))) (B := some (.inl ([zI (-1)], M))) (fun i a b hq => by
      rw [zb_X0_storyValue_1]
      try simp only [hL, hΛ, hh, z_bI_mk, z_bJ_mk, z_bV_mk]
      try simp only [hV, z_sub_id (a := V 13 0) (b := 1) (by omega) (by omega), b2i_eq0]
      repeat' split
      all_goals first | rfl | (exfalso; omega)) (fun i a b hq => by
      rw [zb_X0_storyValue_1]
      try simp only [hL, hΛ, hh, z_w32_id (n := i + -1) (by omega) (by omega), z_bI_mk, z_bJ_mk, z_bV_mk]
      try simp only [hV, z_sub_id (a := V 13 0) (b := 1) (by omega) (by omega), b2i_eq0]
      repeat' split
      all_goals first | rfl | (exfalso; omega)) (by
      rw [zb_X0_storyValue_1]
      try simp only [hL, hΛ, z_bI_mk, z_bJ_mk, z_bV_mk]
      try simp only [hV, z_sub_id (a := V 13 0) (b := 1) (by omega) (by omega), b2i_eq0]
      rw [if_pos (by omega)])
  have hs := lst_spec (fun i => sHt V i t ∧ V 17 i = x0) (n := V 13 0) (by omega)
  rcases hs with ⟨a, b⟩ | ⟨a, b, d, -⟩
  · rw [hf.1 a, sVal, cite_pos a]
  · rw [hf.2 (by omega), sVal, cite_neg (by omega)]

end
