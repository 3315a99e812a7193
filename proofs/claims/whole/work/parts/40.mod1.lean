/-! ===== the reference: the same readings by the same view ===== -/
abbrev mEq (M V : zM) : Prop := (M 84 11 = V 1 0 ∧ M 84 12 = V 7 0 ∧ M 84 13 = V 13 0 ∧ M 84 14 = V 19 0 ∧ M 84 15 = V 0 8 ∧ M 84 45 = V 0 9 ∧ M 84 46 = V 0 10 ∧ M 84 44 = V 13 0 - V 13 1) ∧
  (∀ k, 0 ≤ k → k < V 1 0 → M 87 k = V 2 k ∧ M 88 k = V 3 k ∧ M 89 k = V 4 k ∧ M 90 k = V 5 k ∧ M 91 k = V 6 k) ∧
  (∀ k, 0 ≤ k → k < V 7 0 → M 92 k = V 8 k ∧ M 93 k = V 9 k ∧ M 94 k = V 10 k ∧ M 95 k = V 11 k ∧ M 96 k = V 12 k) ∧
  (∀ k, 0 ≤ k → k < V 13 0 → M 97 k = V 14 k ∧ M 98 k = V 15 k ∧ M 99 k = V 16 k ∧ M 100 k = V 17 k ∧ M 101 k = V 18 k) ∧
  (∀ k, 0 ≤ k → k < V 19 0 → M 102 k = V 20 k ∧ M 103 k = V 21 k ∧ M 104 k = V 22 k)
abbrev mOk (M V : zM) : Prop := LayR M ∧ mEq M V ∧ vOk V
section
variable {M V : zM}
theorem e_X12_isHeard (h : mOk M V) (k : Int) : zm_X12_isHeard zLa [zA 12 84, zI k] M = some ([zI (b2i (sHe V k))], M) := by
  obtain ⟨hR, hE, hN, hT, hS, hl, hm, hp⟩ := h
  have hΛ := zLo_ok
  rw [zr_X12_isHeard]
  refine z_out_some ?_
  rw [zb_X12_isHeard_0]
  by_cases hr : 0 ≤ k ∧ k < V 13 0
  · have mk := hE.2.2.2.1 k hr.1 hr.2
    try simp only [hR, hΛ, hE.1, z_bI_mk, z_bJ_mk, z_bV_mk]
    try simp only [mk, b2i_eq0]
    repeat' split
    all_goals first | (rw [b2i_pos (by omega)]; done) | (rw [b2i_neg (by omega)]; done) | rfl | (exfalso; omega)
  · skip
    try simp only [hR, hΛ, hE.1, z_bI_mk, z_bJ_mk, z_bV_mk]
    try simp only [b2i_eq0]
    repeat' split
    all_goals first | (rw [b2i_pos (by omega)]; done) | (rw [b2i_neg (by omega)]; done) | rfl | (exfalso; omega)

theorem e_X12_isHeardWord (h : mOk M V) (k : Int) : zm_X12_isHeardWord zLa [zA 12 84, zI k] M = some ([zI (b2i (sHw V k))], M) := by
  have h1 := e_X12_isHeard h k
  obtain ⟨hR, hE, hN, hT, hS, hl, hm, hp⟩ := h
  have hΛ := zLo_ok
  rw [zr_X12_isHeardWord]
  refine z_out_some ?_
  rw [zb_X12_isHeardWord_0]
  by_cases hr : 0 ≤ k ∧ k < V 13 0
  · have mk := hE.2.2.2.1 k hr.1 hr.2
    try simp only [hR, hΛ, hE.1, h1, z_bI_mk, z_bJ_mk, z_bV_mk]
    try simp only [mk, b2i_eq0]
    repeat' split
    all_goals first | (rw [b2i_pos (by omega)]; done) | (rw [b2i_neg (by omega)]; done) | rfl | (exfalso; omega)
  · skip
    try simp only [hR, hΛ, hE.1, h1, z_bI_mk, z_bJ_mk, z_bV_mk]
    try simp only [b2i_eq0]
    repeat' split
    all_goals first | (rw [b2i_pos (by omega)]; done) | (rw [b2i_neg (by omega)]; done) | rfl | (exfalso; omega)

abbrev sSay (V : zM) (k t y : Int) : Prop := sHt V k t ∧ V 17 k = y
abbrev sAsk (V : zM) (k t : Int) : Prop := 0 ≤ k ∧ k < V 13 0 ∧ V 16 k ≤ V 0 9 ∧ V 14 k = 0 ∧ V 15 k = t

theorem e_X12_says (h : mOk M V) (k t y : Int) : zm_X12_says zLa [zA 12 84, zI k, zI t, zI y] M = some ([zI (b2i (sSay V k t y))], M) := by
  have h1 := e_X12_isHeardWord h k
  obtain ⟨hR, hE, hN, hT, hS, hl, hm, hp⟩ := h
  have hΛ := zLo_ok
  rw [zr_X12_says]
  refine z_out_some ?_
  rw [zb_X12_says_0]
  by_cases hr : 0 ≤ k ∧ k < V 13 0
  · have mk := hE.2.2.2.1 k hr.1 hr.2
    try simp only [hR, hΛ, hE.1, h1, z_bI_mk, z_bJ_mk, z_bV_mk]
    try simp only [mk, b2i_eq0]
    repeat' split
    all_goals first | (rw [b2i_pos (by omega)]; done) | (rw [b2i_neg (by omega)]; done) | rfl | (exfalso; omega)
  · skip
    try simp only [hR, hΛ, hE.1, h1, z_bI_mk, z_bJ_mk, z_bV_mk]
    try simp only [b2i_eq0]
    repeat' split
    all_goals first | (rw [b2i_pos (by omega)]; done) | (rw [b2i_neg (by omega)]; done) | rfl | (exfalso; omega)

theorem e_X12_asks (h : mOk M V) (k t : Int) : zm_X12_asks zLa [zA 12 84, zI k, zI t] M = some ([zI (b2i (sAsk V k t))], M) := by
  have h1 := e_X12_isHeard h k
  obtain ⟨hR, hE, hN, hT, hS, hl, hm, hp⟩ := h
  have hΛ := zLo_ok
  rw [zr_X12_asks]
  refine z_out_some ?_
  rw [zb_X12_asks_0]
  by_cases hr : 0 ≤ k ∧ k < V 13 0
  · have mk := hE.2.2.2.1 k hr.1 hr.2
    try simp only [hR, hΛ, hE.1, h1, z_bI_mk, z_bJ_mk, z_bV_mk]
    try simp only [mk, b2i_eq0]
    repeat' split
    all_goals first | (rw [b2i_pos (by omega)]; done) | (rw [b2i_neg (by omega)]; done) | rfl | (exfalso; omega)
  · skip
    try simp only [hR, hΛ, hE.1, h1, z_bI_mk, z_bJ_mk, z_bV_mk]
    try simp only [b2i_eq0]
    repeat' split
    all_goals first | (rw [b2i_pos (by omega)]; done) | (rw [b2i_neg (by omega)]; done) | rfl | (exfalso; omega)

theorem e_X12_isRight (h : mOk M V) {k : Int} (h0 : 0 ≤ k) (h1 : k < V 13 0) : zm_X12_isRight zLa [zA 12 84, zI k] M = some ([zI (b2i (sRi V k))], M) := by
  obtain ⟨hR, hE, hN, hT, hS, hl, hm, hp⟩ := h
  have hΛ := zLo_ok
  have mk := hE.2.2.2.1 k h0 h1
  have hk := hl k h0 h1
  have mt := hE.2.1 (V 17 k) (by omega) (by omega)
  have htk := hT (V 17 k) (by omega) (by omega)
  rw [zr_X12_isRight]
  refine z_out_some ?_
  rw [zb_X12_isRight_0]
  try simp only [hR, hΛ, hE.1, z_bI_mk, z_bJ_mk, z_bV_mk]
  try simp only [mk, mt, b2i_eq0]
  repeat' split
  all_goals first | (rw [b2i_pos (by omega)]; done) | (rw [b2i_neg (by omega)]; done) | rfl | (exfalso; omega)

theorem e_X12_had (a b : Int) (M : zM) : zm_X12_had zLa [zI a, zI b] M = some ([zI (b2i (0 ≤ a ∧ a ≤ b))], M) := by
  rw [zr_X12_had]
  refine z_out_some ?_
  rw [zb_X12_had_0]
  repeat' split
  all_goals first | (rw [b2i_pos (by omega)]; done) | (rw [b2i_neg (by omega)]; done) | rfl | (exfalso; omega)
theorem had_eq {a b : Int} (h : -1 ≤ a) : b2i (0 ≤ a ∧ a ≤ b) = b2i (sHad a b) := b2i_congr (by omega)

theorem e_X12_latestOff (h : mOk M V) {t : Int} (t0 : 0 ≤ t) (t1 : t < V 7 0) (u : Int) : zm_X12_latestOff zLa [zA 12 84, zI t, zI u] M = some ([zI (sLo V t u)], M) := by
  obtain ⟨hR, hE, hN, hT, hS, hl, hm, hp⟩ := h
  have hΛ := zLo_ok
  have ms := hE.2.2.1 t t0 t1
  have ht := hS t t0 t1
  have hsb : z_sub (V 12 t) 1 = V 12 t - 1 := z_sub_id (by omega) (by omega)
  rw [zr_X12_latestOff]
  refine z_out_some ?_
  rw [zb_X12_latestOff_0]
  simp only [hR, hΛ, hE.1]
  simp only [ms, hsb]
  rw [if_pos (by omega)]
  by_cases q1 : V 12 t = -1
  · rw [if_pos (by omega), sLo, cite_pos q1]
  · rw [if_neg (by omega), if_pos (by omega), sLo, cite_neg q1]
    unfold z_min
    by_cases q2 : V 12 t - 1 < u
    · rw [if_pos q2, if_pos (by omega), if_pos q2]
    · rw [if_neg q2, if_neg q2]

theorem e_X12_isOff (h : mOk M V) {k : Int} (h0 : 0 ≤ k) (h1 : k < V 13 0) : zm_X12_isOff zLa [zA 12 84, zI k] M = some ([zI (b2i (V 10 (V 15 k) ≤ sLo V (V 15 k) (V 16 k) ∧ sHad (V 6 (V 17 k)) (sLo V (V 15 k) (V 16 k))))], M) := by
  have hk := h.2.2.2.2.2.1 k h0 h1
  have el := e_X12_latestOff h (t := V 15 k) (by omega) (by omega) (V 16 k)
  obtain ⟨hR, hE, hN, hT, hS, hl, hm, hp⟩ := h
  have hΛ := zLo_ok
  have mk := hE.2.2.2.1 k h0 h1
  have mt := hE.2.1 (V 17 k) (by omega) (by omega)
  have htk := hT (V 17 k) (by omega) (by omega)
  have ms := hE.2.2.1 (V 15 k) (by omega) (by omega)
  rw [zr_X12_isOff]
  refine z_out_some ?_
  rw [zb_X12_isOff_0]
  simp only [hR, hΛ, hE.1]
  simp only [mk, el, z_bI_mk]
  simp only [hR, hΛ, hE.1]
  simp only [mk, mt, ms, e_X12_had, z_bI_mk, b2i_eq0]
  generalize sLo V (V 15 k) (V 16 k) = z at *
  repeat' split
  all_goals first | (rw [b2i_pos (by omega)]; done) | (rw [b2i_neg (by omega)]; done) | rfl | (exfalso; omega)

theorem e_X12_heardMany (h : mOk M V) : zm_X12_heardMany zLa [zA 12 84] M = some ([zI (cnt (sHe V) (V 13 0))], M) := by
  have hh := e_X12_isHeard h
  obtain ⟨hR, hE, hN, hT, hS, hl, hm, hp⟩ := h
  have hΛ := zLo_ok
  rw [zr_X12_heardMany]
  refine z_out_some ?_
  rw [zb_X12_heardMany_0]
  try simp only [hR, hΛ, hE.1, z_bI_mk, z_bJ_mk, z_bV_mk]
  try simp only [b2i_eq0]
  obtain ⟨s', e, hI⟩ := lp_up (fun i (a : Int) => z_ev (zcd_X12_heardMany zLa) 1 [zA 12 84, zI a, zI i] [] M) (fun i a => a + b2i (sHe V i)) (fun i a => a = cnt (fun i => sHe V i) i) (n := V 13 0) (fun i a hi0 hi1 hI => by
    refine ⟨?_, by rw [hI, cnt_s _ hi0]⟩
    have hr := cnt_rng (fun i => sHe V i) hi0
    try dsimp only
    rw [zb_X12_heardMany_1]
    try simp only [hR, hΛ, hE.1, hh, z_add_id (a := a) (b := 0) (by omega) (by omega), z_add_id (a := a) (b := 1) (by omega) (by omega), Int.add_zero, z_w32_id (n := i + 1) (by omega) (by omega), z_w32_id (n := a + 1) (by omega) (by omega), z_bI_mk, z_bJ_mk, z_bV_mk]
    try simp only [b2i_eq0]
    repeat' split
    all_goals first | (rw [b2i_neg (by omega), Int.add_zero]; done) | (rw [b2i_pos (by omega)]; done) | (exfalso; omega)) (V 13 0).toNat 0 0 (by omega) (by omega) rfl
  try dsimp only at e
  rw [e, zb_X12_heardMany_1]
  try simp only [hR, hΛ, hE.1, z_bI_mk, z_bJ_mk, z_bV_mk]
  try simp only [b2i_eq0]
  rw [if_neg (by omega), hI]

/-- what is ahead of a HEARD line of the same TELLER is HEARD -/
theorem v_ahead (hm : vOkM V) {i k : Int} (i0 : 0 ≤ i) (i1 : i < k) (h1 : k < V 13 0) (h2 : V 16 k ≤ V 0 9) (hw : V 15 i = V 15 k) : V 16 i ≤ V 0 9 := by
  have := hm i k i0 i1 h1 hw
  omega

theorem e_X12_isFirst (h : mOk M V) {k : Int} (h0 : 0 ≤ k) (h1 : k < V 13 0) (h2 : V 16 k ≤ V 0 9) : zm_X12_isFirst zLa [zA 12 84, zI k] M = some ([zI (b2i (sFst V k))], M) := by
  have hh := e_X12_says h
  obtain ⟨hR, hE, hN, hT, hS, hl, hm, hp⟩ := h
  have hΛ := zLo_ok
  have mk := hE.2.2.2.1 k h0 h1
  have hk := hl k h0 h1
  rw [zr_X12_isFirst]
  refine z_out_some ?_
  rw [zb_X12_isFirst_0]
  try simp only [hR, hΛ, hE.1, z_bI_mk, z_bJ_mk, z_bV_mk]
  try simp only [mk, b2i_eq0]
  have hf := lp_find (fun i => z_ev (zcd_X12_isFirst zLa) 1 [zA 12 84, zI k, zI i] [] M) (fun i => sSay V i (V 15 k) (V 17 k)) (n := k) (by omega) (A := fun i => some (.inl ([zI 0], M))) (B := some (.inl ([zI 1], M))) (fun i a b hq => by
      rw [zb_X12_isFirst_1]
      try simp only [hR, hΛ, hE.1, hh, z_bI_mk, z_bJ_mk, z_bV_mk]
      try simp only [mk, b2i_eq0]
      repeat' split
      all_goals first | rfl | (exfalso; omega)) (fun i a b hq => by
      rw [zb_X12_isFirst_1]
      try simp only [hR, hΛ, hE.1, hh, z_w32_id (n := i + 1) (by omega) (by omega), z_bI_mk, z_bJ_mk, z_bV_mk]
      try simp only [mk, b2i_eq0]
      repeat' split
      all_goals first | rfl | (exfalso; omega)) (by
      rw [zb_X12_isFirst_1]
      try simp only [hR, hΛ, hE.1, z_bI_mk, z_bJ_mk, z_bV_mk]
      try simp only [mk, b2i_eq0]
      rw [if_neg (by omega)])
  have hs := fst_spec (fun i => sSay V i (V 15 k) (V 17 k)) (n := k) (by omega)
  rcases hs with ⟨a, b⟩ | ⟨a, b, d, -⟩
  · rw [hf.1 a, b2i_pos (fun i q1 q2 q3 => b i q1 q2 ⟨⟨q1, by omega, v_ahead hm q1 q2 h1 h2 q3.2.1, q3.1, q3.2.1⟩, q3.2.2⟩)]
  · rw [hf.2 (by omega), b2i_neg (fun q => q _ a b ⟨d.1.2.2.2.1, d.1.2.2.2.2, d.2⟩)]

theorem e_X12_ledBy (h : mOk M V) {k : Int} (h0 : 0 ≤ k) (h1 : k < V 13 0) (h2 : V 16 k ≤ V 0 9) : zm_X12_ledBy zLa [zA 12 84, zI k] M = some ([zI (sLed V k)], M) := by
  have hh := e_X12_asks h
  obtain ⟨hR, hE, hN, hT, hS, hl, hm, hp⟩ := h
  have hΛ := zLo_ok
  have mk := hE.2.2.2.1 k h0 h1
  have hk := hl k h0 h1
  have mi := mk
  rw [zr_X12_ledBy]
  refine z_out_some ?_
  rw [zb_X12_ledBy_0]
  try simp only [hR, hΛ, hE.1, z_bI_mk, z_bJ_mk, z_bV_mk]
  try simp only [mk, mi, b2i_eq0]
  obtain ⟨s', e, hI⟩ := lp_up (fun i (a : Int) => z_ev (zcd_X12_ledBy zLa) 1 [zA 12 84, zI k, zI a, zI i] [] M) (fun i a => cite (sAsk V i (V 15 k) ∧ V 17 i = V 17 k ∧ V 18 i = V 18 k) (i) a) (fun i a => a = lst (fun i => sAsk V i (V 15 k) ∧ V 17 i = V 17 k ∧ V 18 i = V 18 k) i) (n := k) (fun i a hi0 hi1 hI => by
    have hls := lst_s (fun i => sAsk V i (V 15 k) ∧ V 17 i = V 17 k ∧ V 18 i = V 18 k) hi0
    have mi := hE.2.2.2.1 i hi0 (by omega)
    refine ⟨?_, ?_⟩
    · rw [zb_X12_ledBy_1]
      try simp only [hR, hΛ, hE.1, hh, z_w32_id (n := i + 1) (by omega) (by omega), z_bI_mk, z_bJ_mk, z_bV_mk]
      try simp only [mk, mi, b2i_eq0]
      repeat' split
      all_goals first | (rw [cite_pos (by omega)]; done) | (rw [cite_neg (by omega)]; done) | (exfalso; omega)
    · rcases Classical.em (sAsk V i (V 15 k) ∧ V 17 i = V 17 k ∧ V 18 i = V 18 k) with q | q
      · rw [cite_pos q]
        rw [hls.1 q]
      · rw [cite_neg q, hI]
        rw [hls.2 q]) (k).toNat 0 (-1) (by omega) (by omega) (by rfl)
  try dsimp only at e
  rw [e, zb_X12_ledBy_1]
  try simp only [hR, hΛ, hE.1, z_bI_mk, z_bJ_mk, z_bV_mk]
  try simp only [mk, mi, b2i_eq0]
  rw [if_neg (by omega), hI]
  rw [show sLed V k = lst (fun i => sAsk V i (V 15 k) ∧ V 17 i = V 17 k ∧ V 18 i = V 18 k) k from lst_congr (fun i a b => ⟨fun q => ⟨⟨a, by omega, v_ahead hm a b h1 h2 q.2.1.1, q.1, q.2.1.1⟩, q.2.1.2, q.2.2⟩, fun q => ⟨q.1.2.2.2.1, ⟨q.1.2.2.2.2, q.2.1⟩, q.2.2⟩⟩)]

end
