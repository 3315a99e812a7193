/-! ===== more calls that only ask ===== -/
section
variable {M V : zM} {c : Int}
theorem e_find {a n : Int} (n0 : 0 ≤ n) (n1 : n ≤ zLa a) (n2 : n ≤ 1000) (y : Int) (M : zM) : zm_X11_find zLa [zA 13 a, zI n, zI y] M = some ([zI (fst (fun i => M a i = y) n)], M) := by
  rw [zr_X11_find]
  refine z_out_some ?_
  rw [zb_X11_find_0]
  have hf := lp_find (fun i => z_ev (zcd_X11_find zLa) 1 [zA 13 a, zI n, zI y, zI i] [] M) (fun i => M a i = y) (n := n) n0 (A := fun i => some (.inl ([zI i], M))) (B := some (.inl ([zI (-1)], M))) (fun i a b hq => by
      rw [zb_X11_find_1, if_pos b, if_pos (by omega), if_pos (by omega), if_pos hq]) (fun i a b hq => by
      rw [zb_X11_find_1, if_pos b, if_pos (by omega), if_pos (by omega), if_neg hq, z_w32_id (by omega) (by omega)]) (by
      rw [zb_X11_find_1, if_neg (by omega)])
  rcases fst_spec (fun i => M a i = y) n0 with ⟨a, b⟩ | ⟨a, b, d, -⟩
  · rw [hf.1 a, a]
  · rw [hf.2 (by omega)]
theorem e_findR {a f n : Int} (f0 : 0 ≤ f) (n0 : 0 ≤ n) (n1 : f + n ≤ zLa a) (n2 : f + n ≤ 1000) (y : Int) (M : zM) : zm_X12_find zLa [zA 12 84, zA 13 a, zI f, zI n, zI y] M = some ([zI (fst (fun i => M a (f + i) = y) n)], M) := by
  rw [zr_X12_find]
  refine z_out_some ?_
  rw [zb_X12_find_0]
  have hf := lp_find (fun i => z_ev (zcd_X12_find zLa) 1 [zA 12 84, zA 13 a, zI f, zI n, zI y, zI i] [] M) (fun i => M a (f + i) = y) (n := n) n0 (A := fun i => some (.inl ([zI i], M))) (B := some (.inl ([zI (-1)], M))) (fun i a b hq => by
      rw [zb_X12_find_1, if_pos b, z_add_id (by omega) (by omega), if_pos (by omega), if_pos hq]) (fun i a b hq => by
      rw [zb_X12_find_1, if_pos b, z_add_id (by omega) (by omega), if_pos (by omega), if_neg hq, z_w32_id (by omega) (by omega)]) (by
      rw [zb_X12_find_1, if_neg (by omega)])
  rcases fst_spec (fun i => M a (f + i) = y) n0 with ⟨a, b⟩ | ⟨a, b, d, -⟩
  · rw [hf.1 a, a]
  · rw [hf.2 (by omega)]
theorem e_X9_numberOf (h : cOk M c V) (y : Int) : zm_X9_numberOf zLa [zA 9 (c + 1), zI y] M = some ([zI (fst (fun i => V 2 i = y) (V 1 0))], M) := by
  obtain ⟨hc, hL, hV, hN, hT, hS, hl, hm, hp⟩ := h
  have hΛ := zLc_of hc
  rw [zr_X9_numberOf]
  refine z_out_some ?_
  rw [zb_X9_numberOf_0]
  simp only [hL]
  rw [e_find (by rw [cv_1 hV]; omega) (by rw [cv_1 hV, hΛ.1]; omega) (by rw [cv_1 hV]; omega), z_bI_mk]
  simp only [hV]
theorem e_X8_numberOf (h : cOk M c V) (y : Int) : zm_X8_numberOf zLa [zA 8 (c + 7), zI y] M = some ([zI (fst (fun i => V 8 i = y) (V 7 0))], M) := by
  obtain ⟨hc, hL, hV, hN, hT, hS, hl, hm, hp⟩ := h
  have hΛ := zLc_of hc
  rw [zr_X8_numberOf]
  refine z_out_some ?_
  rw [zb_X8_numberOf_0]
  simp only [hL]
  rw [e_find (by rw [cv_7 hV]; omega) (by rw [cv_7 hV, la_c8 hc]; omega) (by rw [cv_7 hV]; omega), z_bI_mk]
  simp only [hV]
theorem q_named (h : gQ M c V) (w y : Int) : Pr zm_X11_named zm_X12_named [zI w, zI y] M := by
  obtain ⟨hn, hO, hC, hD⟩ := h
  have hs : Sm M (z_wr M 84 2 0) := Sm.wr (by decide)
  have hE := hD.sm hs
  have hL := hC.2.1
  have hN := hC.2.2.2.1
  refine ⟨[zI (if w = 0 then fst (fun i => V 2 i = y) (V 1 0) else if w = 1 then fst (fun i => V 8 i = y) (V 7 0) else -1)], M, z_wr M 84 2 0, ?_, ?_, hs⟩
  · rw [zr_X11_named]
    refine z_out_some ?_
    rw [zb_X11_named_0]
    simp only [hn, hL, e_X9_numberOf hC, e_X8_numberOf hC, z_bI_mk]
    repeat' split
    all_goals rfl
  · rw [zr_X12_named]
    refine z_out_some ?_
    rw [zb_X12_named_0, z_lt_eq]
    generalize z_wr M 84 2 0 = N at hE ⊢
    obtain ⟨hR, hE1, -⟩ := hE
    simp only [hR, hE1.1]
    rw [e_findR (by decide) (by omega) (by rw [la_87]; omega) (by omega), e_findR (by decide) (by omega) (by rw [la_92]; omega) (by omega), z_bI_mk, z_bI_mk]
    rw [fst_congr (p := fun i => N 87 (0 + i) = y) (q := fun i => V 2 i = y) (fun k a b => by rw [Int.zero_add, (hE1.2.1 k a b).1]), fst_congr (p := fun i => N 92 (0 + i) = y) (q := fun i => V 8 i = y) (fun k a b => by rw [Int.zero_add, (hE1.2.2.1 k a b).1])]
    repeat' split
    all_goals rfl
theorem q_teller (h : gQ M c V) (t w : Int) : Pr zm_X11_teller zm_X12_teller [zI t, zI w] M := by
  obtain ⟨hn, hO, hC, hD⟩ := h
  have hs : Sm M (z_wr M 84 2 0) := Sm.wr (by decide)
  have hE := hD.sm hs
  have hL := hC.2.1
  have hN := hC.2.2.2.1
  have hV := hC.2.2.1
  have hΛ := zLc_of hC.1
  have hΛ2 := zLo_ok
  refine ⟨[zI (cite (0 ≤ t ∧ t < V 7 0) (if w = 0 then V 9 t else if w = 1 then V 10 t else if w = 2 then V 11 t else if w = 3 then V 12 t else -1) (-1))], M, z_wr M 84 2 0, ?_, ?_, hs⟩
  · rw [zr_X11_teller]
    refine z_out_some ?_
    rw [zb_X11_teller_0]
    simp only [hn, hL, hΛ, e_X8_has hC, z_bI_mk]
    simp only [hV]
    rcases Classical.em (0 ≤ t ∧ t < V 7 0) with q | q
    · have hb : 0 ≤ t ∧ t < 5 := by omega
      rw [b2i_pos q, cite_pos q, if_neg (by decide)]
      simp only [hb, and_self, if_true]
      repeat' split
      all_goals rfl
    · rw [b2i_neg q, cite_neg q, if_pos rfl]
  · rw [zr_X12_teller]
    refine z_out_some ?_
    rw [zb_X12_teller_0, z_lt_eq]
    generalize z_wr M 84 2 0 = N at hE ⊢
    simp only [e_X12_isTeller hE, z_bI_mk, hE.1, hΛ2]
    rcases Classical.em (0 ≤ t ∧ t < V 7 0) with q | q
    · have hb : 0 ≤ t ∧ t < 10 := by omega
      have ms := hE.2.1.2.2.1 t q.1 q.2
      rw [b2i_pos q, cite_pos q, if_neg (by decide)]
      simp only [hb, and_self, if_true, ms]
      repeat' split
      all_goals rfl
    · rw [b2i_neg q, cite_neg q, if_pos rfl]
theorem q_line (h : gQ M c V) (k w : Int) : Pr zm_X11_line zm_X12_line [zI k, zI w] M := by
  obtain ⟨hn, hO, hC, hD⟩ := h
  have hs : Sm M (z_wr M 84 2 0) := Sm.wr (by decide)
  have hE := hD.sm hs
  have hL := hC.2.1
  have hN := hC.2.2.2.1
  have hV := hC.2.2.1
  have hΛ := zLc_of hC.1
  have hΛ2 := zLo_ok
  refine ⟨[zI (cite (sHe V k) (if w = 0 then (if V 14 k = 0 then 0 else 1) else if w = 1 then V 15 k else if w = 2 then V 16 k else if w = 3 then V 17 k else if w = 4 then V 18 k else -2) (-2))], M, z_wr M 84 2 0, ?_, ?_, hs⟩
  · rw [zr_X11_line]
    refine z_out_some ?_
    rw [zb_X11_line_0]
    simp only [hn, hL, hΛ, e_X0_isHeard hC, z_bI_mk]
    simp only [hV]
    rcases Classical.em (sHe V k) with q | q
    · have hb : 0 ≤ k ∧ k < 60 := by omega
      rw [b2i_pos q, cite_pos q, if_neg (by decide)]
      simp only [hb, and_self, if_true]
      repeat' split
      all_goals rfl
    · rw [b2i_neg q, cite_neg q, if_pos rfl]
  · rw [zr_X12_line]
    refine z_out_some ?_
    rw [zb_X12_line_0, z_lt_eq]
    generalize z_wr M 84 2 0 = N at hE ⊢
    simp only [e_X12_isHeard hE, z_bI_mk, hE.1, hΛ2]
    rcases Classical.em (sHe V k) with q | q
    · have hb : 0 ≤ k ∧ k < 120 := by omega
      have ms := hE.2.1.2.2.2.1 k q.1 q.2.1
      rw [b2i_pos q, cite_pos q, if_neg (by decide)]
      simp only [hb, and_self, if_true, ms]
      repeat' split
      all_goals rfl
    · rw [b2i_neg q, cite_neg q, if_pos rfl]

theorem q_words (h : gQ M c V) (t b : Int) : Pr zm_X11_words zm_X12_words [zI t, zI b] M := by
  obtain ⟨hn, hO, hC, hD⟩ := h
  have hs : Sm M (z_wr M 84 2 0) := Sm.wr (by decide)
  have hE := hD.sm hs
  have hL := hC.2.1
  have hN := hC.2.2.2.1
  have hV := hC.2.2.1
  have hΛ := zLc_of hC.1
  have hΛ2 := zLo_ok
  refine ⟨[zI (cite ((0 ≤ t ∧ t < V 7 0) ∧ (1 ≤ b ∧ b ≤ 127)) (cnt (fun i => sHt V i t ∧ z_and (sBits V i) b = b) (V 13 0)) (-1))], M, z_wr M 84 2 0, ?_, ?_, hs⟩
  · rw [zr_X11_words]
    refine z_out_some ?_
    rw [zb_X11_words_0]
    simp only [hn, hL, e_X8_has hC, z_bI_mk]
    rcases Classical.em (0 ≤ t ∧ t < V 7 0) with q | q
    case inr => rw [b2i_neg q, cite_neg (fun r => q r.1), if_pos rfl]
    rw [b2i_pos q, if_neg (by decide)]
    by_cases q1 : b < 1
    · rw [if_pos q1, cite_neg (fun r => by omega)]
    by_cases q2 : b ≤ 127
    case neg => rw [if_neg q1, if_neg q2, cite_neg (fun r => by omega)]
    rw [if_neg q1, if_pos q2, cite_pos ⟨q, by omega, q2⟩]
    obtain ⟨s', e, hI⟩ := lp_up (fun i (a : Int) => z_ev (zcd_X11_words zLa) 1 [zA 11 0, zI t, zI b, zI a, zI i] [] M) (fun i a => a + b2i (sHt V i t ∧ z_and (sBits V i) b = b)) (fun i a => a = cnt (fun i => sHt V i t ∧ z_and (sBits V i) b = b) i) (n := V 13 0) (fun i a hi0 hi1 hI => by
      refine ⟨?_, by rw [hI, cnt_s _ hi0]⟩
      have hr := cnt_rng (fun i => sHt V i t ∧ z_and (sBits V i) b = b) hi0
      rw [zb_X11_words_1]
      simp only [hn, hL, e_X0_isHeardWordOf hC, e_X0_bitsOf hC hi0 hi1, z_bI_mk, z_w32_id (n := i + 1) (by omega) (by omega), z_w32_id (n := a + 1) (by omega) (by omega)]
      simp only [hV]
      rw [if_pos hi1]
      rcases Classical.em (sHt V i t) with w1 | w1
      · rw [b2i_pos w1, if_neg (by decide)]
        by_cases w2 : z_and (sBits V i) b = b
        · rw [if_pos w2, b2i_pos ⟨w1, w2⟩]
        · rw [if_neg w2, b2i_neg (fun r => w2 r.2), Int.add_zero]
      · rw [b2i_neg w1, if_pos rfl, b2i_neg (fun r => w1 r.1), Int.add_zero]) (V 13 0).toNat 0 0 (by omega) (by omega) rfl
    try dsimp only at e
    rw [e, zb_X11_words_1]
    simp only [hn, hL]
    simp only [hV]
    rw [if_neg (by omega), hI]
  · rw [zr_X12_words]
    refine z_out_some ?_
    rw [zb_X12_words_0, z_lt_eq]
    generalize z_wr M 84 2 0 = N at hE ⊢
    simp only [e_X12_isTeller hE, e_X12_isIn, z_bI_mk]
    rcases Classical.em (0 ≤ t ∧ t < V 7 0) with q | q
    case inr => rw [b2i_neg q, cite_neg (fun r => q r.1), if_pos rfl]
    rw [b2i_pos q, if_neg (by decide)]
    rcases Classical.em (1 ≤ b ∧ b ≤ 127) with q1 | q1
    case inr => rw [b2i_neg q1, if_pos rfl, cite_neg (fun r => q1 r.2)]
    rw [b2i_pos q1, if_neg (by decide), cite_pos ⟨q, q1⟩]
    obtain ⟨s', e, hI⟩ := lp_up (fun i (a : Int) => z_ev (zcd_X12_words zLa) 1 [zA 12 84, zI t, zI b, zI a, zI i] [] N) (fun i a => a + b2i (sHt V i t ∧ z_and (sBits V i) b = b)) (fun i a => a = cnt (fun i => sHt V i t ∧ z_and (sBits V i) b = b) i) (n := V 13 0) (fun i a hi0 hi1 hI => by
      refine ⟨?_, by rw [hI, cnt_s _ hi0]⟩
      have hr := cnt_rng (fun i => sHt V i t ∧ z_and (sBits V i) b = b) hi0
      have mi := hE.2.1.2.2.2.1 i hi0 hi1
      rw [zb_X12_words_1]
      simp only [hE.1, hΛ2, hE.2.1.1, e_X12_isHeardWord hE, z_bI_mk, z_w32_id (n := i + 1) (by omega) (by omega), z_add_id (a := a) (b := 0) (by omega) (by omega), z_add_id (a := a) (b := 1) (by omega) (by omega), Int.add_zero]
      simp only [mi]
      rw [if_pos hi1]
      rcases Classical.em (sHw V i) with w1 | w1
      · rw [b2i_pos w1, if_neg (by decide), if_pos (by omega)]
        by_cases w3 : V 15 i = t
        · rw [if_pos w3, e_X12_whatIs hE hi0 hi1 w1.2.2.1, z_bI_mk]
          by_cases w2 : z_and (sBits V i) b = b
          · rw [if_pos w2, b2i_pos ⟨⟨w1.1, w1.2.1, w1.2.2.1, w1.2.2.2, w3⟩, w2⟩]
          · rw [if_neg w2, b2i_neg (fun r => w2 r.2), Int.add_zero]
        · rw [if_neg w3, b2i_neg (fun r => w3 r.1.2.2.2.2), Int.add_zero]
      · rw [b2i_neg w1, if_pos rfl, b2i_neg (fun r => w1 ⟨r.1.1, r.1.2.1, r.1.2.2.1, r.1.2.2.2.1⟩), Int.add_zero]) (V 13 0).toNat 0 0 (by omega) (by omega) rfl
    try dsimp only at e
    rw [e, zb_X12_words_1]
    simp only [hE.1, hΛ2, hE.2.1.1]
    rw [if_neg (by omega), hI]

theorem q_left (h : gQ M c V) (t : Int) : Pr zm_X11_left zm_X12_left [zI t] M := by
  obtain ⟨hn, hO, hC, hD⟩ := h
  have hs : Sm M (z_wr M 84 2 0) := Sm.wr (by decide)
  have hE := hD.sm hs
  have hL := hC.2.1
  have hN := hC.2.2.2.1
  have hΛ2 := zLo_ok
  refine ⟨[zI (cite (0 ≤ t ∧ t < V 7 0) (cnt (fun i => sHt V i t ∧ ¬ sRi V i ∧ ¬ sTel V t (V 17 i) (V 18 i)) (V 13 0)) (-1))], M, z_wr M 84 2 0, ?_, ?_, hs⟩
  · rw [zr_X11_left]
    refine z_out_some ?_
    rw [zb_X11_left_0]
    simp only [hn, hL, e_X8_has hC, e_X0_leftOut hC, z_bI_mk]
    rcases Classical.em (0 ≤ t ∧ t < V 7 0) with q | q
    · rw [b2i_pos q, cite_pos q, if_neg (by decide)]
    · rw [b2i_neg q, cite_neg q, if_pos rfl]
  · rw [zr_X12_left]
    refine z_out_some ?_
    rw [zb_X12_left_0, z_lt_eq]
    generalize z_wr M 84 2 0 = N at hE ⊢
    simp only [e_X12_isTeller hE, z_bI_mk]
    rcases Classical.em (0 ≤ t ∧ t < V 7 0) with q | q
    case inr => rw [b2i_neg q, cite_neg q, if_pos rfl]
    rw [b2i_pos q, if_neg (by decide), cite_pos q]
    obtain ⟨s', e, hI⟩ := lp_up (fun i (a : Int) => z_ev (zcd_X12_left zLa) 1 [zA 12 84, zI t, zI a, zI i] [] N) (fun i a => a + b2i (sHt V i t ∧ ¬ sRi V i ∧ ¬ sTel V t (V 17 i) (V 18 i))) (fun i a => a = cnt (fun i => sHt V i t ∧ ¬ sRi V i ∧ ¬ sTel V t (V 17 i) (V 18 i)) i) (n := V 13 0) (fun i a hi0 hi1 hI => by
      refine ⟨?_, by rw [hI, cnt_s _ hi0]⟩
      have hr := cnt_rng (fun i => sHt V i t ∧ ¬ sRi V i ∧ ¬ sTel V t (V 17 i) (V 18 i)) hi0
      have mi := hE.2.1.2.2.2.1 i hi0 hi1
      rw [zb_X12_left_1]
      simp only [hE.1, hΛ2, hE.2.1.1, e_X12_isHeardWord hE, e_X12_isRight hE hi0 hi1, e_X12_isOnPage hE, z_bI_mk, z_w32_id (n := i + 1) (by omega) (by omega), z_add_id (a := a) (b := 0) (by omega) (by omega), z_add_id (a := a) (b := 1) (by omega) (by omega), Int.add_zero]
      simp only [mi]
      rw [if_pos hi1]
      rcases Classical.em (sHw V i) with w1 | w1
      · rw [b2i_pos w1, if_neg (by decide), if_pos (by omega)]
        by_cases w3 : V 15 i = t
        · rw [if_pos w3]
          rcases Classical.em (sRi V i) with w4 | w4
          · rw [b2i_pos w4, if_neg (by decide), b2i_neg (fun r => r.2.1 w4), Int.add_zero]
          · rw [b2i_neg w4, if_pos rfl, if_pos (by omega), if_pos (by omega)]
            rcases Classical.em (sTel V t (V 17 i) (V 18 i)) with w5 | w5
            · rw [b2i_pos w5, if_neg (by decide), b2i_neg (fun r => r.2.2 w5), Int.add_zero]
            · rw [b2i_neg w5, if_pos rfl, b2i_pos ⟨⟨w1.1, w1.2.1, w1.2.2.1, w1.2.2.2, w3⟩, w4, w5⟩]
        · rw [if_neg w3, b2i_neg (fun r => w3 r.1.2.2.2.2), Int.add_zero]
      · rw [b2i_neg w1, if_pos rfl, b2i_neg (fun r => w1 ⟨r.1.1, r.1.2.1, r.1.2.2.1, r.1.2.2.2.1⟩), Int.add_zero]) (V 13 0).toNat 0 0 (by omega) (by omega) rfl
    try dsimp only at e
    rw [e, zb_X12_left_1]
    simp only [hE.1, hΛ2, hE.2.1.1]
    rw [if_neg (by omega), hI]

end
