/-! ===== names: the reference ===== -/
theorem wr4 {m : zM} {i v a k : Int} (h : a ≠ 114) : z_wr m 114 i v a k = m a k := z_wr_ne (Or.inl h)
theorem ladd_id {a b : Int} (h : -9223372036854775808 ≤ a + b) (h2 : a + b < 9223372036854775808) : z_ladd a b = a + b := z_w64_id h h2
theorem la114 : zLa 114 = 10 := rfl
section
variable {M V m : zM}
theorem e_X12_noNames (h : mOk M V) {t : Int} (t0 : 0 ≤ t) (t1 : t < V 7 0) : ∃ M', zm_X12_noNames zLa [zA 12 84, zI t] M = some ([], M') ∧ fA 114 M M' ∧ M' 114 0 = V 9 t ∧ ∀ j, 1 ≤ j → j < 10 → M' 114 j = 0 := by
  have hN := h.2.2.1
  have hΛ := zLo_ok
  obtain ⟨M1, e, hf, hz⟩ := lp_ex (fun i (m : zM) => z_ev (zcd_X12_noNames zLa) 1 [zA 12 84, zI t, zI i] [] m) (fun i m => fA 114 M m ∧ ∀ j, 0 ≤ j → j < i → m 114 j = 0) (n := 10) 0 (fun i m hi0 hi1 ⟨hf, hz⟩ => by
    have hR := (h.sm hf.sm4).1
    refine ⟨z_wr m 114 i 0, ?_, hf.tr fA.wr, fun j a b => ?_⟩
    · rw [zb_X12_noNames_1, lr_62 hR, la114, if_pos hi1, if_pos (by omega), z_lt_eq, z_w32_id (by omega) (by omega)]
    · rcases (by omega : j < i ∨ j = i) with r | r
      · rw [z_wr_ne (Or.inr (by omega))]; exact hz j a r
      · subst r; exact z_wr_eq _ _ _ _) (s := M) (by omega) ⟨fA.rf 114 M, fun j a b => absurd b (by omega)⟩
  try dsimp only at e
  have hm1 := h.sm hf.sm4
  have hR := hm1.1
  have hEt := hm1.2.1.2.2.1 t t0 t1
  refine ⟨z_wr M1 114 0 (V 9 t), ?_, hf.tr fA.wr, z_wr_eq _ _ _ _, fun j a b => ?_⟩
  · rw [zr_X12_noNames]
    refine z_out_some ?_
    rw [zb_X12_noNames_0, e, zb_X12_noNames_1, if_neg (by decide)]
    simp only [hR, hΛ]
    simp only [hEt]
    rw [if_pos (by omega), if_pos (by decide), z_lt_eq]
  · rw [z_wr_ne (Or.inr (by omega))]; exact hz j (by omega) b
theorem e_X12_offUpTo (h : mOk M V) {t u : Int} (t0 : 0 ≤ t) (t1 : t < V 7 0) (hu : V 10 t ≤ u) (hu2 : u ≤ 199) : zm_X12_offUpTo zLa [zA 12 84, zI t, zI u] M = some ([zI (sLo V t u - V 10 t + 1)], M) := by
  have hr := sLo_rng h.2.2 t0 t1 hu hu2
  have ht := h.2.2.2.2.1 t t0 t1
  have hR := h.1
  have hΛ := zLo_ok
  have hN := h.2.2.1
  have hEt := h.2.1.2.2.1 t t0 t1
  rw [zr_X12_offUpTo]
  refine z_out_some ?_
  rw [zb_X12_offUpTo_0, e_X12_latestOff h t0 t1, z_bI_mk]
  simp only [hR, hΛ]
  simp only [hEt]
  rw [if_pos (by omega), z_sub_id (by omega) (by omega), z_add_id (by omega) (by omega), if_neg (by omega)]
/-- an ask counts -/
theorem r_ask (h : mOk m V) {i : Int} (i0 : 0 ≤ i) (i1 : i < V 13 0) (r3 : 0 ≤ m 114 3 ∧ m 114 3 < 1000) (r4 : 0 ≤ m 114 4 ∧ m 114 4 < 1000) (K : zM → Option zRs) : ∃ m', (if 0 ≤ (3:Int) ∧ (3:Int) < zLa (m 84 62) then if 0 ≤ (3:Int) ∧ (3:Int) < zLa (m 84 62) then z_lt (z_wr m (m 84 62) (3:Int) (z_ladd (m (m 84 62) (3:Int)) (1:Int))) (fun M3 => if 0 ≤ (4:Int) ∧ (4:Int) < zLa (M3 84 62) then if 0 ≤ i ∧ i < zLa (M3 84 35) then if (M3 (M3 84 35) i) < 0 then if 0 ≤ (4:Int) ∧ (4:Int) < zLa (M3 84 62) then z_lt (z_wr M3 (M3 84 62) (4:Int) (z_ladd (M3 (M3 84 62) (4:Int)) (0:Int))) (fun M4 => K M4) else none else if 0 ≤ (4:Int) ∧ (4:Int) < zLa (M3 84 62) then z_lt (z_wr M3 (M3 84 62) (4:Int) (z_ladd (M3 (M3 84 62) (4:Int)) (1:Int))) (fun M5 => K M5) else none else none else none) else none else none) = K m' ∧ fA 114 m m' ∧ m' 114 3 = m 114 3 + 1 ∧ m' 114 4 = m 114 4 + b2i (V 18 i ≠ -1) ∧ ∀ j, j ≠ 3 → j ≠ 4 → m' 114 j = m 114 j := by
  have hR := h.1
  have hΛ := zLo_ok
  have hE := h.2.1.2.2.2.1 i i0 i1
  have hN := h.2.2.1
  have hl := h.2.2.2.2.2.1 i i0 i1
  simp only [z_lt_eq, hR]
  simp (disch := decide) only [wr4, hR]
  simp only [hΛ, hE]
  rw [if_pos (by decide), if_pos (by decide), if_pos (by decide), if_pos (by omega), z_wr_ne (M := m) (b := 114) (Or.inr (by decide)), ladd_id (by omega) (by omega)]
  by_cases q : V 18 i < 0
  · rw [if_pos q, if_pos (by decide), ladd_id (by omega) (by omega)]
    exact ⟨_, rfl, fA.wr.tr fA.wr, by rw [z_wr_ne (Or.inr (by decide)), z_wr_eq], by rw [z_wr_eq, b2i_neg (by omega)], fun j a b => by rw [z_wr_ne (Or.inr b), z_wr_ne (Or.inr a)]⟩
  · rw [if_neg q, if_pos (by decide), ladd_id (by omega) (by omega)]
    exact ⟨_, rfl, fA.wr.tr fA.wr, by rw [z_wr_ne (Or.inr (by decide)), z_wr_eq], by rw [z_wr_eq, b2i_pos (by omega)], fun j a b => by rw [z_wr_ne (Or.inr b), z_wr_ne (Or.inr a)]⟩
abbrev sI1 (V : zM) (k t x : Int) : Prop := sHe V k ∧ V 15 k = t ∧ (x = 0 ∨ sTp V k)
theorem e_X12_isIn1 (h : mOk M V) (k t x : Int) : zm_X12_isIn1 zLa [zA 12 84, zI k, zI t, zI x] M = some ([zI (b2i (sI1 V k t x))], M) := by
  have h1 := e_X12_isHeard h k
  have h2 := fun a b => e_X12_isTaped h (k := k) a b
  obtain ⟨hR, hE, hN, hT, hS, hl, hm, hp⟩ := h
  have hΛ := zLo_ok
  rw [zr_X12_isIn1]
  refine z_out_some ?_
  rw [zb_X12_isIn1_0, h1, z_bI_mk]
  rcases Classical.em (sHe V k) with q | q
  case inr => rw [b2i_neg q, if_pos rfl, b2i_neg (fun r => q r.1)]
  have mk := hE.2.2.2.1 k q.1 q.2.1
  rw [b2i_pos q, if_neg (by decide), h2 q.1 q.2.1, z_bI_mk]
  simp only [hR, hΛ]
  simp only [mk]
  rw [if_pos (by omega)]
  by_cases q1 : V 15 k = t
  case neg => rw [if_neg q1, b2i_neg (fun r => q1 r.2.1)]
  rw [if_pos q1]
  by_cases q2 : x = 0
  · rw [if_pos q2, b2i_pos ⟨q, q1, Or.inl q2⟩]
  rw [if_neg q2]
  rcases Classical.em (sTp V k) with q3 | q3
  · rw [b2i_pos q3, if_neg (by decide), b2i_pos ⟨q, q1, Or.inr q3⟩]
  · rw [b2i_neg q3, if_pos rfl, b2i_neg (fun r => by rcases r.2.2 with s | s; exact q2 s; exact q3 s)]
abbrev hFr (V : zM) (t x s : Int) : Prop := ∀ i, 0 ≤ i → i < V 13 0 → V 15 i = t → ((x = 0 ∨ sTp V i) ↔ s ≤ V 16 i)
theorem e_X12_isFirstIn (h : mOk M V) {k t x s : Int} (hs : hFr V t x s) (h0 : 0 ≤ k) (h1 : k < V 13 0) (h2 : V 16 k ≤ V 0 9) (ht : V 15 k = t) : zm_X12_isFirstIn zLa [zA 12 84, zI k, zI t, zI x] M = some ([zI (b2i (pFi V s k))], M) := by
  have hh := e_X12_isIn1 h
  obtain ⟨hR, hE, hN, hT, hS, hl, hm, hp⟩ := h
  have hΛ := zLo_ok
  have mk := hE.2.2.2.1 k h0 h1
  rw [zr_X12_isFirstIn]
  refine z_out_some ?_
  rw [zb_X12_isFirstIn_0]
  have hf := lp_find (fun i => z_ev (zcd_X12_isFirstIn zLa) 1 [zA 12 84, zI k, zI t, zI x, zI i] [] M) (fun i => sI1 V i t x ∧ V 14 i ≠ 0 ∧ V 17 i = V 17 k) (n := k) (by omega) (A := fun i => some (.inl ([zI 0], M))) (B := some (.inl ([zI 1], M))) (fun i a b hq => by
      have mi := hE.2.2.2.1 i a (by omega)
      rw [zb_X12_isFirstIn_1, hh, z_bI_mk, b2i_pos hq.1]
      simp only [hR, hΛ]
      simp only [mk, mi]
      rw [if_pos b, if_neg (by decide), if_pos (by omega), if_neg hq.2.1, if_pos (by omega), if_pos (by omega), if_pos hq.2.2]) (fun i a b hq => by
      have mi := hE.2.2.2.1 i a (by omega)
      rw [zb_X12_isFirstIn_1, hh, z_bI_mk, if_pos b, z_w32_id (by omega) (by omega)]
      rcases Classical.em (sI1 V i t x) with q | q
      case inr => rw [b2i_neg q, if_pos rfl]
      rw [b2i_pos q, if_neg (by decide)]
      simp only [hR, hΛ]
      simp only [mk, mi]
      rw [if_pos (by omega)]
      by_cases q1 : V 14 i = 0
      · rw [if_pos q1]
      rw [if_neg q1, if_pos (by omega), if_pos (by omega), if_neg (fun r => hq ⟨q, q1, r⟩)]) (by
      rw [zb_X12_isFirstIn_1, if_neg (by omega)])
  have hsp := fst_spec (fun i => sI1 V i t x ∧ V 14 i ≠ 0 ∧ V 17 i = V 17 k) (n := k) (by omega)
  rcases hsp with ⟨a, b⟩ | ⟨a, b, d, -⟩
  · rw [hf.1 a, b2i_pos (fun i q1 q2 q3 => b i q1 q2 ⟨⟨⟨q1, by omega, v_ahead hm q1 q2 h1 h2 q3.2.1.1⟩, q3.2.1.1.trans ht, (hs i q1 (by omega) (q3.2.1.1.trans ht)).mpr q3.2.2⟩, q3.1, q3.2.1.2⟩)]
  · rw [hf.2 (by omega), b2i_neg (fun q => q _ a b ⟨d.2.1, ⟨d.1.2.1.trans ht.symm, d.2.2⟩, (hs _ a (by omega) d.1.2.1).mp d.1.2.2⟩)]
theorem sI1_pT {k t x s : Int} (hs : hFr V t x s) (h0 : 0 ≤ k) (h1 : k < V 13 0) : sI1 V k t x ↔ pT V t s k :=
  ⟨fun r => ⟨r.2.1, (hs k h0 h1 r.2.1).mp r.2.2, r.1⟩, fun r => ⟨r.2.2, r.1, (hs k h0 h1 r.1).mpr r.2.1⟩⟩
/-- a first word counts -/
theorem r_fst (h : mOk m V) {i t x y : Int} (i0 : 0 ≤ i) (i1 : i < V 13 0) (hi : V 16 i ≤ V 0 9) (hy : y = 5 ∨ y = 6) (ry : 0 ≤ m 114 y ∧ m 114 y < 1000) (r7 : 0 ≤ m 114 7 ∧ m 114 7 < 1000) : ∃ m', z_ev (zcd_X12_namesByTalk zLa) 2 [zA 12 84, zI t, zI x, zI i] [zI y, zA 15 114] m = z_ev (zcd_X12_namesByTalk zLa) 1 [zA 12 84, zI t, zI x, zI (i + 1)] [] m' ∧ fA 114 m m' ∧ m' 114 y = m 114 y + 1 ∧ m' 114 7 = m 114 7 + b2i (sNew V i) ∧ ∀ j, j ≠ y → j ≠ 7 → m' 114 j = m 114 j := by
  have hR := h.1
  have hN := h.2.2.1
  have hy2 : 0 ≤ y ∧ y < 10 := by omega
  have hf : fA 114 m (z_wr m 114 y (m 114 y + 1)) := fA.wr
  have h' := h.sm hf.sm4
  have hR' := h'.1
  rw [zb_X12_namesByTalk_2, la114, if_pos hy2, if_pos hy2, z_lt_eq, ladd_id (by omega) (by omega), lr_62 hR', la114, if_pos (by decide), e_X12_whatIs h' i0 i1 hi, z_bI_mk, z_w32_id (by omega) (by omega)]
  simp only [z_lt_eq]
  rw [z_wr_ne (M := m) (b := 114) (Or.inr (by omega))]
  rcases Classical.em (sNew V i) with q | q
  · rw [if_neg (fun r => (sBits_new V i).mp r q), if_pos (by decide), ladd_id (by omega) (by omega), b2i_pos q]
    exact ⟨_, rfl, hf.tr fA.wr, by rw [z_wr_ne (Or.inr (by omega)), z_wr_eq], z_wr_eq _ _ _ _, fun j a b => by rw [z_wr_ne (Or.inr b), z_wr_ne (Or.inr a)]⟩
  · rw [if_pos ((sBits_new V i).mpr q), if_pos (by decide), ladd_id (by omega) (by omega), b2i_neg q]
    exact ⟨_, rfl, hf.tr fA.wr, by rw [z_wr_ne (Or.inr (by omega)), z_wr_eq], z_wr_eq _ _ _ _, fun j a b => by rw [z_wr_ne (Or.inr b), z_wr_ne (Or.inr a)]⟩
theorem e_X12_namesByTalk (h : mOk M V) {t x s : Int} (hs : hFr V t x s) (t0 : 0 ≤ t) (t1 : t < V 7 0) : ∃ M', zm_X12_namesByTalk zLa [zA 12 84, zI t, zI x] M = some ([], M') ∧ fA 114 M M' ∧ k5 V t s 114 M' (V 13 0) ∧ M' 114 0 = V 9 t ∧ ∀ j, j = 1 ∨ j = 2 ∨ (8 ≤ j ∧ j < 10) → M' 114 j = 0 := by
  have hN := h.2.2.1
  have hΛ := zLo_ok
  obtain ⟨M0, e0, hf0, h00, h0z⟩ := e_X12_noNames h t0 t1
  obtain ⟨M1, e, hf1, hk1, ho1⟩ := lp_ex (fun i (m : zM) => z_ev (zcd_X12_namesByTalk zLa) 1 [zA 12 84, zI t, zI x, zI i] [] m) (fun i m => fA 114 M m ∧ k5 V t s 114 m i ∧ ∀ j, j < 3 ∨ 8 ≤ j → m 114 j = M0 114 j) (n := V 13 0) 0 (fun i m hi0 hi1 ⟨hf, hk, ho⟩ => by
    have hm := h.sm hf.sm4
    have hR := hm.1
    have hE := hm.2.1.1
    have mi := hm.2.1.2.2.2.1 i hi0 hi1
    have c3 := cnt_rng (p3 V t s) hi0
    have c4 := cnt_rng (p4 V t s) hi0
    have c5 := cnt_rng (p5 V t s) hi0
    have c6 := cnt_rng (p6 V t s) hi0
    have c7 := cnt_rng (p7 V t s) hi0
    obtain ⟨k3, k4, k55, k6, k7⟩ := id hk
    rw [zb_X12_namesByTalk_1, e_X12_isIn1 hm, z_bI_mk, hE.2.2.1, if_pos hi1, z_w32_id (n := i + 1) (by omega) (by omega)]
    rcases Classical.em (sI1 V i t x) with q1 | q1
    case inr =>
      rw [b2i_neg q1, if_pos rfl]
      exact ⟨m, rfl, hf, k5_no hi0 hk (fun r => q1 ((sI1_pT hs hi0 hi1).mpr r.1)) (fun r => q1 ((sI1_pT hs hi0 hi1).mpr r.1)), ho⟩
    have hT := (sI1_pT hs hi0 hi1).mp q1
    rw [b2i_pos q1, if_neg (by decide), lr_31 hR, mi.1, la_97, if_pos (by omega)]
    by_cases q4 : V 14 i = 0
    · rw [if_pos q4]
      obtain ⟨m', e', hf', h3', h4', ho'⟩ := r_ask hm hi0 hi1 (by omega) (by omega) (fun M => z_ev (zcd_X12_namesByTalk zLa) 1 [zA 12 84, zI t, zI x, zI (i + 1)] [] M)
      exact ⟨m', e', hf.tr hf', k5_ask hi0 hk ⟨hT, q4⟩ h3' h4' ho', fun j a => (ho' j (by omega) (by omega)).trans (ho j a)⟩
    rw [if_neg q4, e_X12_isFirstIn hm hs hi0 hi1 q1.1.2.2 q1.2.1, z_bI_mk]
    rcases Classical.em (pFi V s i) with q5 | q5
    case inr =>
      rw [b2i_neg q5, if_pos rfl]
      exact ⟨m, rfl, hf, k5_no hi0 hk (fun r => q4 r.2) (fun r => q5 r.2.2), ho⟩
    rw [b2i_pos q5, if_neg (by decide), e_X12_isRight hm hi0 hi1, z_bI_mk, lr_62 hR]
    rcases Classical.em (sRi V i) with q6 | q6
    · obtain ⟨m', e', hf', h5', h7', ho'⟩ := r_fst (t := t) (x := x) hm hi0 hi1 q1.1.2.2 (Or.inl rfl) (by omega) (by omega)
      rw [b2i_pos q6, if_neg (by decide), e']
      exact ⟨m', rfl, hf.tr hf', k5_fst hi0 hk ⟨hT, q4, q5⟩ (by rw [b2i_pos q6]; exact h5') (by rw [b2i_neg (fun r => r q6), Int.add_zero]; exact ho' 6 (by decide) (by decide)) h7' (fun j a b d => ho' j a d), fun j a => (ho' j (by omega) (by omega)).trans (ho j a)⟩
    · obtain ⟨m', e', hf', h5', h7', ho'⟩ := r_fst (t := t) (x := x) hm hi0 hi1 q1.1.2.2 (Or.inr rfl) (by omega) (by omega)
      rw [b2i_neg q6, if_pos rfl, e']
      exact ⟨m', rfl, hf.tr hf', k5_fst hi0 hk ⟨hT, q4, q5⟩ (by rw [b2i_neg q6, Int.add_zero]; exact ho' 5 (by decide) (by decide)) (by rw [b2i_pos (p := ¬ sRi V i) q6]; exact h5') h7' (fun j a b d => ho' j b d), fun j a => (ho' j (by omega) (by omega)).trans (ho j a)⟩) (s := M0) (by omega) ⟨hf0, ⟨h0z 3 (by decide) (by decide), h0z 4 (by decide) (by decide), h0z 5 (by decide) (by decide), h0z 6 (by decide) (by decide), h0z 7 (by decide) (by decide)⟩, fun _ _ => rfl⟩
  try dsimp only at e
  have hE1 := (h.sm hf1.sm4).2.1.1
  refine ⟨M1, ?_, hf1, hk1, (ho1 0 (by decide)).trans h00, fun j a => (ho1 j (by omega)).trans (h0z j (by omega) (by omega))⟩
  rw [zr_X12_namesByTalk]
  refine z_out_some ?_
  rw [zb_X12_namesByTalk_0, e0, z_bV_mk, e, zb_X12_namesByTalk_1, hE1.2.2.1, if_neg (by omega)]
theorem e_X12_namesByBoth (h : mOk M V) {t : Int} (t0 : 0 ≤ t) (t1 : t < V 7 0) : ∃ M', zm_X12_namesByBoth zLa [zA 12 84, zI t] M = some ([], M') ∧ fA 114 M M' ∧ ∀ j, 0 ≤ j → j < 10 → M' 114 j = nT V t j := by
  have hN := h.2.2.1
  have hΛ := zLo_ok
  have hst := h.2.2.2.2.1 t t0 t1
  have hr := sLo_rng h.2.2 (t := t) (u := V 11 t) t0 t1 (by omega) (by omega)
  have hs : hFr V t 0 0 := fun i i0 i1 ht => ⟨fun _ => by have h1 := h.2.2.2.2.2.1 i i0 i1; have h2 := h.2.2.2.2.1 (V 15 i) (by omega) (by omega); omega, fun _ => Or.inl rfl⟩
  obtain ⟨M1, e1, hf1, hk1, h10, h1z⟩ := e_X12_namesByTalk h hs t0 t1
  have hm1 := h.sm hf1.sm4
  have hE1 := hm1.2.1.2.2.1 t t0 t1
  have hf2 : fA 114 M (z_wr M1 114 1 (V 11 t - V 10 t)) := hf1.tr fA.wr
  have hm2 := h.sm hf2.sm4
  have hE2 := hm2.2.1.2.2.1 t t0 t1
  have hf3 : fA 114 M (z_wr (z_wr M1 114 1 (V 11 t - V 10 t)) 114 2 (sLo V t (V 11 t) - V 10 t + 1)) := hf2.tr fA.wr
  generalize hM3 : z_wr (z_wr M1 114 1 (V 11 t - V 10 t)) 114 2 (sLo V t (V 11 t) - V 10 t + 1) = M3 at hf3
  have g1 : M3 114 1 = V 11 t - V 10 t := by rw [← hM3, z_wr_ne (Or.inr (by decide)), z_wr_eq]
  have g2 : M3 114 2 = sLo V t (V 11 t) - V 10 t + 1 := by rw [← hM3, z_wr_eq]
  have go : ∀ j, j ≠ 1 → j ≠ 2 → M3 114 j = M1 114 j := fun j a b => by rw [← hM3, z_wr_ne (Or.inr b), z_wr_ne (Or.inr a)]
  obtain ⟨M6, e6, hf6, h68, h69, h6o⟩ := lp_ex (fun i (m : zM) => z_ev (zcd_X12_namesByBoth zLa) 1 [zA 12 84, zI t, zI i] [] m) (fun i m => fA 114 M3 m ∧ m 114 8 = cnt (fun g => V 20 g = t ∧ 2 ≤ sPg V g) i ∧ m 114 9 = cnt (fun g => V 20 g = t) i ∧ ∀ j, j ≠ 8 → j ≠ 9 → m 114 j = M3 114 j) (n := V 19 0) 0 (fun i m hi0 hi1 ⟨hf, h8, h9, ho⟩ => by
    have hff := hf3.tr hf
    have hm := h.sm hff.sm4
    have hR := hm.1
    have hE := hm.2.1.1
    have mi := hm.2.1.2.2.2.2 i hi0 hi1
    have c8 := cnt_rng (fun g => V 20 g = t ∧ 2 ≤ sPg V g) hi0
    have s8 := cnt_s (fun g => V 20 g = t ∧ 2 ≤ sPg V g) hi0
    have c9 := cnt_rng (fun g => V 20 g = t) hi0
    have s9 := cnt_s (fun g => V 20 g = t) hi0
    rw [zb_X12_namesByBoth_1, hE.2.2.2.1, if_pos hi1, e_X12_pageIs hm hi0 hi1, z_bI_mk, z_w32_id (n := i + 1) (by omega) (by omega)]
    simp only [z_lt_eq, hR]
    simp (disch := decide) only [wr4, hR]
    simp only [hΛ, mi]
    rw [if_pos (by omega)]
    by_cases q1 : V 20 i = t
    case neg =>
      rw [if_neg q1]
      rw [b2i_neg (fun r => q1 r.1)] at s8
      rw [b2i_neg q1] at s9
      exact ⟨m, rfl, hf, by omega, by omega, ho⟩
    rw [b2i_pos q1] at s9
    rw [if_pos q1]
    by_cases q2 : sPg V i ≤ 1
    · rw [b2i_neg (fun r => by have := r.2; omega)] at s8
      rw [if_pos q2]
      refine ⟨z_wr (z_wr m 114 8 (m 114 8 + 0)) 114 9 (m 114 9 + 1), ?_, hf.tr (fA.wr.tr fA.wr), by rw [z_wr_ne (Or.inr (by decide)), z_wr_eq]; omega, by rw [z_wr_eq]; omega, fun j a b => by rw [z_wr_ne (Or.inr b), z_wr_ne (Or.inr a)]; exact ho j a b⟩
      rw [if_pos (by decide), if_pos (by decide), if_pos (by decide), if_pos (by decide), z_wr_ne (M := m) (b := 114) (Or.inr (by decide)), ladd_id (a := m 114 8) (by omega) (by omega), ladd_id (a := m 114 9) (by omega) (by omega)]
    · rw [b2i_pos ⟨q1, by omega⟩] at s8
      rw [if_neg q2]
      refine ⟨z_wr (z_wr m 114 8 (m 114 8 + 1)) 114 9 (m 114 9 + 1), ?_, hf.tr (fA.wr.tr fA.wr), by rw [z_wr_ne (Or.inr (by decide)), z_wr_eq]; omega, by rw [z_wr_eq]; omega, fun j a b => by rw [z_wr_ne (Or.inr b), z_wr_ne (Or.inr a)]; exact ho j a b⟩
      rw [if_pos (by decide), if_pos (by decide), if_pos (by decide), if_pos (by decide), z_wr_ne (M := m) (b := 114) (Or.inr (by decide)), ladd_id (a := m 114 8) (by omega) (by omega), ladd_id (a := m 114 9) (by omega) (by omega)]) (s := M3) (by omega) ⟨fA.rf 114 M3, by rw [go 8 (by decide) (by decide), h1z 8 (by decide)]; rfl, by rw [go 9 (by decide) (by decide), h1z 9 (by decide)]; rfl, fun _ _ _ => rfl⟩
  try dsimp only at e6
  have hE6 := (h.sm (hf3.tr hf6).sm4).2.1.1
  refine ⟨M6, ?_, hf3.tr hf6, fun j a b => ?_⟩
  · have hR1 := hm1.1
    have hR2 := hm2.1
    rw [zr_X12_namesByBoth]
    refine z_out_some ?_
    rw [zb_X12_namesByBoth_0, e1, z_bV_mk]
    simp only [hR1, z_lt_eq]
    simp only [hΛ, hE1]
    rw [if_pos (by omega), if_pos (by omega), if_pos (by decide), z_sub_id (a := V 11 t) (by omega) (by omega)]
    simp only [hR2]
    simp only [hΛ, hE2]
    rw [if_pos (by omega), e_X12_offUpTo hm2 t0 t1 (by omega) (by omega), z_bI_mk, if_pos (by decide), hM3, e6, zb_X12_namesByBoth_1, hE6.2.2.2.1, if_neg (by omega)]
  · rcases (by omega : j = 0 ∨ j = 1 ∨ j = 2 ∨ j = 3 ∨ j = 4 ∨ j = 5 ∨ j = 6 ∨ j = 7 ∨ j = 8 ∨ j = 9) with r | r | r | r | r | r | r | r | r | r
    · subst r; rw [h6o 0 (by decide) (by decide), go 0 (by decide) (by decide), h10]; rfl
    · subst r; rw [h6o 1 (by decide) (by decide), g1]; rfl
    · subst r; rw [h6o 2 (by decide) (by decide), g2]; rfl
    · subst r; rw [h6o 3 (by decide) (by decide), go 3 (by decide) (by decide), hk1.1]; rfl
    · subst r; rw [h6o 4 (by decide) (by decide), go 4 (by decide) (by decide), hk1.2.1]; rfl
    · subst r; rw [h6o 5 (by decide) (by decide), go 5 (by decide) (by decide), hk1.2.2.1]; rfl
    · subst r; rw [h6o 6 (by decide) (by decide), go 6 (by decide) (by decide), hk1.2.2.2.1]; rfl
    · subst r; rw [h6o 7 (by decide) (by decide), go 7 (by decide) (by decide), hk1.2.2.2.2]; rfl
    · subst r; rw [h68]; rfl
    · subst r; rw [h69]; rfl
theorem e_X12_namesByPage (h : mOk M V) {t : Int} (t0 : 0 ≤ t) (t1 : t < V 7 0) : ∃ M', zm_X12_namesByPage zLa [zA 12 84, zI t] M = some ([], M') ∧ fA 114 M M' ∧ ∀ j, 0 ≤ j → j < 10 → M' 114 j = nP V t j := by
  have hN := h.2.2.1
  have hΛ := zLo_ok
  have hp := h.2.2.2.2.2.2.2
  obtain ⟨M2, e1, hf2, g0, gz⟩ := e_X12_noNames h t0 t1
  obtain ⟨M6, e6, hf6, h65, h66, h69, h6o⟩ := lp_ex (fun i (m : zM) => z_ev (zcd_X12_namesByPage zLa) 1 [zA 12 84, zI t, zI i] [] m) (fun i m => fA 114 M2 m ∧ m 114 5 = cnt (fun g => sPf V g t ∧ V 22 g = V 4 (V 21 g)) i ∧ m 114 6 = cnt (fun g => sPf V g t ∧ ¬ V 22 g = V 4 (V 21 g)) i ∧ m 114 9 = cnt (fun g => V 20 g = t) i ∧ ∀ j, j ≠ 5 → j ≠ 6 → j ≠ 9 → m 114 j = M2 114 j) (n := V 19 0) 0 (fun i m hi0 hi1 ⟨hf, h5, h6, h9, ho⟩ => by
    have hff := hf2.tr hf
    have hm := h.sm hff.sm4
    have hR := hm.1
    have hE := hm.2.1.1
    have hpi := hp i hi0 hi1
    have c5 := cnt_rng (fun g => sPf V g t ∧ V 22 g = V 4 (V 21 g)) hi0
    have s5 := cnt_s (fun g => sPf V g t ∧ V 22 g = V 4 (V 21 g)) hi0
    have c6 := cnt_rng (fun g => sPf V g t ∧ ¬ V 22 g = V 4 (V 21 g)) hi0
    have s6 := cnt_s (fun g => sPf V g t ∧ ¬ V 22 g = V 4 (V 21 g)) hi0
    have c9 := cnt_rng (fun g => V 20 g = t) hi0
    have s9 := cnt_s (fun g => V 20 g = t) hi0
    have mi := hm.2.1.2.2.2.2 i hi0 hi1
    rw [zb_X12_namesByPage_1, hE.2.2.2.1, if_pos hi1, z_w32_id (n := i + 1) (by omega) (by omega)]
    simp only [z_lt_eq, hR]
    simp only [hΛ, mi]
    rw [if_pos (by omega)]
    by_cases q0 : V 20 i = t
    case neg =>
      rw [if_neg q0]
      rw [b2i_neg (fun r => q0 r.1.1)] at s5 s6
      rw [b2i_neg q0] at s9
      exact ⟨m, rfl, hf, by omega, by omega, by omega, ho⟩
    rw [b2i_pos q0] at s9
    rw [if_pos q0, if_pos (by decide), if_pos (by decide), ladd_id (a := m 114 9) (by omega) (by omega)]
    have hf' : fA 114 M (z_wr m 114 9 (m 114 9 + 1)) := hff.tr fA.wr
    have hm' := h.sm hf'.sm4
    have hR' := hm'.1
    have mi' := hm'.2.1.2.2.2.2 i hi0 hi1
    have mt' := hm'.2.1.2.1 (V 21 i) (by omega) (by omega)
    rw [e_X12_isFirstLine hm' hi0 hi1, z_bI_mk]
    rcases Classical.em (∀ j, 0 ≤ j → j < i → ¬ (V 20 j = V 20 i ∧ V 21 j = V 21 i)) with q1 | q1
    case inr =>
      rw [b2i_neg q1, if_pos rfl]
      have q1' : ¬ sPf V i t := fun r => q1 (fun j a b => by rw [q0]; exact r.2 j a b)
      rw [b2i_neg (fun r => q1' r.1)] at s5 s6
      exact ⟨_, rfl, hf.tr fA.wr, by rw [z_wr_ne (Or.inr (by decide))]; omega, by rw [z_wr_ne (Or.inr (by decide))]; omega, by rw [z_wr_eq]; omega, fun j a b d => by rw [z_wr_ne (Or.inr d)]; exact ho j a b d⟩
    have q1' : sPf V i t := ⟨q0, fun j a b => by have := q1 j a b; rw [q0] at this; exact this⟩
    rw [b2i_pos q1, if_neg (by decide)]
    simp only [hR']
    simp only [hΛ, mi', mt']
    rw [if_pos (by omega), if_pos (by omega), if_pos (by omega)]
    by_cases q2 : V 22 i = V 4 (V 21 i)
    · rw [b2i_pos ⟨q1', q2⟩] at s5
      rw [b2i_neg (fun r => r.2 q2)] at s6
      rw [if_pos q2, if_pos (by decide), if_pos (by decide), z_wr_ne (M := m) (b := 114) (Or.inr (by decide)), ladd_id (a := m 114 5) (by omega) (by omega)]
      exact ⟨_, rfl, hf.tr (fA.wr.tr fA.wr), by rw [z_wr_eq]; omega, by rw [z_wr_ne (Or.inr (by decide)), z_wr_ne (Or.inr (by decide))]; omega, by rw [z_wr_ne (Or.inr (by decide)), z_wr_eq]; omega, fun j a b d => by rw [z_wr_ne (Or.inr a), z_wr_ne (Or.inr d)]; exact ho j a b d⟩
    · rw [b2i_neg (fun r => q2 r.2)] at s5
      rw [b2i_pos ⟨q1', q2⟩] at s6
      rw [if_neg q2, if_pos (by decide), if_pos (by decide), z_wr_ne (M := m) (b := 114) (Or.inr (by decide)), ladd_id (a := m 114 6) (by omega) (by omega)]
      exact ⟨_, rfl, hf.tr (fA.wr.tr fA.wr), by rw [z_wr_ne (Or.inr (by decide)), z_wr_ne (Or.inr (by decide))]; omega, by rw [z_wr_eq]; omega, by rw [z_wr_ne (Or.inr (by decide)), z_wr_eq]; omega, fun j a b d => by rw [z_wr_ne (Or.inr b), z_wr_ne (Or.inr d)]; exact ho j a b d⟩) (s := M2) (by omega) ⟨fA.rf 114 M2, gz 5 (by decide) (by decide), gz 6 (by decide) (by decide), gz 9 (by decide) (by decide), fun _ _ _ _ => rfl⟩
  try dsimp only at e6
  have hE6 := (h.sm (hf2.tr hf6).sm4).2.1.1
  refine ⟨M6, ?_, hf2.tr hf6, fun j a b => ?_⟩
  · rw [zr_X12_namesByPage]
    refine z_out_some ?_
    rw [zb_X12_namesByPage_0, e1, z_bV_mk, e6, zb_X12_namesByPage_1, hE6.2.2.2.1, if_neg (by omega)]
  · unfold nP
    rcases (by omega : j = 0 ∨ j = 5 ∨ j = 6 ∨ j = 9 ∨ (1 ≤ j ∧ j < 9 ∧ j ≠ 5 ∧ j ≠ 6)) with r | r | r | r | r
    · subst r; rw [h6o 0 (by decide) (by decide) (by decide), g0]; rfl
    · subst r; rw [h65]; rfl
    · subst r; rw [h66]; rfl
    · subst r; rw [h69]; rfl
    · rw [if_neg (by omega), if_neg (by omega), if_neg (by omega), if_neg (by omega), h6o j (by omega) (by omega) (by omega), gz j (by omega) (by omega)]
/-- the tape alone -/
theorem r_tape (h : mOk M V) {t : Int} (t0 : 0 ≤ t) (t1 : t < V 7 0) : ∃ M', zm_X12_namesByTalk zLa [zA 12 84, zI t, zI 1] M = some ([], M') ∧ fA 114 M M' ∧ ∀ j, 0 ≤ j → j < 10 → j ≠ 1 → M' 114 j = nTp V t j := by
  have hN := h.2.2.1
  have hst := h.2.2.2.2.1 t t0 t1
  by_cases q : V 12 t = -1
  · have hs : hFr V t 1 200 := fun i i0 i1 ht => by
      have h1 := h.2.2.2.2.2.1 i i0 i1
      have h2 := h.2.2.2.2.1 (V 15 i) (by omega) (by omega)
      constructor
      · rintro (r | r)
        · omega
        · exact absurd q (by rw [← ht]; exact r.1)
      · intro r; omega
    obtain ⟨M1, e1, hf1, hk1, h10, h1z⟩ := e_X12_namesByTalk h hs t0 t1
    have z : ∀ P : Int → Prop, (∀ i, P i → pT V t 200 i) → cnt P (V 13 0) = 0 := fun P hP => by
      have e : cnt P (V 13 0) = cnt (fun _ => False) (V 13 0) := cnt_congr (fun k a b => ⟨fun r => by
        have h1 := h.2.2.2.2.2.1 k a b
        have h2 := h.2.2.2.2.1 (V 15 k) (by omega) (by omega)
        have h3 := hP k r
        have := h3.2.1
        omega, fun r => r.elim⟩)
      rw [e]
      exact sm_ind (p := fun n => cnt (fun _ => False) n = 0) rfl (fun n a ih => by rw [cnt_s _ a, ih, b2i_neg (fun r => r)]; rfl) _ (by omega)
    refine ⟨M1, e1, hf1, fun j a b d => ?_⟩
    unfold nTp
    rcases (by omega : j = 0 ∨ j = 3 ∨ j = 4 ∨ j = 5 ∨ j = 6 ∨ j = 7 ∨ j = 2 ∨ 8 ≤ j) with r | r | r | r | r | r | r | r
    · subst r; exact h10
    · subst r; rw [if_neg (by decide), if_pos q, hk1.1]; exact z _ (fun i r => r.1)
    · subst r; rw [if_neg (by decide), if_pos q, hk1.2.1]; exact z _ (fun i r => r.1.1)
    · subst r; rw [if_neg (by decide), if_pos q, hk1.2.2.1]; exact z _ (fun i r => r.1.1)
    · subst r; rw [if_neg (by decide), if_pos q, hk1.2.2.2.1]; exact z _ (fun i r => r.1.1)
    · subst r; rw [if_neg (by decide), if_pos q, hk1.2.2.2.2]; exact z _ (fun i r => r.1.1)
    · rw [if_neg (by omega), if_pos q]; exact h1z j (by omega)
    · rw [if_neg (by omega), if_pos q]; exact h1z j (by omega)
  · have hs : hFr V t 1 (V 12 t) := fun i i0 i1 ht => by
      constructor
      · rintro (r | r)
        · omega
        · have := r.2; rw [ht] at this; exact this
      · intro r; right; exact ⟨by rw [ht]; exact q, by rw [ht]; exact r⟩
    obtain ⟨M1, e1, hf1, hk1, h10, h1z⟩ := e_X12_namesByTalk h hs t0 t1
    refine ⟨M1, e1, hf1, fun j a b d => ?_⟩
    unfold nTp
    rcases (by omega : j = 0 ∨ j = 3 ∨ j = 4 ∨ j = 5 ∨ j = 6 ∨ j = 7 ∨ j = 2 ∨ 8 ≤ j) with r | r | r | r | r | r | r | r
    · subst r; exact h10
    · subst r; rw [if_neg (by decide), if_neg q, hk1.1]; rfl
    · subst r; rw [if_neg (by decide), if_neg q, hk1.2.1]; rfl
    · subst r; rw [if_neg (by decide), if_neg q, hk1.2.2.1]; rfl
    · subst r; rw [if_neg (by decide), if_neg q, hk1.2.2.2.1]; rfl
    · subst r; rw [if_neg (by decide), if_neg q, hk1.2.2.2.2]; rfl
    · subst r; rw [if_neg (by decide), if_neg q]; exact h1z 2 (by omega)
    · rw [if_neg (by omega), if_neg q, if_neg (by omega), if_neg (by omega), if_neg (by omega), if_neg (by omega), if_neg (by omega), if_neg (by omega)]; exact h1z j (by omega)
end
