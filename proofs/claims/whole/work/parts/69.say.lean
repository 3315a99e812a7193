/-! ===== say ===== -/
def addL (V : zM) (y t u w v : Int) : zM := z_wr (z_wr (z_wr (z_wr (z_wr (z_wr V 14 (V 13 0) y) 15 (V 13 0) t) 16 (V 13 0) u) 17 (V 13 0) w) 18 (V 13 0) v) 13 0 (V 13 0 + 1)
section
variable {M V : zM} {c : Int} {y t u w v : Int}
theorem addL_o {o k : Int} (h : o < 13 ∨ 18 < o ∨ (o = 13 ∧ k ≠ 0)) : addL V y t u w v o k = V o k := by
  unfold addL
  rw [z_wr_ne (by omega), z_wr_ne (by omega), z_wr_ne (by omega), z_wr_ne (by omega), z_wr_ne (by omega), z_wr_ne (by omega)]
theorem addL_n : addL V y t u w v 13 0 = V 13 0 + 1 := z_wr_eq _ _ _ _
theorem addL_14 (k : Int) : addL V y t u w v 14 k = if k = V 13 0 then y else V 14 k := by
  unfold addL
  rw [z_wr_ne (by omega), z_wr_ne (by omega), z_wr_ne (by omega), z_wr_ne (by omega), z_wr_ne (by omega)]
  unfold z_wr
  by_cases q : k = V 13 0
  · rw [if_pos q, if_pos ⟨rfl, q⟩]
  · rw [if_neg q, if_neg (fun r => q r.2)]
theorem addL_15 (k : Int) : addL V y t u w v 15 k = if k = V 13 0 then t else V 15 k := by
  unfold addL
  rw [z_wr_ne (by omega), z_wr_ne (by omega), z_wr_ne (by omega), z_wr_ne (by omega)]
  by_cases q : k = V 13 0
  · rw [if_pos q, q, z_wr_eq]
  · rw [if_neg q, z_wr_ne (Or.inr q), z_wr_ne (by omega)]
theorem addL_16 (k : Int) : addL V y t u w v 16 k = if k = V 13 0 then u else V 16 k := by
  unfold addL
  rw [z_wr_ne (by omega), z_wr_ne (by omega), z_wr_ne (by omega)]
  by_cases q : k = V 13 0
  · rw [if_pos q, q, z_wr_eq]
  · rw [if_neg q, z_wr_ne (Or.inr q), z_wr_ne (by omega), z_wr_ne (by omega)]
theorem addL_17 (k : Int) : addL V y t u w v 17 k = if k = V 13 0 then w else V 17 k := by
  unfold addL
  rw [z_wr_ne (by omega), z_wr_ne (by omega)]
  by_cases q : k = V 13 0
  · rw [if_pos q, q, z_wr_eq]
  · rw [if_neg q, z_wr_ne (Or.inr q), z_wr_ne (by omega), z_wr_ne (by omega), z_wr_ne (by omega)]
theorem addL_18 (k : Int) : addL V y t u w v 18 k = if k = V 13 0 then v else V 18 k := by
  unfold addL
  rw [z_wr_ne (by omega)]
  by_cases q : k = V 13 0
  · rw [if_pos q, q, z_wr_eq]
  · rw [if_neg q, z_wr_ne (Or.inr q), z_wr_ne (by omega), z_wr_ne (by omega), z_wr_ne (by omega), z_wr_ne (by omega)]
theorem sLh_le (hv : vOk V) (h : sLh V t ≤ u) : ∀ i, 0 ≤ i → i < V 13 0 → V 15 i = t → V 16 i ≤ u := by
  intro i i0 i1 it
  unfold sLh at h
  rcases lst_spec (fun i => V 15 i = t) (n := V 13 0) (by omega) with ⟨-, b⟩ | ⟨a, b, d, e⟩
  · exact absurd it (b i i0 i1)
  · rw [cite_neg (by omega)] at h
    rcases (by omega : i = lst (fun i => V 15 i = t) (V 13 0) ∨ i < lst (fun i => V 15 i = t) (V 13 0) ∨ lst (fun i => V 15 i = t) (V 13 0) < i) with r | r | r
    · rw [r]; exact h
    · have := hv.2.2.2.2.1 i _ i0 r b (it.trans d.symm)
      omega
    · exact absurd it (e i r i1)
theorem vOk_addL (hv : vOk V) (n1 : V 13 0 < 60) (hy : y = 0 ∨ y = 1) (t0 : 0 ≤ t) (t1 : t < V 7 0) (u0 : V 10 t ≤ u) (u1 : u ≤ V 11 t) (w0 : 0 ≤ w) (w1 : w < V 1 0) (v0 : -1 ≤ v) (v1 : v < V 3 w) (v2 : y ≠ 0 → 0 ≤ v) (hl : sLh V t ≤ u) : vOk (addL V y t u w v) := by
  have hle := sLh_le hv hl
  obtain ⟨hN, hT, hS, hL, hm, hp⟩ := hv
  refine ⟨?_, hT, hS, ?_, ?_, hp⟩
  · show 0 ≤ V 1 0 ∧ V 1 0 ≤ 8 ∧ 0 ≤ V 7 0 ∧ V 7 0 ≤ 5 ∧ 0 ≤ V 13 0 + 1 ∧ V 13 0 + 1 ≤ 60 ∧ 0 ≤ V 19 0 ∧ V 19 0 ≤ 20 ∧ 0 ≤ V 13 1 ∧ V 13 1 ≤ V 13 0 + 1 ∧ 0 ≤ V 0 9 ∧ V 0 9 ≤ 199
    omega
  · intro k k0 k1
    rw [addL_n] at k1
    rw [addL_14, addL_15, addL_16, addL_17, addL_18]
    by_cases q : k = V 13 0
    · rw [if_pos q, if_pos q, if_pos q, if_pos q, if_pos q]
      exact ⟨hy, t0, t1, u0, u1, w0, w1, v0, v1, v2⟩
    · rw [if_neg q, if_neg q, if_neg q, if_neg q, if_neg q]
      exact hL k k0 (by omega)
  · intro i j i0 ij j1
    rw [addL_n] at j1
    rw [addL_15, addL_15, addL_16, addL_16, if_neg (by omega : ¬ i = V 13 0), if_neg (by omega : ¬ i = V 13 0)]
    by_cases q : j = V 13 0
    · rw [if_pos q, if_pos q]
      exact hle i i0 (by omega)
    · rw [if_neg q, if_neg q]
      exact hm i j i0 ij (by omega)
theorem e_X3_add (hc : zCc c) (hL : LyC M c) (hV : cEq M c V) (n0 : 0 ≤ V 13 0) (n1 : V 13 0 < 60) (hy : y = 0 ∨ y = 1) : ∃ M', zm_X3_add zLa [zA 3 (c + 13), zI y, zI t, zI u, zI w, zI v] M = some ([], M') ∧ LyC M' c ∧ cEq M' c (addL V y t u w v) ∧ ∀ a k, ¬ (c + 13 ≤ a ∧ a ≤ c + 18) → M' a k = M a k := by
  have hΛ := zLc_of hc
  have lay : ∀ {m : zM} {o k x : Int}, (14 ≤ o ∧ o ≤ 18) ∨ (o = 13 ∧ k = 0) → LyC m c → LyC (z_wr m (c + o) k x) c := fun ho h => h.ag (wr_ag (by unfold pC; omega))
  have hL1 := lay (o := 14) (k := V 13 0) (x := y) (by omega) hL
  have hV1 := cEq.wr 14 (V 13 0) y hV
  have hL2 := lay (o := 15) (k := V 13 0) (x := t) (by omega) hL1
  have hV2 := cEq.wr 15 (V 13 0) t hV1
  have hL3 := lay (o := 16) (k := V 13 0) (x := u) (by omega) hL2
  have hV3 := cEq.wr 16 (V 13 0) u hV2
  have hL4 := lay (o := 17) (k := V 13 0) (x := w) (by omega) hL3
  have hV4 := cEq.wr 17 (V 13 0) w hV3
  have hL5 := lay (o := 18) (k := V 13 0) (x := v) (by omega) hL4
  have hV5 := cEq.wr 18 (V 13 0) v hV4
  have a0 : M (c + 13) 0 = V 13 0 := cv_13 hV 0
  have a1 : z_wr M (c + 14) (V 13 0) y (c + 13) 0 = V 13 0 := cv_13 hV1 0
  have a2 : z_wr (z_wr M (c + 14) (V 13 0) y) (c + 15) (V 13 0) t (c + 13) 0 = V 13 0 := cv_13 hV2 0
  have a3 : z_wr (z_wr (z_wr M (c + 14) (V 13 0) y) (c + 15) (V 13 0) t) (c + 16) (V 13 0) u (c + 13) 0 = V 13 0 := cv_13 hV3 0
  have a4 : z_wr (z_wr (z_wr (z_wr M (c + 14) (V 13 0) y) (c + 15) (V 13 0) t) (c + 16) (V 13 0) u) (c + 17) (V 13 0) w (c + 13) 0 = V 13 0 := cv_13 hV4 0
  have a5 : z_wr (z_wr (z_wr (z_wr (z_wr M (c + 14) (V 13 0) y) (c + 15) (V 13 0) t) (c + 16) (V 13 0) u) (c + 17) (V 13 0) w) (c + 18) (V 13 0) v (c + 13) 0 = V 13 0 := cv_13 hV5 0
  refine ⟨z_wr (z_wr (z_wr (z_wr (z_wr (z_wr M (c + 14) (V 13 0) y) (c + 15) (V 13 0) t) (c + 16) (V 13 0) u) (c + 17) (V 13 0) w) (c + 18) (V 13 0) v) (c + 13) 0 (V 13 0 + 1), ?_, lay (by omega) hL5, cEq.wr 13 0 (V 13 0 + 1) hV5, fun a k q => ?_⟩
  · rw [zr_X3_add]
    refine z_out_some ?_
    rw [zb_X3_add_0, a0, if_pos n1, lc_13_2 hL, la_c14 hc, if_pos ⟨⟨n0, n1⟩, hy⟩, z_lt_eq, a1, lc_13_3 hL1, la_c15 hc, if_pos ⟨n0, n1⟩, z_lt_eq, a2, lc_13_4 hL2, la_c16 hc, if_pos ⟨n0, n1⟩, z_lt_eq, a3, lc_13_5 hL3, la_c17 hc, if_pos ⟨n0, n1⟩, z_lt_eq, a4, lc_13_6 hL4, la_c18 hc, if_pos ⟨n0, n1⟩, z_lt_eq, a5, z_add_id (by omega) (by omega), z_lt_eq]
  · rw [z_wr_ne (by omega), z_wr_ne (by omega), z_wr_ne (by omega), z_wr_ne (by omega), z_wr_ne (by omega), z_wr_ne (by omega)]
/-- only the case at c has changed -/
theorem CS.fc {M' V' : zM} (h : CS M c V) (hf : ∀ a k, ¬ (c ≤ a ∧ a ≤ c + 30) → M' a k = M a k) (hL : LyC M' c) (hV : cEq M' c V') (hx : ∀ k, V' 100 k = V 100 k ∧ V' 101 k = V 101 k) : CS M' c V' := by
  have h1 := h.1
  have hc : c = 8 ∨ c = 42 := h1
  have e2 : ∀ b j, b < 8 → M' b j = M b j := fun b j q => hf b j (by omega)
  refine ⟨h1, (e2 _ _ (by decide)).trans h.2.1, (e2 _ _ (by decide)).trans h.2.2.1, h.2.2.2.1.ag (fun a k q => hf a k (by unfold pO at q; omega)), hL, h.2.2.2.2.2.1.ag (fun a k q => hf a k (by unfold pC at q; omega)), hV, ?_, fun j a b => (e2 _ _ (by decide)).trans (h.2.2.2.2.2.2.2.2 j a b)⟩
  have h8 : xC M' V := xC.ag (fun k _ _ => e2 _ _ (by decide)) (fun k _ _ => e2 _ _ (by decide)) (e2 _ _ (by decide)) (fun k => e2 _ _ (by decide)) h.2.2.2.2.2.2.2.1
  unfold xC at h8 ⊢
  simp only [(hx _).1, (hx _).2]
  exact h8
abbrev sCan (V : zM) (y t u w v : Int) : Prop := (0 ≤ t ∧ t < V 7 0) ∧ (0 ≤ w ∧ w < V 1 0) ∧ V 13 0 < 60 ∧ V 10 t ≤ u ∧ u ≤ V 11 t ∧ sLh V t ≤ u ∧ ((v = -1 ∧ y = 0) ∨ (0 ≤ v ∧ v < V 3 w))
theorem e_X0_canCome (h : cOk M c V) : zm_X0_canCome zLa [zA 0 c, zI y, zI t, zI u, zI w, zI v] M = some ([zI (b2i (sCan V y t u w v))], M) := by
  have h8 := e_X8_has h t
  have h9 := e_X9_has h w
  have h3 := e_X3_latestHour h t
  have hc := h.1
  have hL : LyC M c := h.2.1
  have hV := h.2.2.1
  have hN := h.2.2.2.1
  clear h
  rw [zr_X0_canCome]
  refine z_out_some ?_
  rw [zb_X0_canCome_0, lc_0_1 hL, h8, z_bI_mk]
  by_cases qt : 0 ≤ t ∧ t < V 7 0
  case neg => rw [b2i_neg qt, if_pos rfl, b2i_neg (fun r => qt r.1)]
  rw [b2i_pos qt, if_neg (by decide), lc_0_0 hL, h9, z_bI_mk]
  by_cases qw : 0 ≤ w ∧ w < V 1 0
  case neg => rw [b2i_neg qw, if_pos rfl, b2i_neg (fun r => qw r.2.1)]
  rw [b2i_pos qw, if_neg (by decide), lc_0_2 hL, cv_13 hV]
  by_cases q6 : V 13 0 < 60
  case neg => rw [if_neg q6, b2i_neg (fun r => q6 r.2.2.1)]
  rw [if_pos q6, lc_0_1 hL, lc_7_3 hL, la_c10 hc, if_pos ⟨qt.1, by omega⟩, cv_10 hV]
  by_cases q1 : u < V 10 t
  · rw [if_pos q1, b2i_neg (fun r => by omega)]
  rw [if_neg q1, lc_7_4 hL, la_c11 hc, if_pos ⟨qt.1, by omega⟩, cv_11 hV]
  by_cases q2 : u ≤ V 11 t
  case neg => rw [if_neg q2, b2i_neg (fun r => by omega)]
  rw [if_pos q2, h3, z_bI_mk]
  by_cases q3 : u < sLh V t
  · rw [if_pos q3, b2i_neg (fun r => by omega)]
  rw [if_neg q3]
  by_cases q4 : v = -1
  · rw [if_pos q4]
    by_cases qy : y = 0
    · rw [if_pos qy, b2i_pos ⟨qt, qw, q6, by omega, q2, by omega, Or.inl ⟨q4, qy⟩⟩]
    · rw [if_neg qy, b2i_neg (fun r => by omega)]
  rw [if_neg q4]
  by_cases q5 : v < 0
  · rw [if_pos q5, b2i_neg (fun r => by omega)]
  rw [if_neg q5, lc_0_0 hL, lc_1_2 hL, la_c3 hc, if_pos ⟨qw.1, by omega⟩, cv_3 hV]
  by_cases q7 : v < V 3 w
  · rw [if_pos q7, b2i_pos ⟨qt, qw, q6, by omega, q2, by omega, Or.inr ⟨by omega, q7⟩⟩]
  · rw [if_neg q7, b2i_neg (fun r => by omega)]
theorem e_X12_latestHour (hR : LyR M) {f n : Int} (f0 : 0 ≤ f) (n0 : 0 ≤ n) (fn : f + n ≤ 120) (t : Int) : zm_X12_latestHour zLa [zA 12 84, zI f, zI n, zI t] M = some ([zI (cite (lst (fun i => M 98 (f + i) = t) n = -1) (-1) (M 99 (f + lst (fun i => M 98 (f + i) = t) n)))], M) := by
  have hΛ := zLo_ok
  have h32 : M 84 32 = 98 := lr_32 hR
  have h33 : M 84 33 = 99 := lr_33 hR
  have l98 : zLa 98 = 120 := rfl
  have l99 : zLa 99 = 120 := rfl
  obtain ⟨s', e, hI⟩ := lp_ex (fun i (a : Int) => z_ev (zcd_X12_latestHour zLa) 1 [zA 12 84, zI f, zI n, zI t, zI a, zI (f + i)] [] M) (fun i a => a = cite (lst (fun i => M 98 (f + i) = t) i = -1) (-1) (M 99 (f + lst (fun i => M 98 (f + i) = t) i))) (n := n) 0 (fun i a hi0 hi1 hI => by
    have hs := lst_s (fun i => M 98 (f + i) = t) hi0
    try dsimp only
    rw [zb_X12_latestHour_1, z_add_id (by omega) (by omega), if_pos (by omega), h32, h33, l98, l99, if_pos (by omega), z_w32_id (by omega) (by omega), (by omega : f + i + 1 = f + (i + 1))]
    by_cases q : M 98 (f + i) = t
    · rw [if_pos q, if_pos (by omega)]
      refine ⟨_, rfl, ?_⟩
      rw [hs.1 q, cite_neg (by omega)]
    · rw [if_neg q]
      refine ⟨_, rfl, ?_⟩
      rw [hs.2 q]; exact hI) (s := -1) n0 (by rw [lst_0, cite_pos rfl])
  try dsimp only at e
  rw [zr_X12_latestHour]
  refine z_out_some ?_
  rw [zb_X12_latestHour_0]
  rw [(by omega : f + 0 = f)] at e
  rw [e, zb_X12_latestHour_1, z_add_id (by omega) (by omega), if_neg (by omega), hI]
theorem r_lh (h : mOk M V) (t0 : 0 ≤ t) (t1 : t < V 7 0) (hu : V 10 t ≤ u) : ∃ d, zm_X12_latestHour zLa [zA 12 84, zI 0, zI (V 13 0), zI t] M = some ([zI d], M) ∧ (u < d ↔ u < sLh V t) := by
  have hN := h.2.2.1
  have hst := h.2.2.2.2.1 t t0 t1
  have hml := h.2.1.2.2.2.1
  refine ⟨_, e_X12_latestHour h.1 (by decide) (by omega) (by omega) t, ?_⟩
  have e : lst (fun i => M 98 (0 + i) = t) (V 13 0) = lst (fun i => V 15 i = t) (V 13 0) := lst_congr (fun k a b => by rw [Int.zero_add, (hml k a b).2.1])
  rw [e]
  unfold sLh
  rcases lst_spec (fun i => V 15 i = t) (n := V 13 0) (by omega) with ⟨a, -⟩ | ⟨a, b, -, -⟩
  · rw [cite_pos a, cite_pos a]
    omega
  · rw [cite_neg (by omega), cite_neg (by omega), Int.zero_add, (hml _ a b).2.2.1]
theorem RS.addL (hv : vOk V) (hy : y = 0 ∨ y = 1) (n1 : V 13 0 < 60) (h : RS M V) : RS (z_wr (z_wr (z_wr (z_wr (z_wr (z_wr (z_wr M 97 (V 13 0) y) 98 (V 13 0) t) 99 (V 13 0) u) 100 (V 13 0) w) 101 (V 13 0) v) 84 13 (V 13 0 + 1)) 84 44 (V 13 0 - V 13 1 + 1)) (addL V y t u w v) := by
  have hN := hv.1
  obtain ⟨h1, ⟨ha, hb, hd, he, hf⟩, h3, h8, h9⟩ := h
  generalize hM' : z_wr (z_wr (z_wr (z_wr (z_wr (z_wr (z_wr M 97 (V 13 0) y) 98 (V 13 0) t) 99 (V 13 0) u) 100 (V 13 0) w) 101 (V 13 0) v) 84 13 (V 13 0 + 1)) 84 44 (V 13 0 - V 13 1 + 1) = M'
  have fr : ∀ a k, ¬ (a = 84 ∧ (k = 13 ∨ k = 44)) → ¬ (97 ≤ a ∧ a ≤ 101) → M' a k = M a k := fun a k q1 q2 => by
    rw [← hM', z_wr_ne (by omega), z_wr_ne (by omega), z_wr_ne (by omega), z_wr_ne (by omega), z_wr_ne (by omega), z_wr_ne (by omega), z_wr_ne (by omega)]
  have h3' : gF M' V := gF.ag (fun a k q => fr a k (by unfold pF at q; omega) (by unfold pF at q; omega)) h3
  refine ⟨h1.ag (fun a k q => fr a k (by unfold pR at q; omega) (by unfold pR at q; omega)), ⟨⟨(fr _ _ (by omega) (by omega)).trans ha.1, (fr _ _ (by omega) (by omega)).trans ha.2.1, ?_, (fr _ _ (by omega) (by omega)).trans ha.2.2.2.1, (fr _ _ (by omega) (by omega)).trans ha.2.2.2.2.1, (fr _ _ (by omega) (by omega)).trans ha.2.2.2.2.2.1, (fr _ _ (by omega) (by omega)).trans ha.2.2.2.2.2.2.1, ?_⟩, ?_, ?_, ?_, ?_⟩, h3', ?_, fun j a b => (fr _ _ (by omega) (by omega)).trans (h9.1 j a b), fun j a b => ?_⟩
  · rw [← hM', z_wr_ne (by omega), z_wr_eq]; rfl
  · rw [← hM', z_wr_eq, addL_n, addL_o (by omega)]; omega
  · intro k a b
    have := hb k a b
    rw [fr _ _ (by omega) (by omega), fr _ _ (by omega) (by omega), fr _ _ (by omega) (by omega), fr _ _ (by omega) (by omega), fr _ _ (by omega) (by omega)]
    exact this
  · intro k a b
    have := hd k a b
    rw [fr _ _ (by omega) (by omega), fr _ _ (by omega) (by omega), fr _ _ (by omega) (by omega), fr _ _ (by omega) (by omega), fr _ _ (by omega) (by omega)]
    exact this
  · intro k a b
    rw [addL_n] at b
    rw [addL_14, addL_15, addL_16, addL_17, addL_18]
    by_cases q : k = V 13 0
    · rw [if_pos q, if_pos q, if_pos q, if_pos q, if_pos q, q, ← hM']
      refine ⟨?_, ?_, ?_, ?_, ?_⟩
      · rw [z_wr_ne (by omega), z_wr_ne (by omega), z_wr_ne (by omega), z_wr_ne (by omega), z_wr_ne (by omega), z_wr_ne (by omega), z_wr_eq]
      · rw [z_wr_ne (by omega), z_wr_ne (by omega), z_wr_ne (by omega), z_wr_ne (by omega), z_wr_ne (by omega), z_wr_eq]
      · rw [z_wr_ne (by omega), z_wr_ne (by omega), z_wr_ne (by omega), z_wr_ne (by omega), z_wr_eq]
      · rw [z_wr_ne (by omega), z_wr_ne (by omega), z_wr_ne (by omega), z_wr_eq]
      · rw [z_wr_ne (by omega), z_wr_ne (by omega), z_wr_eq]
    · have := he k a (by omega)
      have fr2 : ∀ a, 97 ≤ a → a ≤ 101 → M' a k = M a k := fun a q1 q2 => by
        rw [← hM', z_wr_ne (by omega), z_wr_ne (by omega), z_wr_ne (by omega), z_wr_ne (by omega), z_wr_ne (by omega), z_wr_ne (by omega), z_wr_ne (by omega)]
      rw [if_neg q, if_neg q, if_neg q, if_neg q, if_neg q, fr2 _ (by decide) (by decide), fr2 _ (by decide) (by decide), fr2 _ (by decide) (by decide), fr2 _ (by decide) (by decide), fr2 _ (by decide) (by decide)]
      exact this
  · intro k a b
    have := hf k a b
    rw [fr _ _ (by omega) (by omega), fr _ _ (by omega) (by omega), fr _ _ (by omega) (by omega)]
    exact this
  · exact ⟨(fr _ _ (by omega) (by omega)).trans h8.1, (fr _ _ (by omega) (by omega)).trans h8.2.1, (fr _ _ (by omega) (by omega)).trans h8.2.2.1, (fr _ _ (by omega) (by omega)).trans h8.2.2.2.1, (fr _ _ (by omega) (by omega)).trans h8.2.2.2.2.1, (fr _ _ (by omega) (by omega)).trans h8.2.2.2.2.2.1, fun j a b => (fr _ _ (by omega) (by omega)).trans (h8.2.2.2.2.2.2 j a b)⟩
  · by_cases q : j = V 13 0
    · rw [q, ← hM', z_wr_ne (by omega), z_wr_ne (by omega), z_wr_ne (by omega), z_wr_ne (by omega), z_wr_ne (by omega), z_wr_ne (by omega), z_wr_eq]; exact hy
    · rw [← hM', z_wr_ne (by omega), z_wr_ne (by omega), z_wr_ne (by omega), z_wr_ne (by omega), z_wr_ne (by omega), z_wr_ne (by omega), z_wr_ne (by omega)]; exact h9.2 j a b
theorem i_say (hI : gI M) (hy : y = 0 ∨ y = 1) (t u w v : Int) : PrI zm_X11_say zm_X12_say [zI y, zI t, zI u, zI w, zI v] M := by
  obtain ⟨c, V, hC, hR, hv, hx⟩ := hI
  have hN := hv.1
  have hn := hC.2.1
  have hL := hC.2.2.2.2.1
  have hΛ := zLo_ok
  rcases Classical.em (sCan V y t u w v) with q | q
  · obtain ⟨M1, e1, hL1, hV1, hf1⟩ := e_X3_add (y := y) (t := t) (u := u) (w := w) (v := v) hC.1 hL hC.2.2.2.2.2.2.1 (by omega) q.2.2.1 hy
    have hc : c = 8 ∨ c = 42 := hC.1
    have hC1 : CS M1 c (addL V y t u w v) := hC.fc (fun a k r => hf1 a k (by omega)) hL1 hV1 (fun k => ⟨addL_o (by omega), addL_o (by omega)⟩)
    have hv' : vOk (addL V y t u w v) := vOk_addL hv q.2.2.1 hy q.1.1 q.1.2 q.2.2.2.1 q.2.2.2.2.1 q.2.1.1 q.2.1.2 (by omega) (by
      have := hv.2.1 w q.2.1.1 q.2.1.2
      omega) (by omega) q.2.2.2.2.2.1
    have b13 : M1 (c + 13) 0 = V 13 0 + 1 := cv_13 hV1 0
    refine PrI.mk (M1 := M1) (c' := c) (V' := addL V y t u w v) (r := [zI (V 13 0)]) hR hv ?_ (fun a k r => hf1 a k (by omega)) hC1 (fun h => ?_) hv' hx
    · rw [zr_X11_say]
      refine z_out_some ?_
      rw [zb_X11_say_0, hn, e_X0_canCome (hC.co hv), z_bI_mk, b2i_pos q, if_neg (by decide), hn, lc_0_2 hL, e1, z_bV_mk, hC1.2.1, lc_0_2 hL1, b13, z_sub_id (by omega) (by omega), (by omega : V 13 0 + 1 - 1 = V 13 0)]
    · have hE := h.w2
      have hm := hE.mo hv
      obtain ⟨d, ed, hd⟩ := r_lh hm q.1.1 q.1.2 q.2.2.2.1
      have ha := hE.2.1.1
      have mt := hE.2.1.2.2.1 t q.1.1 q.1.2
      have mw := hE.2.1.2.1 w q.2.1.1 q.2.1.2
      refine ⟨_, ?_, ((((((((fw2 _).tr (frR.wr (by decide))).tr (frR.wr (by decide))).tr (frR.wr (by decide))).tr (frR.wr (by decide))).tr (frR.wr (by decide))).tr (frR.wr (by decide))).tr (frR.wr (by decide))), RS.addL (y := y) (t := t) (u := u) (w := w) (v := v) hv hy q.2.2.1 hE⟩
      have hR1 := hE.1
      rw [zr_X12_say]
      refine z_out_some ?_
      rw [zb_X12_say_0, z_lt_eq]
      generalize z_wr M1 84 2 0 = m at hE hm ed ha mt mw hR1 ⊢
      have hw : ∀ {m : zM} {a i x j : Int}, 97 ≤ a → z_wr m a i x 84 j = m 84 j := fun q => z_wr_ne (Or.inl (by omega))
      have key : ∀ y0 : Int, (y0 ≤ v) → z_ev (zcd_X12_say zLa) 1 [zA 12 84, zI y, zI t, zI u, zI w, zI v] [zI y0, zI v] m = some (.inl ([zI (V 13 0)], z_wr (z_wr (z_wr (z_wr (z_wr (z_wr (z_wr m 97 (V 13 0) y) 98 (V 13 0) t) 99 (V 13 0) u) 100 (V 13 0) w) 101 (V 13 0) v) 84 13 (V 13 0 + 1)) 84 44 (V 13 0 - V 13 1 + 1))) := by
        intro y0 hy0
        rw [zb_X12_say_1, if_neg (by omega), ha.2.2.1, lr_31 hR1]
        rw [if_pos ⟨⟨by omega, by show V 13 0 < 120; omega⟩, hy⟩, z_lt_eq]
        simp only [z_lt_eq, z_wr_ne (M := _) (a := 97) (b := 84) (Or.inl (by decide)), z_wr_ne (M := _) (a := 98) (b := 84) (Or.inl (by decide)), z_wr_ne (M := _) (a := 99) (b := 84) (Or.inl (by decide)), z_wr_ne (M := _) (a := 100) (b := 84) (Or.inl (by decide)), z_wr_ne (M := _) (a := 101) (b := 84) (Or.inl (by decide)), ha, lr_32 hR1, lr_33 hR1, lr_34 hR1, lr_35 hR1]
        have l1 : 0 ≤ V 13 0 ∧ V 13 0 < zLa 98 := ⟨by omega, by show V 13 0 < 120; omega⟩
        have l2 : 0 ≤ V 13 0 ∧ V 13 0 < zLa 99 := ⟨by omega, by show V 13 0 < 120; omega⟩
        have l3 : 0 ≤ V 13 0 ∧ V 13 0 < zLa 100 := ⟨by omega, by show V 13 0 < 120; omega⟩
        have l4 : 0 ≤ V 13 0 ∧ V 13 0 < zLa 101 := ⟨by omega, by show V 13 0 < 120; omega⟩
        rw [if_pos l1, if_pos l2, if_pos l3, if_pos l4, z_add_id (a := V 13 0) (by omega) (by omega)]
        have e44 : ∀ m : zM, z_wr m 84 13 (V 13 0 + 1) 84 44 = m 84 44 := fun m => z_wr_ne (Or.inr (by decide))
        have e13 : ∀ (m : zM) x, z_wr (z_wr m 84 13 (V 13 0 + 1)) 84 44 x 84 13 = V 13 0 + 1 := fun m x => (z_wr_ne (Or.inr (by decide))).trans (z_wr_eq _ _ _ _)
        simp only [e44, e13, z_wr_ne (M := _) (a := 97) (b := 84) (Or.inl (by decide)), z_wr_ne (M := _) (a := 98) (b := 84) (Or.inl (by decide)), z_wr_ne (M := _) (a := 99) (b := 84) (Or.inl (by decide)), z_wr_ne (M := _) (a := 100) (b := 84) (Or.inl (by decide)), z_wr_ne (M := _) (a := 101) (b := 84) (Or.inl (by decide)), ha]
        rw [z_add_id (by omega) (by omega), z_sub_id (by omega) (by omega), (by omega : V 13 0 + 1 - 1 = V 13 0)]
      rw [ha.2.2.1, if_neg (by omega), e_X12_isTeller hm, z_bI_mk, b2i_pos q.1, if_neg (by decide), e_X12_isThing hm, z_bI_mk, b2i_pos q.2.1, if_neg (by decide), lr_28 hR1, if_pos ⟨q.1.1, by show t < 10; omega⟩, mt.2.2.1, if_neg (by omega), lr_29 hR1, if_pos ⟨q.1.1, by show t < 10; omega⟩, mt.2.2.2.1, if_pos (by omega), ha.2.2.1, ed, z_bI_mk, if_neg (fun r => by have := hd.mp r; omega), lr_22 hR1, if_pos ⟨q.2.1.1, by show w < 16; omega⟩, mw.2.1, if_pos (by have := hv.2.1 w q.2.1.1 q.2.1.2; omega)]
      by_cases qy : y = 0
      · rw [if_pos qy]; exact key (-1) (by omega)
      · rw [if_neg qy]; exact key 0 (by omega)
  · refine PrI.mk (M1 := M) (c' := c) (V' := V) (r := [zI (-1)]) hR hv ?_ (frC.rf M) hC (fun h => ⟨z_wr M 84 2 0, ?_, fw2 _, h.w2⟩) hv hx
    · rw [zr_X11_say]
      refine z_out_some ?_
      rw [zb_X11_say_0, hn, e_X0_canCome (hC.co hv), z_bI_mk, b2i_neg q, if_pos rfl]
    · have hE := h.w2
      have hm := hE.mo hv
      have hR1 := hE.1
      have ha := hE.2.1.1
      rw [zr_X12_say]
      refine z_out_some ?_
      rw [zb_X12_say_0, z_lt_eq, ha.2.2.1]
      by_cases q0 : V 13 0 = 60
      · rw [if_pos q0]
      rw [if_neg q0, e_X12_isTeller hm, z_bI_mk]
      by_cases qt : 0 ≤ t ∧ t < V 7 0
      case neg => rw [b2i_neg qt, if_pos rfl]
      rw [b2i_pos qt, if_neg (by decide), e_X12_isThing hm, z_bI_mk]
      by_cases qw : 0 ≤ w ∧ w < V 1 0
      case neg => rw [b2i_neg qw, if_pos rfl]
      have mt := hE.2.1.2.2.1 t qt.1 qt.2
      have mw := hE.2.1.2.1 w qw.1 qw.2
      rw [b2i_pos qw, if_neg (by decide), lr_28 hR1, if_pos ⟨qt.1, by show t < 10; omega⟩, mt.2.2.1]
      by_cases q1 : u < V 10 t
      · rw [if_pos q1]
      rw [if_neg q1, lr_29 hR1, if_pos ⟨qt.1, by show t < 10; omega⟩, mt.2.2.2.1]
      by_cases q2 : u ≤ V 11 t
      case neg => rw [if_neg q2]
      obtain ⟨d, ed, hd⟩ := r_lh hm qt.1 qt.2 (u := u) (by omega)
      rw [if_pos q2, ha.2.2.1, ed, z_bI_mk]
      by_cases q3 : u < d
      · rw [if_pos q3]
      have q3' : ¬ u < sLh V t := fun r => q3 (hd.mpr r)
      rw [if_neg q3, lr_22 hR1, if_pos ⟨qw.1, by show w < 16; omega⟩, mw.2.1]
      by_cases q4 : v < V 3 w
      case neg => rw [if_neg q4]
      have q5 : ¬ ((v = -1 ∧ y = 0) ∨ (0 ≤ v ∧ v < V 3 w)) := fun r => q ⟨qt, qw, by omega, by omega, q2, by omega, r⟩
      rw [if_pos q4]
      by_cases qy : y = 0
      · rw [if_pos qy, zb_X12_say_1, if_pos (by omega)]
      · rw [if_neg qy, zb_X12_say_1, if_pos (by omega)]
end
