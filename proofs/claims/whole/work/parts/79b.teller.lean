/-! ===== lines of TELLERS ===== -/
def aS (U U' : zM) (nm ag b e tp : Int) : Prop := U' 7 0 = U 7 0 + 1 ∧ (∀ o k, (o < 7 ∨ 12 < o ∨ (o = 7 ∧ k ≠ 0) ∨ (8 ≤ o ∧ o ≤ 12 ∧ k ≠ U 7 0)) → U' o k = U o k) ∧ U' 8 (U 7 0) = nm ∧ U' 9 (U 7 0) = ag ∧ U' 10 (U 7 0) = b ∧ U' 11 (U 7 0) = e ∧ U' 12 (U 7 0) = tp
theorem vOk_aS {U U' : zM} {nm ag b e tp : Int} (h : aS U U' nm ag b e tp) (hv : vOk U) (n5 : U 7 0 < 5) (g0 : 1 ≤ ag) (g1 : ag ≤ 99) (b0 : 0 ≤ b) (be : b ≤ e) (e1 : e ≤ 199) (ht : tp = -1 ∨ (b ≤ tp ∧ tp ≤ e)) : vOk U' := by
  obtain ⟨h0, ho, h8, h9, h10, h11, h12⟩ := h
  obtain ⟨hN, hT, hS, hL, hm, hp⟩ := hv
  have e' : ∀ o k, o < 7 ∨ 12 < o → U' o k = U o k := fun o k q => ho o k (by omega)
  refine ⟨?_, ?_, ?_, ?_, ?_, ?_⟩
  · unfold vOkN
    rw [h0, e' 1 0 (by decide), e' 13 0 (by decide), e' 13 1 (by decide), e' 19 0 (by decide), e' 0 9 (by decide)]
    omega
  · intro k k0 k1
    rw [e' 1 0 (by decide)] at k1
    rw [e' 3 k (by decide), e' 4 k (by decide), e' 5 k (by decide), e' 6 k (by decide)]
    exact hT k k0 k1
  · intro k k0 k1
    rw [h0] at k1
    by_cases q : k = U 7 0
    · rw [q, h9, h10, h11, h12]; omega
    · rw [ho 9 k (by omega), ho 10 k (by omega), ho 11 k (by omega), ho 12 k (by omega)]
      exact hS k k0 (by omega)
  · intro k k0 k1
    rw [e' 13 0 (by decide)] at k1
    have := hL k k0 k1
    rw [e' 14 k (by decide), e' 15 k (by decide), e' 16 k (by decide), e' 17 k (by decide), e' 18 k (by decide), h0, ho 10 (U 15 k) (by omega), ho 11 (U 15 k) (by omega), e' 1 0 (by decide), e' 3 _ (by decide)]
    omega
  · intro i j i0 ij j1
    rw [e' 13 0 (by decide)] at j1
    rw [e' 15 i (by decide), e' 15 j (by decide), e' 16 i (by decide), e' 16 j (by decide)]
    exact hm i j i0 ij j1
  · intro k k0 k1
    rw [e' 19 0 (by decide)] at k1
    have := hp k k0 k1
    rw [e' 20 k (by decide), e' 21 k (by decide), e' 22 k (by decide), h0, e' 1 0 (by decide), e' 3 _ (by decide)]
    omega
section
variable {M V : zM} {c : Int}
theorem e_X8_add (hc : zCc c) (hL : LyC M c) (hV : cEq M c V) (n0 : 0 ≤ V 7 0) (n1 : V 7 0 < 5) (nm ag b e : Int) : ∃ M' U', zm_X8_add zLa [zA 8 (c + 7), zI nm, zI ag, zI b, zI e] M = some ([], M') ∧ LyC M' c ∧ cEq M' c U' ∧ aS V U' nm ag b e (-1) ∧ ∀ a k, ¬ (c + 7 ≤ a ∧ a ≤ c + 12) → M' a k = M a k := by
  have lay : ∀ {m : zM} {o k y : Int}, (8 ≤ o ∧ o ≤ 12) ∨ (o = 7 ∧ k = 0) → LyC m c → LyC (z_wr m (c + o) k y) c := fun ho h => h.ag (wr_ag (by unfold pC; omega))
  have hL1 := lay (o := 8) (k := V 7 0) (y := nm) (by omega) hL
  have hV1 := cEq.wr 8 (V 7 0) nm hV
  have hL2 := lay (o := 9) (k := V 7 0) (y := ag) (by omega) hL1
  have hV2 := cEq.wr 9 (V 7 0) ag hV1
  have hL3 := lay (o := 10) (k := V 7 0) (y := b) (by omega) hL2
  have hV3 := cEq.wr 10 (V 7 0) b hV2
  have hL4 := lay (o := 11) (k := V 7 0) (y := e) (by omega) hL3
  have hV4 := cEq.wr 11 (V 7 0) e hV3
  have hL5 := lay (o := 12) (k := V 7 0) (y := -1) (by omega) hL4
  have hV5 := cEq.wr 12 (V 7 0) (-1) hV4
  have a0 : M (c + 7) 0 = V 7 0 := cv_7 hV 0
  have a1 := cv_7 hV1 0
  have a2 := cv_7 hV2 0
  have a3 := cv_7 hV3 0
  have a4 := cv_7 hV4 0
  have a5 := cv_7 hV5 0
  rw [z_wr_ne (M := V) (by omega)] at a1
  rw [z_wr_ne (a := 9) (by omega), z_wr_ne (M := V) (by omega)] at a2
  rw [z_wr_ne (a := 10) (by omega), z_wr_ne (a := 9) (by omega), z_wr_ne (M := V) (by omega)] at a3
  rw [z_wr_ne (a := 11) (by omega), z_wr_ne (a := 10) (by omega), z_wr_ne (a := 9) (by omega), z_wr_ne (M := V) (by omega)] at a4
  rw [z_wr_ne (a := 12) (by omega), z_wr_ne (a := 11) (by omega), z_wr_ne (a := 10) (by omega), z_wr_ne (a := 9) (by omega), z_wr_ne (M := V) (by omega)] at a5
  refine ⟨_, _, ?_, lay (o := 7) (k := 0) (y := V 7 0 + 1) (by omega) hL5, cEq.wr 7 0 (V 7 0 + 1) hV5, ⟨z_wr_eq _ _ _ _, fun o k q => ?_, ?_, ?_, ?_, ?_, ?_⟩, fun a k q => ?_⟩
  · rw [zr_X8_add]
    refine z_out_some ?_
    rw [zb_X8_add_0, a0, if_pos n1, lc_7_1 hL, la_c8 hc, if_pos ⟨n0, n1⟩, z_lt_eq, a1, lc_7_2 hL1, la_c9 hc, if_pos ⟨n0, n1⟩, z_lt_eq, a2, lc_7_3 hL2, la_c10 hc, if_pos ⟨n0, n1⟩, z_lt_eq, a3, lc_7_4 hL3, la_c11 hc, if_pos ⟨n0, n1⟩, z_lt_eq, a4, lc_7_5 hL4, la_c12 hc, if_pos ⟨n0, n1⟩, z_lt_eq, a5, z_add_id (by omega) (by omega), z_lt_eq]
  · rw [z_wr_ne (by omega), z_wr_ne (by omega), z_wr_ne (by omega), z_wr_ne (by omega), z_wr_ne (by omega), z_wr_ne (by omega)]
  · rw [z_wr_ne (by omega), z_wr_ne (by omega), z_wr_ne (by omega), z_wr_ne (by omega), z_wr_ne (by omega), z_wr_eq]
  · rw [z_wr_ne (by omega), z_wr_ne (by omega), z_wr_ne (by omega), z_wr_ne (by omega), z_wr_eq]
  · rw [z_wr_ne (by omega), z_wr_ne (by omega), z_wr_ne (by omega), z_wr_eq]
  · rw [z_wr_ne (by omega), z_wr_ne (by omega), z_wr_eq]
  · rw [z_wr_ne (by omega), z_wr_eq]
  · rw [z_wr_ne (by omega), z_wr_ne (by omega), z_wr_ne (by omega), z_wr_ne (by omega), z_wr_ne (by omega), z_wr_ne (by omega)]
end
theorem aS.w12 {U U' : zM} {nm ag b e tp v : Int} (h : aS U U' nm ag b e tp) : aS U (z_wr U' 12 (U 7 0) v) nm ag b e v := by
  obtain ⟨h0, ho, h2, h3, h4, h5, h6⟩ := h
  exact ⟨by rw [z_wr_ne (by omega)]; exact h0, fun o k q => by rw [z_wr_ne (by omega)]; exact ho o k q, by rw [z_wr_ne (by omega)]; exact h2, by rw [z_wr_ne (by omega)]; exact h3, by rw [z_wr_ne (by omega)]; exact h4, by rw [z_wr_ne (by omega)]; exact h5, z_wr_eq _ _ _ _⟩
section
variable {B K A P Q : Int → Int} {n N : Int} {Mc Mr U U' : zM} {c p : Int}
theorem PR.aS {nm ag b e tp : Int} (hv : vOkN U) (n5 : U 7 0 < 5) (h : PR B K A P Q n Mr U p) (ha : aS U U' nm ag b e tp) (g3 : Mr 93 (5 + U 7 0) = ag) (g4 : Mr 94 (5 + U 7 0) = b) (g5 : Mr 95 (5 + U 7 0) = e) (g6 : Mr 96 (5 + U 7 0) = tp) : PR B K A P Q n (z_wr (z_wr Mr 92 (5 + U 7 0) nm) 84 17 (U 7 0 + 1)) U' p := by
  obtain ⟨h0, ho, h2, h3, h4, h5, h6⟩ := ha
  have e' : ∀ o k, o < 7 ∨ 12 < o → U' o k = U o k := fun o k q => ho o k (by omega)
  have fr : ∀ a k, ¬ (a = 92 ∧ k = 5 + U 7 0) → ¬ (a = 84 ∧ k = 17) → z_wr (z_wr Mr 92 (5 + U 7 0) nm) 84 17 (U 7 0 + 1) a k = Mr a k := fun a k q1 q2 => by rw [z_wr_ne (by omega), z_wr_ne (by omega)]
  have e17 : z_wr (z_wr Mr 92 (5 + U 7 0) nm) 84 17 (U 7 0 + 1) 84 17 = U 7 0 + 1 := z_wr_eq _ _ _ _
  have e92 : z_wr (z_wr Mr 92 (5 + U 7 0) nm) 84 17 (U 7 0 + 1) 92 (5 + U 7 0) = nm := by rw [z_wr_ne (by omega), z_wr_eq]
  generalize z_wr (z_wr Mr 92 (5 + U 7 0) nm) 84 17 (U 7 0 + 1) = R at fr e17 e92 ⊢
  have t := h.tk
  have hm := h.2.1
  refine ⟨h.1.ag (fun a k q => fr a k (by unfold pR at q; omega) (by unfold pR at q; omega)), ⟨⟨?_, by rw [e17, h0], ?_, ?_⟩, fun k x y => ?_, fun k x y => ?_, fun k x y => ?_, fun k x y => ?_⟩, fRd.u (fun o k q => ho o k (by omega)) (fRd.ag (fr _ _ (by omega) (by omega)) (fr _ _ (by omega) (by omega)) (fun j _ _ => ⟨fr _ _ (by omega) (by omega), fr _ _ (by omega) (by omega)⟩) (fun j _ _ => ⟨fr _ _ (by omega) (by omega), fr _ _ (by omega) (by omega), fr _ _ (by omega) (by omega)⟩) h.2.2.1), ⟨⟨(fr _ _ (by omega) (by omega)).trans t.1.1, (fr _ _ (by omega) (by omega)).trans t.1.2.1, (fr _ _ (by omega) (by omega)).trans t.1.2.2.1, fun j x y => (fr _ _ (by omega) (by omega)).trans (t.1.2.2.2.1 j x y), fun j x y => (fr _ _ (by omega) (by omega)).trans (t.1.2.2.2.2 j x y)⟩, (fr _ _ (by omega) (by omega)).trans t.2.1, (fr _ _ (by omega) (by omega)).trans t.2.2.1, by rw [fr _ _ (by omega) (by omega), fr _ _ (by omega) (by omega)]; exact t.2.2.2⟩, bR.ag (fun k => fr _ _ (by omega) (by omega)) h.2.2.2.2⟩
  · rw [e' _ _ (by decide), fr _ _ (by omega) (by omega)]; exact hm.1.1
  · rw [e' _ _ (by decide), fr _ _ (by omega) (by omega)]; exact hm.1.2.2.1
  · rw [e' _ _ (by decide), fr _ _ (by omega) (by omega)]; exact hm.1.2.2.2
  · rw [e' _ _ (by decide)] at y
    have := hm.2.1 k x y
    rw [e' 2 k (by decide), e' 3 k (by decide), e' 4 k (by decide), e' 5 k (by decide), e' 6 k (by decide), fr _ _ (by omega) (by omega), fr _ _ (by omega) (by omega), fr _ _ (by omega) (by omega), fr _ _ (by omega) (by omega), fr _ _ (by omega) (by omega)]
    exact this
  · rw [h0] at y
    by_cases q : k = U 7 0
    · rw [q, e92, h2, h3, h4, h5, h6, fr _ _ (by omega) (by omega), fr _ _ (by omega) (by omega), fr _ _ (by omega) (by omega), fr _ _ (by omega) (by omega)]
      exact ⟨rfl, g3, g4, g5, g6⟩
    · have := hm.2.2.1 k x (by omega)
      rw [ho 8 k (by omega), ho 9 k (by omega), ho 10 k (by omega), ho 11 k (by omega), ho 12 k (by omega), fr _ _ (by omega) (by omega), fr _ _ (by omega) (by omega), fr _ _ (by omega) (by omega), fr _ _ (by omega) (by omega), fr _ _ (by omega) (by omega)]
      exact this
  · rw [e' _ _ (by decide)] at y
    have := hm.2.2.2.1 k x y
    rw [e' 14 k (by decide), e' 15 k (by decide), e' 16 k (by decide), e' 17 k (by decide), e' 18 k (by decide), fr _ _ (by omega) (by omega), fr _ _ (by omega) (by omega), fr _ _ (by omega) (by omega), fr _ _ (by omega) (by omega), fr _ _ (by omega) (by omega)]
    exact this
  · rw [e' _ _ (by decide)] at y
    have := hm.2.2.2.2 k x y
    rw [e' 20 k (by decide), e' 21 k (by decide), e' 22 k (by decide), fr _ _ (by omega) (by omega), fr _ _ (by omega) (by omega), fr _ _ (by omega) (by omega)]
    exact this
theorem rk11 : rk 1105 = 11 := by decide
theorem rk12 : rk 1106 = 12 := by decide
theorem rk13 : rk 1107 = 13 := by decide
theorem l_teller (hT : TS B n 0 N K A P Q) (n1 : n ≤ 800) (hv : vOk U) (hc : PC N K A P Mc c U p) (hr : PR B K A P Q n Mr U p) (hk : K p = 1104) : LK (zm_X7_readTeller zLa [zA 7 1] Mc) (zm_X12_tellerLine zLa [zA 12 84] Mr) c Mc Mr (SK B K A P Q n N c p U) := by
  have hN := hv.1
  have hp := hc.p0
  have hcc : c = 8 ∨ c = 42 := hc.1
  rw [zr_X7_readTeller, zr_X12_tellerLine, zb_X7_readTeller_0, zb_X12_tellerLine_0, hc.2.1, lc_0_1 hc.y, cv_7 hc.v, hr.2.1.1.2.1]
  by_cases q8 : U 7 0 < 5
  case neg =>
    obtain ⟨f1, f2, f3⟩ := fail2 hc hr 2
    rw [if_neg q8, if_pos (by omega), c_wrong hc, z_bI_mk, if_pos (Or.inl rfl), r_wrong hr, z_bI_mk, if_pos (Or.inl rfl)]
    exact Or.inr ⟨_, _, rfl, rfl, f1, f2, f3⟩
  obtain ⟨c1, e1, h1, f1⟩ := hc.step hT n1 (by omega)
  obtain ⟨r1, e1', h1', f1'⟩ := r_take hT hN hr hp.1 hp.2 (by omega)
  rw [if_pos q8, lo_1_0 hc.o, e1, z_bV_mk, if_neg (by omega), e1', z_bV_mk, lo_1_0 h1.o, h1.a, e_X8_numberOf (h1.co hv), z_bI_mk, lr_26 h1'.1, h1'.2.1.1.2.1]
  have hg : fst (fun i => U 8 i = A (p + 1)) (U 7 0) = fst (fun i => r1 92 (5 + i) = A (p + 1)) (U 7 0) := fst_congr (fun k a b => by rw [(h1'.2.1.2.2.1 k a b).1])
  refine LK.pre f1.gc f1'.gr ?_
  rcases ck_new hT n1 h1 h1' hg (by omega) (by decide) (by show 5 + U 7 0 ≤ 10; omega) (by omega) with ⟨q1, q2, ⟨c2, e2, h2, t2, g2⟩, e2', w2'⟩ | ⟨mc, mr, e2, e2', a1, a2, a3⟩
  case inr =>
    rw [e2, z_bI_mk, if_pos rfl, e2', z_bI_mk, if_pos rfl]
    exact Or.inr ⟨mc, mr, rfl, rfl, a1, a2, a3⟩
  have hp1 := h1.p0
  obtain ⟨r2, e3', h2', f2'⟩ := r_take hT hN h1' hp1.1 hp1.2 (by omega)
  rw [e2, z_bI_mk, if_neg (by decide), t2, e2', z_bI_mk, if_neg (by decide), h1'.2.1.1.2.1, w2', e3', z_bV_mk]
  refine LK.pre g2 f2'.gr ?_
  rcases ck_num hT n1 h2 h2' 1 99 (by decide) with ⟨q3, q4, q5, ⟨c3, e4, h3, t3, g3⟩, e4', w4'⟩ | ⟨mc, mr, e4, e4', a1, a2, a3⟩
  case inr =>
    rw [e4, z_bI_mk, if_pos rfl, e4', z_bI_mk, if_pos rfl]
    exact Or.inr ⟨mc, mr, rfl, rfl, a1, a2, a3⟩
  have hp2 := h2.p0
  have hst := h2'.st hN (a := 93) (k := 5 + U 7 0) (v := A (p + 1 + 1)) (by unfold wSt; omega)
  obtain ⟨r3, e5', h3', f3'⟩ := r_take hT hN hst hp2.1 hp2.2 (by omega)
  rw [e4, z_bI_mk, if_neg (by decide), t3, e4', z_bI_mk, if_neg (by decide), z_add_id (a := 5) (b := U 7 0) (by omega) (by omega), lr_27 h2'.1, la_93, if_pos ⟨by omega, by omega⟩, w4', z_lt_eq, e5', z_bV_mk]
  have v93 : r3 93 (5 + U 7 0) = A (p + 1 + 1) := by rw [f3' _ _ (by omega), z_wr_eq]
  refine LK.pre g3 ((gR.wr (by unfold wRd; omega)).tr f3'.gr) ?_
  rcases ck_key hT n1 hN h3 h3' (κ := 1105) (by decide) (by decide) with ⟨⟨c4, e6, h4, g4⟩, r4, e6', h4', f4'⟩ | ⟨mc, mr, e6, e6', a1, a2, a3⟩
  case inr =>
    rw [rk11] at e6'
    rw [e6, z_bI_mk, if_pos rfl, e6', z_bI_mk, if_pos rfl]
    exact Or.inr ⟨mc, mr, rfl, rfl, a1, a2, a3⟩
  rw [rk11] at e6'
  rw [e6, z_bI_mk, if_neg (by decide), e6', z_bI_mk, if_neg (by decide)]
  refine LK.pre g4 f4'.gr ?_
  rcases ck_num hT n1 h4 h4' 0 199 (by decide) with ⟨q6, q7, q9, ⟨c5, e7, h5, t5, g5⟩, e7', w7'⟩ | ⟨mc, mr, e7, e7', a1, a2, a3⟩
  case inr =>
    rw [e7, z_bI_mk, if_pos rfl, e7', z_bI_mk, if_pos rfl]
    exact Or.inr ⟨mc, mr, rfl, rfl, a1, a2, a3⟩
  have hp4 := h4.p0
  have hst2 := h4'.st hN (a := 94) (k := 5 + U 7 0) (v := A (p + 1 + 1 + 1 + 1)) (by unfold wSt; omega)
  obtain ⟨r5, e8', h5', f5'⟩ := r_take hT hN hst2 hp4.1 hp4.2 (by omega)
  rw [e7, z_bI_mk, if_neg (by decide), t5, e7', z_bI_mk, if_neg (by decide), lr_28 h4'.1, la_94, if_pos ⟨by omega, by omega⟩, w7', z_lt_eq, e8', z_bV_mk]
  have v94 : r5 94 (5 + U 7 0) = A (p + 1 + 1 + 1 + 1) := by rw [f5' _ _ (by omega), z_wr_eq]
  have v93' : r5 93 (5 + U 7 0) = A (p + 1 + 1) := by rw [f5' _ _ (by omega), z_wr_ne (by omega), f4' _ _ (by omega)]; exact v93
  refine LK.pre g5 ((gR.wr (by unfold wRd; omega)).tr f5'.gr) ?_
  rcases ck_key hT n1 hN h5 h5' (κ := 1106) (by decide) (by decide) with ⟨⟨c6, e9, h6, g6⟩, r6, e9', h6', f6'⟩ | ⟨mc, mr, e9, e9', a1, a2, a3⟩
  case inr =>
    rw [rk12] at e9'
    rw [e9, z_bI_mk, if_pos rfl, e9', z_bI_mk, if_pos rfl]
    exact Or.inr ⟨mc, mr, rfl, rfl, a1, a2, a3⟩
  rw [rk12] at e9'
  have v94' : r6 94 (5 + U 7 0) = A (p + 1 + 1 + 1 + 1) := by rw [f6' _ _ (by omega)]; exact v94
  have v93'' : r6 93 (5 + U 7 0) = A (p + 1 + 1) := by rw [f6' _ _ (by omega)]; exact v93'
  rw [e9, z_bI_mk, if_neg (by decide), e9', z_bI_mk, if_neg (by decide), lr_28 h6'.1, la_94, if_pos ⟨by omega, by omega⟩, v94']
  refine LK.pre g6 f6'.gr ?_
  rcases ck_num hT n1 h6 h6' (A (p + 1 + 1 + 1 + 1)) 199 (by decide) with ⟨qa, qb, qc, ⟨c7, ea, h7, t7, g7⟩, ea', wa'⟩ | ⟨mc, mr, ea, ea', a1, a2, a3⟩
  case inr =>
    rw [ea, z_bI_mk, if_pos rfl, ea', z_bI_mk, if_pos rfl]
    exact Or.inr ⟨mc, mr, rfl, rfl, a1, a2, a3⟩
  have hp6 := h6.p0
  generalize hag : A (p + 1 + 1) = ag at *
  generalize hb : A (p + 1 + 1 + 1 + 1) = b at *
  generalize he : A (p + 1 + 1 + 1 + 1 + 1 + 1) = e at *
  obtain ⟨c8, U', e8, hL8, hV8, ha, ff⟩ := e_X8_add hc.1 h7.y h7.v (by omega) q8 (A (p + 1)) ag b e
  have h8 := h7.fc (fun a k q => ff a k (by omega)) hL8 hV8
  have hs1 := h6'.st hN (a := 95) (k := 5 + U 7 0) (v := e) (by unfold wSt; omega)
  have hs2 := hs1.st hN (a := 96) (k := 5 + U 7 0) (v := -1) (by unfold wSt; omega)
  obtain ⟨r7, eb', h7', f7'⟩ := r_take hT hN hs2 hp6.1 hp6.2 (by omega)
  have u93 : r7 93 (5 + U 7 0) = ag := by rw [f7' _ _ (by omega), z_wr_ne (by omega), z_wr_ne (by omega)]; exact v93''
  have u94 : r7 94 (5 + U 7 0) = b := by rw [f7' _ _ (by omega), z_wr_ne (by omega), z_wr_ne (by omega)]; exact v94'
  have u95 : r7 95 (5 + U 7 0) = e := by rw [f7' _ _ (by omega), z_wr_ne (by omega), z_wr_eq]
  have u96 : r7 96 (5 + U 7 0) = -1 := by rw [f7' _ _ (by omega), z_wr_eq]
  have hN' := vOk_aS ha hv q8 q4 q5 q7 qb qc (Or.inl rfl)
  rw [ea', z_bI_mk, if_neg (by decide), lr_29 h6'.1, la_95, if_pos ⟨by omega, by omega⟩, wa', z_lt_eq, lr_30 hs1.1, la_96, if_pos ⟨by omega, by omega⟩, z_lt_eq, eb', z_bV_mk, ← rk13, h7'.k1 (by decide) (by decide), z_bI_mk, ea, z_bI_mk, if_neg (by decide), t7, e8, z_bV_mk, lo_1_0 h8.o, h8.k]
  refine LK.pre (g7.tr (fun a k _ _ _ q => ff a k (by omega))) (((gR.wr (by unfold wRd; omega)).tr (gR.wr (by unfold wRd; omega))).tr f7'.gr) ?_
  by_cases qt : K (p + 1 + 1 + 1 + 1 + 1 + 1 + 1) = 1107
  case neg =>
    rw [if_neg qt, b2i_neg qt, if_pos rfl, lr_26 h7'.1, la_92, if_pos ⟨by omega, by omega⟩, z_lt_eq, z_wr_ne (M := r7) (by omega), h7'.2.1.1.2.1, z_add_id (by omega) (by omega), z_lt_eq]
    exact Or.inl ⟨_, _, rfl, rfl, gC.rf c c8, (gR.wr (by unfold wRd; omega)).tr (gR.wr (by unfold wRd; omega)), U', _, h8, h7'.aS hN q8 ha u93 u94 u95 u96, hN', fun k _ => ha.2.1 0 k (by omega), ha.2.1 13 1 (by omega), by omega, fun h => by rw [ha.2.1 13 0 (by omega)]; exact h⟩
  have hp8 := h8.p0
  obtain ⟨c9, ec, h9, f9⟩ := h8.step hT n1 (by omega)
  obtain ⟨r8, ec', h8', f8'⟩ := r_take hT hN h7' hp8.1 hp8.2 (by omega)
  have y93 : r8 93 (5 + U 7 0) = ag := by rw [f8' _ _ (by omega)]; exact u93
  have y94 : r8 94 (5 + U 7 0) = b := by rw [f8' _ _ (by omega)]; exact u94
  have y95 : r8 95 (5 + U 7 0) = e := by rw [f8' _ _ (by omega)]; exact u95
  rw [if_pos qt, ec, z_bV_mk, b2i_pos qt, if_neg (by decide), ec', z_bV_mk, lr_28 h8'.1, la_94, if_pos ⟨by omega, by omega⟩, lr_29 h8'.1, la_95, if_pos ⟨by omega, by omega⟩, y94, y95]
  refine LK.pre f9.gc f8'.gr ?_
  rcases ck_num hT n1 h9 h8' b e (by omega) with ⟨qd, qe, qf, ⟨ca, ed, hA, tA, gA⟩, ed', wd'⟩ | ⟨mc, mr, ed, ed', a1, a2, a3⟩
  case inr =>
    rw [ed, z_bI_mk, if_pos rfl, ed', z_bI_mk, if_pos rfl]
    exact Or.inr ⟨mc, mr, rfl, rfl, a1, a2, a3⟩
  have hp9 := h9.p0
  generalize htp : A (p + 1 + 1 + 1 + 1 + 1 + 1 + 1 + 1) = tp at *
  have hs3 := h8'.st hN (a := 96) (k := 5 + U 7 0) (v := tp) (by unfold wSt; omega)
  obtain ⟨r9, ee', h9', f9'⟩ := r_take hT hN hs3 hp9.1 hp9.2 (by omega)
  have x93 : r9 93 (5 + U 7 0) = ag := by rw [f9' _ _ (by omega), z_wr_ne (by omega)]; exact y93
  have x94 : r9 94 (5 + U 7 0) = b := by rw [f9' _ _ (by omega), z_wr_ne (by omega)]; exact y94
  have x95 : r9 95 (5 + U 7 0) = e := by rw [f9' _ _ (by omega), z_wr_ne (by omega)]; exact y95
  have x96 : r9 96 (5 + U 7 0) = tp := by rw [f9' _ _ (by omega), z_wr_eq]
  have m70 : ca (c + 7) 0 = U 7 0 + 1 := by rw [cv_7 hA.v]; exact ha.1
  have hB : PC N K A P (z_wr ca (c + 12) (U 7 0) tp) c (z_wr U' 12 (U 7 0) tp) (p + 1 + 1 + 1 + 1 + 1 + 1 + 1 + 1 + 1) := hA.fc (fun a k q => z_wr_ne (by omega)) (hA.y.ag (wr_ag (by unfold pC; omega))) (cEq.wr 12 (U 7 0) tp hA.v)
  have hN2 := vOk_aS (ha.w12 (v := tp)) hv q8 q4 q5 q7 qb qc (Or.inr ⟨qe, qf⟩)
  rw [ed, z_bI_mk, if_neg (by decide), m70, z_sub_id (by omega) (by omega), (by omega : U 7 0 + 1 - 1 = U 7 0), lc_7_5 hA.y, la_c12 hc.1, if_pos ⟨by omega, q8⟩, tA, z_lt_eq, ed', z_bI_mk, if_neg (by decide), lr_30 h8'.1, la_96, if_pos ⟨by omega, by omega⟩, wd', z_lt_eq, ee', z_bV_mk, lr_26 h9'.1, la_92, if_pos ⟨by omega, by omega⟩, z_lt_eq, z_wr_ne (M := r9) (by omega), h9'.2.1.1.2.1, z_add_id (by omega) (by omega), z_lt_eq]
  exact Or.inl ⟨_, _, rfl, rfl, gA.tr (gC.wr (by omega)), (((gR.wr (by unfold wRd; omega)).tr f9'.gr).tr (gR.wr (by unfold wRd; omega))).tr (gR.wr (by unfold wRd; omega)), _, _, hB, h9'.aS hN q8 (ha.w12 (v := tp)) x93 x94 x95 x96, hN2, fun k _ => (ha.w12 (v := tp)).2.1 0 k (by omega), (ha.w12 (v := tp)).2.1 13 1 (by omega), by omega, fun h => by rw [(ha.w12 (v := tp)).2.1 13 0 (by omega)]; exact h⟩
end
