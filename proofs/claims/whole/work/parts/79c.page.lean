/-! ===== lines of PAGES ===== -/
def aP (U U' : zM) (t y v : Int) : Prop := U' 19 0 = U 19 0 + 1 ∧ (∀ o k, (o < 19 ∨ 22 < o ∨ (o = 19 ∧ k ≠ 0) ∨ (20 ≤ o ∧ o ≤ 22 ∧ k ≠ U 19 0)) → U' o k = U o k) ∧ U' 20 (U 19 0) = t ∧ U' 21 (U 19 0) = y ∧ U' 22 (U 19 0) = v
theorem vOk_aP {U U' : zM} {t y v : Int} (h : aP U U' t y v) (hv : vOk U) (n20 : U 19 0 < 20) (t0 : 0 ≤ t) (t1 : t < U 7 0) (y0 : 0 ≤ y) (y1 : y < U 1 0) (v0 : 0 ≤ v) (v1 : v < U 3 y) : vOk U' := by
  obtain ⟨h0, ho, h20, h21, h22⟩ := h
  obtain ⟨hN, hT, hS, hL, hm, hp⟩ := hv
  have e' : ∀ o k, o < 19 ∨ 22 < o → U' o k = U o k := fun o k q => ho o k (by omega)
  refine ⟨?_, ?_, ?_, ?_, ?_, ?_⟩
  · unfold vOkN
    rw [h0, e' 1 0 (by decide), e' 7 0 (by decide), e' 13 0 (by decide), e' 13 1 (by decide), e' 0 9 (by decide)]
    omega
  · intro k k0 k1
    rw [e' 1 0 (by decide)] at k1
    rw [e' 3 k (by decide), e' 4 k (by decide), e' 5 k (by decide), e' 6 k (by decide)]
    exact hT k k0 k1
  · intro k k0 k1
    rw [e' 7 0 (by decide)] at k1
    rw [e' 9 k (by decide), e' 10 k (by decide), e' 11 k (by decide), e' 12 k (by decide)]
    exact hS k k0 k1
  · intro k k0 k1
    rw [e' 13 0 (by decide)] at k1
    have := hL k k0 k1
    rw [e' 14 k (by decide), e' 15 k (by decide), e' 16 k (by decide), e' 17 k (by decide), e' 18 k (by decide), e' 7 0 (by decide), e' 10 _ (by decide), e' 11 _ (by decide), e' 1 0 (by decide), e' 3 _ (by decide)]
    exact this
  · intro i j i0 ij j1
    rw [e' 13 0 (by decide)] at j1
    rw [e' 15 i (by decide), e' 15 j (by decide), e' 16 i (by decide), e' 16 j (by decide)]
    exact hm i j i0 ij j1
  · intro k k0 k1
    rw [h0] at k1
    by_cases q : k = U 19 0
    · rw [q, h20, h21, h22, e' 7 0 (by decide), e' 1 0 (by decide), e' 3 _ (by decide)]
      exact ⟨t0, t1, y0, y1, v0, v1⟩
    · rw [ho 20 k (by omega), ho 21 k (by omega), ho 22 k (by omega), e' 7 0 (by decide), e' 1 0 (by decide), e' 3 _ (by decide)]
      exact hp k k0 (by omega)
section
variable {M V : zM} {c : Int}
theorem e_X6_add (hc : zCc c) (hL : LyC M c) (hV : cEq M c V) (n0 : 0 ≤ V 19 0) (n1 : V 19 0 < 20) (t y v : Int) : ∃ M' U', zm_X6_add zLa [zA 6 (c + 19), zI t, zI y, zI v] M = some ([], M') ∧ LyC M' c ∧ cEq M' c U' ∧ aP V U' t y v ∧ ∀ a k, ¬ (c + 19 ≤ a ∧ a ≤ c + 22) → M' a k = M a k := by
  have lay : ∀ {m : zM} {o k y : Int}, (20 ≤ o ∧ o ≤ 22) ∨ (o = 19 ∧ k = 0) → LyC m c → LyC (z_wr m (c + o) k y) c := fun ho h => h.ag (wr_ag (by unfold pC; omega))
  have hL1 := lay (o := 20) (k := V 19 0) (y := t) (by omega) hL
  have hV1 := cEq.wr 20 (V 19 0) t hV
  have hL2 := lay (o := 21) (k := V 19 0) (y := y) (by omega) hL1
  have hV2 := cEq.wr 21 (V 19 0) y hV1
  have hL3 := lay (o := 22) (k := V 19 0) (y := v) (by omega) hL2
  have hV3 := cEq.wr 22 (V 19 0) v hV2
  have a0 : M (c + 19) 0 = V 19 0 := cv_19 hV 0
  have a1 := cv_19 hV1 0
  have a2 := cv_19 hV2 0
  have a3 := cv_19 hV3 0
  rw [z_wr_ne (M := V) (by omega)] at a1
  rw [z_wr_ne (a := 21) (by omega), z_wr_ne (M := V) (by omega)] at a2
  rw [z_wr_ne (a := 22) (by omega), z_wr_ne (a := 21) (by omega), z_wr_ne (M := V) (by omega)] at a3
  refine ⟨_, _, ?_, lay (o := 19) (k := 0) (y := V 19 0 + 1) (by omega) hL3, cEq.wr 19 0 (V 19 0 + 1) hV3, ⟨z_wr_eq _ _ _ _, fun o k q => ?_, ?_, ?_, ?_⟩, fun a k q => ?_⟩
  · rw [zr_X6_add]
    refine z_out_some ?_
    rw [zb_X6_add_0, a0, if_pos n1, lc_19_1 hL, la_c20 hc, if_pos ⟨n0, n1⟩, z_lt_eq, a1, lc_19_2 hL1, la_c21 hc, if_pos ⟨n0, n1⟩, z_lt_eq, a2, lc_19_3 hL2, la_c22 hc, if_pos ⟨n0, n1⟩, z_lt_eq, a3, z_add_id (by omega) (by omega), z_lt_eq]
  · rw [z_wr_ne (by omega), z_wr_ne (by omega), z_wr_ne (by omega), z_wr_ne (by omega)]
  · rw [z_wr_ne (by omega), z_wr_ne (by omega), z_wr_ne (by omega), z_wr_eq]
  · rw [z_wr_ne (by omega), z_wr_ne (by omega), z_wr_eq]
  · rw [z_wr_ne (by omega), z_wr_eq]
  · rw [z_wr_ne (by omega), z_wr_ne (by omega), z_wr_ne (by omega), z_wr_ne (by omega)]
end
section
variable {B K A P Q : Int → Int} {n N : Int} {Mc Mr U U' : zM} {c p : Int}
theorem PR.aP {t y v : Int} (hv : vOkN U) (n20 : U 19 0 < 20) (h : PR B K A P Q n Mr U p) (ha : aP U U' t y v) (g3 : Mr 102 (20 + U 19 0) = t) (g4 : Mr 103 (20 + U 19 0) = y) (g5 : Mr 104 (20 + U 19 0) = v) : PR B K A P Q n (z_wr Mr 84 19 (U 19 0 + 1)) U' p := by
  obtain ⟨h0, ho, h2, h3, h4⟩ := ha
  have e' : ∀ o k, o < 19 ∨ 22 < o → U' o k = U o k := fun o k q => ho o k (by omega)
  have fr : ∀ a k, ¬ (a = 84 ∧ k = 19) → z_wr Mr 84 19 (U 19 0 + 1) a k = Mr a k := fun a k q1 => z_wr_ne (by omega)
  have e19 : z_wr Mr 84 19 (U 19 0 + 1) 84 19 = U 19 0 + 1 := z_wr_eq _ _ _ _
  generalize z_wr Mr 84 19 (U 19 0 + 1) = R at fr e19 ⊢
  have t := h.tk
  have hm := h.2.1
  refine ⟨h.1.ag (fun a k q => fr a k (by unfold pR at q; omega)), ⟨⟨?_, ?_, ?_, by rw [e19, h0]⟩, fun k x y => ?_, fun k x y => ?_, fun k x y => ?_, fun k x y => ?_⟩, fRd.u (fun o k q => ho o k (by omega)) (fRd.ag (fr _ _ (by omega)) (fr _ _ (by omega)) (fun j _ _ => ⟨fr _ _ (by omega), fr _ _ (by omega)⟩) (fun j _ _ => ⟨fr _ _ (by omega), fr _ _ (by omega), fr _ _ (by omega)⟩) h.2.2.1), ⟨⟨(fr _ _ (by omega)).trans t.1.1, (fr _ _ (by omega)).trans t.1.2.1, (fr _ _ (by omega)).trans t.1.2.2.1, fun j x y => (fr _ _ (by omega)).trans (t.1.2.2.2.1 j x y), fun j x y => (fr _ _ (by omega)).trans (t.1.2.2.2.2 j x y)⟩, (fr _ _ (by omega)).trans t.2.1, (fr _ _ (by omega)).trans t.2.2.1, by rw [fr _ _ (by omega), fr _ _ (by omega)]; exact t.2.2.2⟩, bR.ag (fun k => fr _ _ (by omega)) h.2.2.2.2⟩
  · rw [e' _ _ (by decide), fr _ _ (by omega)]; exact hm.1.1
  · rw [e' _ _ (by decide), fr _ _ (by omega)]; exact hm.1.2.1
  · rw [e' _ _ (by decide), fr _ _ (by omega)]; exact hm.1.2.2.1
  · rw [e' _ _ (by decide)] at y
    have := hm.2.1 k x y
    rw [e' 2 k (by decide), e' 3 k (by decide), e' 4 k (by decide), e' 5 k (by decide), e' 6 k (by decide), fr _ _ (by omega), fr _ _ (by omega), fr _ _ (by omega), fr _ _ (by omega), fr _ _ (by omega)]
    exact this
  · rw [e' _ _ (by decide)] at y
    have := hm.2.2.1 k x y
    rw [e' 8 k (by decide), e' 9 k (by decide), e' 10 k (by decide), e' 11 k (by decide), e' 12 k (by decide), fr _ _ (by omega), fr _ _ (by omega), fr _ _ (by omega), fr _ _ (by omega), fr _ _ (by omega)]
    exact this
  · rw [e' _ _ (by decide)] at y
    have := hm.2.2.2.1 k x y
    rw [e' 14 k (by decide), e' 15 k (by decide), e' 16 k (by decide), e' 17 k (by decide), e' 18 k (by decide), fr _ _ (by omega), fr _ _ (by omega), fr _ _ (by omega), fr _ _ (by omega), fr _ _ (by omega)]
    exact this
  · rw [h0] at y
    by_cases q : k = U 19 0
    · rw [q, h2, h3, h4, fr _ _ (by omega), fr _ _ (by omega), fr _ _ (by omega)]
      exact ⟨g3, g4, g5⟩
    · have := hm.2.2.2.2 k x (by omega)
      rw [ho 20 k (by omega), ho 21 k (by omega), ho 22 k (by omega), fr _ _ (by omega), fr _ _ (by omega), fr _ _ (by omega)]
      exact this
theorem ck_tel (hT : TS B n 0 N K A P Q) (n1 : n ≤ 800) (hv : vOk U) (hc : PC N K A P Mc c U p) (hr : PR B K A P Q n Mr U p) : (∃ t, 0 ≤ t ∧ t < U 7 0 ∧ K p = 1003 ∧ (∃ m, zm_X7_takeTeller zLa [zA 7 1] Mc = some ([zI 1], m) ∧ PC N K A P m c U (p + 1) ∧ m 1 4 = t ∧ gC c Mc m) ∧ zm_X12_there zLa [zA 12 84, zA 13 92, zI 5, zI (U 7 0)] Mr = some ([zI 1], Mr) ∧ zm_X12_find zLa [zA 12 84, zA 13 92, zI 5, zI (U 7 0), zI (Mr 84 9)] Mr = some ([zI t], Mr)) ∨ LN (zm_X7_takeTeller zLa [zA 7 1] Mc) (zm_X12_there zLa [zA 12 84, zA 13 92, zI 5, zI (U 7 0)] Mr) c Mc Mr := by
  have hN := hv.1
  have hg : fst (fun i => U 8 i = A p) (U 7 0) = fst (fun i => Mr 92 (5 + i) = A p) (U 7 0) := fst_congr (fun k a b => by rw [(hr.2.1.2.2.1 k a b).1])
  rw [zr_X7_takeTeller, zb_X7_takeTeller_0, hc.2.1, lc_0_1 hc.y, lo_1_0 hc.o, hc.a, e_X8_numberOf (hc.co hv), z_bI_mk]
  rcases ck_old hT n1 hc hr hg (by omega) (by decide) (by show 5 + U 7 0 ≤ 10; omega) (by omega) with ⟨q1, q2, q3, ⟨m, e, h1, t1, g1⟩, e', w'⟩ | ⟨mc, mr, e, e', a1, a2, a3⟩
  · refine Or.inl ⟨_, q2, q3, q1, ⟨m, ?_, h1, t1, g1⟩, e', ?_⟩
    · rw [e, z_bI_mk, if_pos (Or.inr rfl)]; rfl
    · rw [w', e_findR (by decide) (by omega) (by show 5 + U 7 0 ≤ 10; omega) (by omega), hg]
  · refine Or.inr ⟨mc, mr, ?_, e', a1, a2, a3⟩
    rw [e, z_bI_mk, if_pos (Or.inl rfl)]; rfl
theorem ck_thg (hT : TS B n 0 N K A P Q) (n1 : n ≤ 800) (hv : vOk U) (hc : PC N K A P Mc c U p) (hr : PR B K A P Q n Mr U p) : (∃ t, 0 ≤ t ∧ t < U 1 0 ∧ K p = 1003 ∧ (∃ m, zm_X7_takeThing zLa [zA 7 1] Mc = some ([zI 1], m) ∧ PC N K A P m c U (p + 1) ∧ m 1 4 = t ∧ gC c Mc m) ∧ zm_X12_there zLa [zA 12 84, zA 13 87, zI 8, zI (U 1 0)] Mr = some ([zI 1], Mr) ∧ zm_X12_find zLa [zA 12 84, zA 13 87, zI 8, zI (U 1 0), zI (Mr 84 9)] Mr = some ([zI t], Mr)) ∨ LN (zm_X7_takeThing zLa [zA 7 1] Mc) (zm_X12_there zLa [zA 12 84, zA 13 87, zI 8, zI (U 1 0)] Mr) c Mc Mr := by
  have hN := hv.1
  have hg : fst (fun i => U 2 i = A p) (U 1 0) = fst (fun i => Mr 87 (8 + i) = A p) (U 1 0) := fst_congr (fun k a b => by rw [(hr.2.1.2.1 k a b).1])
  rw [zr_X7_takeThing, zb_X7_takeThing_0, hc.2.1, lc_0_0 hc.y, lo_1_0 hc.o, hc.a, e_X9_numberOf (hc.co hv), z_bI_mk]
  rcases ck_old hT n1 hc hr hg (by omega) (by decide) (by show 8 + U 1 0 ≤ 16; omega) (by omega) with ⟨q1, q2, q3, ⟨m, e, h1, t1, g1⟩, e', w'⟩ | ⟨mc, mr, e, e', a1, a2, a3⟩
  · refine Or.inl ⟨_, q2, q3, q1, ⟨m, ?_, h1, t1, g1⟩, e', ?_⟩
    · rw [e, z_bI_mk, if_pos (Or.inr rfl)]; rfl
    · rw [w', e_findR (by decide) (by omega) (by show 8 + U 1 0 ≤ 16; omega) (by omega), hg]
  · refine Or.inr ⟨mc, mr, ?_, e', a1, a2, a3⟩
    rw [e, z_bI_mk, if_pos (Or.inl rfl)]; rfl
theorem ck_val (hT : TS B n 0 N K A P Q) (n1 : n ≤ 800) (hv : vOk U) (hc : PC N K A P Mc c U p) (hr : PR B K A P Q n Mr U p) {y : Int} (y0 : 0 ≤ y) (y1 : y < U 1 0) : (K p = 1002 ∧ 0 ≤ A p ∧ A p < U 3 y ∧ (∃ m, zm_X7_takeValue zLa [zA 7 1, zI y] Mc = some ([zI 1], m) ∧ PC N K A P m c U (p + 1) ∧ m 1 4 = A p ∧ gC c Mc m) ∧ zm_X12_numberRead zLa [zA 12 84, zI 0, zI (U 3 y - 1)] Mr = some ([zI 1], Mr) ∧ Mr 84 9 = A p) ∨ LN (zm_X7_takeValue zLa [zA 7 1, zI y] Mc) (zm_X12_numberRead zLa [zA 12 84, zI 0, zI (U 3 y - 1)] Mr) c Mc Mr := by
  have hN := hv.1
  have hw := hv.2.1 y y0 y1
  rw [zr_X7_takeValue, zb_X7_takeValue_0, hc.2.1, lc_0_0 hc.y, lc_1_2 hc.y, la_c3 hc.1, if_pos ⟨y0, by omega⟩, cv_3 hc.v, z_sub_id (by omega) (by omega)]
  rcases ck_num hT n1 hc hr 0 (U 3 y - 1) (by omega) with ⟨q1, q2, q3, ⟨m, e, h1, t1, g1⟩, e', w'⟩ | ⟨mc, mr, e, e', a1, a2, a3⟩
  · refine Or.inl ⟨q1, q2, by omega, ⟨m, ?_, h1, t1, g1⟩, e', w'⟩
    rw [e, z_bI_mk, if_pos (Or.inr rfl)]; rfl
  · refine Or.inr ⟨mc, mr, ?_, e', a1, a2, a3⟩
    rw [e, z_bI_mk, if_pos (Or.inl rfl)]; rfl
theorem l_page (hT : TS B n 0 N K A P Q) (n1 : n ≤ 800) (hv : vOk U) (hc : PC N K A P Mc c U p) (hr : PR B K A P Q n Mr U p) (hk : K p = 1110) : LK (zm_X7_readPage zLa [zA 7 1] Mc) (zm_X12_pageLine zLa [zA 12 84] Mr) c Mc Mr (SK B K A P Q n N c p U) := by
  have hN := hv.1
  have hp := hc.p0
  have hcc : c = 8 ∨ c = 42 := hc.1
  rw [zr_X7_readPage, zr_X12_pageLine, zb_X7_readPage_0, zb_X12_pageLine_0, hc.2.1, lc_0_3 hc.y, cv_19 hc.v, hr.2.1.1.2.2.2]
  by_cases q8 : U 19 0 < 20
  case neg =>
    obtain ⟨f1, f2, f3⟩ := fail2 hc hr 2
    rw [if_neg q8, if_pos (by omega), c_wrong hc, z_bI_mk, if_pos (Or.inl rfl), r_wrong hr, z_bI_mk, if_pos (Or.inl rfl)]
    exact Or.inr ⟨_, _, rfl, rfl, f1, f2, f3⟩
  obtain ⟨c1, e1, h1, f1⟩ := hc.step hT n1 (by omega)
  obtain ⟨r1, e1', h1', f1'⟩ := r_take hT hN hr hp.1 hp.2 (by omega)
  rw [if_pos q8, lo_1_0 hc.o, e1, z_bV_mk, if_neg (by omega), e1', z_bV_mk, lr_26 h1'.1, h1'.2.1.1.2.1]
  refine LK.pre f1.gc f1'.gr ?_
  rcases ck_tel hT n1 hv h1 h1' with ⟨t, t0, t1, q1, ⟨c2, e2, h2, t2, g2⟩, e2', w2'⟩ | ⟨mc, mr, e2, e2', a1, a2, a3⟩
  case inr =>
    rw [e2, z_bI_mk, if_pos rfl, e2', z_bI_mk, if_pos rfl]
    exact Or.inr ⟨mc, mr, rfl, rfl, a1, a2, a3⟩
  have hp1 := h1.p0
  have hst := h1'.st hN (a := 102) (k := 20 + U 19 0) (v := t) (by unfold wSt; omega)
  obtain ⟨r2, e3', h2', f2'⟩ := r_take hT hN hst hp1.1 hp1.2 (by omega)
  rw [e2, z_bI_mk, if_neg (by decide), t2, e2', z_bI_mk, if_neg (by decide), lr_26 h1'.1, h1'.2.1.1.2.1, w2', z_bI_mk, h1'.2.1.1.2.2.2, z_add_id (a := 20) (b := U 19 0) (by omega) (by omega), lr_36 h1'.1, la_102, if_pos ⟨by omega, by omega⟩, z_lt_eq, e3', z_bV_mk, lr_21 h2'.1, h2'.2.1.1.1]
  have v102 : r2 102 (20 + U 19 0) = t := by rw [f2' _ _ (by omega), z_wr_eq]
  refine LK.pre g2 ((gR.wr (by unfold wRd; omega)).tr f2'.gr) ?_
  rcases ck_thg hT n1 hv h2 h2' with ⟨y, y0, y1, q3, ⟨c3, e4, h3, t3, g3⟩, e4', w4'⟩ | ⟨mc, mr, e4, e4', a1, a2, a3⟩
  case inr =>
    rw [e4, z_bI_mk, if_pos rfl, e4', z_bI_mk, if_pos rfl]
    exact Or.inr ⟨mc, mr, rfl, rfl, a1, a2, a3⟩
  have hp2 := h2.p0
  have hst2 := h2'.st hN (a := 103) (k := 20 + U 19 0) (v := y) (by unfold wSt; omega)
  obtain ⟨r3, e5', h3', f3'⟩ := r_take hT hN hst2 hp2.1 hp2.2 (by omega)
  have hwy := hv.2.1 y y0 y1
  have m88 : r3 88 (8 + y) = U 3 y := (h3'.2.1.2.1 y y0 y1).2.1
  rw [e4, z_bI_mk, if_neg (by decide), t3, e4', z_bI_mk, if_neg (by decide), lr_21 h2'.1, h2'.2.1.1.1, w4', z_bI_mk, lr_37 h2'.1, la_103, if_pos ⟨by omega, by omega⟩, z_lt_eq, e5', z_bV_mk, z_add_id (a := 8) (b := y) (by omega) (by omega), lr_22 h3'.1, la_88, if_pos ⟨by omega, by omega⟩, m88, z_sub_id (by omega) (by omega)]
  have v103 : r3 103 (20 + U 19 0) = y := by rw [f3' _ _ (by omega), z_wr_eq]
  have v102' : r3 102 (20 + U 19 0) = t := by rw [f3' _ _ (by omega), z_wr_ne (by omega)]; exact v102
  refine LK.pre g3 ((gR.wr (by unfold wRd; omega)).tr f3'.gr) ?_
  rcases ck_val hT n1 hv h3 h3' y0 y1 with ⟨q6, q7, q9, ⟨c5, e7, h5, t5, g5⟩, e7', w7'⟩ | ⟨mc, mr, e7, e7', a1, a2, a3⟩
  case inr =>
    rw [e7, z_bI_mk, if_pos rfl, e7', z_bI_mk, if_pos rfl]
    exact Or.inr ⟨mc, mr, rfl, rfl, a1, a2, a3⟩
  have hp3 := h3.p0
  obtain ⟨c6, U', e8, hL6, hV6, ha, ff⟩ := e_X6_add hc.1 h5.y h5.v (by omega) q8 t y (A (p + 1 + 1 + 1))
  have h6 := h5.fc (fun a k q => ff a k (by omega)) hL6 hV6
  have hN' := vOk_aP ha hv q8 t0 t1 y0 y1 q7 q9
  have hst3 := h3'.st hN (a := 104) (k := 20 + U 19 0) (v := A (p + 1 + 1 + 1)) (by unfold wSt; omega)
  have hst4 := hst3.aP hN q8 ha (by rw [z_wr_ne (by omega)]; exact v102') (by rw [z_wr_ne (by omega)]; exact v103) (z_wr_eq _ _ _ _)
  obtain ⟨r5, e9', h5', f5'⟩ := r_take hT hN'.1 hst4 hp3.1 hp3.2 (by omega)
  rw [e7, z_bI_mk, if_neg (by decide), h5.2.1, lc_0_3 h5.y, t5, e8, z_bV_mk, e7', z_bI_mk, if_neg (by decide), lr_38 h3'.1, la_104, if_pos ⟨by omega, by omega⟩, w7', z_lt_eq, z_wr_ne (M := r3) (by omega), h3'.2.1.1.2.2.2, z_add_id (by omega) (by omega), z_lt_eq, e9', z_bV_mk]
  exact Or.inl ⟨_, _, rfl, rfl, g5.tr (fun a k _ _ _ q => ff a k (by omega)), ((gR.wr (by unfold wRd; omega)).tr (gR.wr (by unfold wRd; omega))).tr f5'.gr, U', _, h6, h5', hN', fun k _ => ha.2.1 0 k (by omega), ha.2.1 13 1 (by omega), by omega, fun h => by rw [ha.2.1 13 0 (by omega)]; exact h⟩
end
