section
/-! ===== reading an E: a value is due ===== -/
def LF (x y : Option (List zV × zM)) (c f : Int) (Mc0 Mr0 : zM) : Prop := ∃ mc mr, x = some ([zI 0], mc) ∧ y = some ([zI 0], mr) ∧ hC c Mc0 mc ∧ hR Mr0 mr ∧ FC mc mr c ∧ (0 ≤ mc 1 6 ∧ mc 1 6 ≤ 72) ∧ (0 ≤ mc (c + f) 0 ∧ mc (c + f) 0 ≤ 64)
def FSt (B K A P Q : Int → Int) (n N c f F : Int) (U Mc0 Mr0 : zM) (p : Int) (x y : Option (List zV × zM)) : Prop := (∃ mc mr W s i wt nm, x = some ([zI 1], mc) ∧ y = some ([zI 1], mr) ∧ FI B K A P Q n N c f F U Mc0 Mr0 (p + 1) mc mr W s i wt nm) ∨ LF x y c f Mc0 Mr0
section
variable {B K A P Q : Int → Int} {n N : Int} {Mc Mr Mc0 Mr0 U U' : zM} {c p f e F : Int}
theorem z_bIo (k : Int → zM → Option zRs) (v : Int) (M' : zM) : z_bI (z_out (some (.inl ([zI v], M')))) k = k v M' := rfl
theorem nz10 : ¬ (1 : Int) = 0 := by decide
theorem f_fail (hf : hFe f e) (F0 : 0 ≤ F) (hc : PC N K A P Mc c U' p) (hP : PW B K A P Q n Mr p) (g1 : gC c Mc0 Mc) (g2 : gW F Mr0 Mr) (h6 : 0 ≤ Mc 1 6 ∧ Mc 1 6 ≤ 72) (hi : 0 ≤ U' f 0 ∧ U' f 0 ≤ 64) (y : Int) : LF (some ([zI 0], z_wr (z_wr Mc 1 2 y) 1 3 (P p))) (some ([zI 0], z_wr (z_wr Mr 84 4 y) 84 5 (P p))) c f Mc0 Mr0 := by
  have hcc : c = 8 ∨ c = 42 := hc.1
  have hfr : f = 25 ∨ f = 27 ∨ f = 29 := by unfold hFe at hf; omega
  have h := hc.ag (m := z_wr (z_wr Mc 1 2 y) 1 3 (P p)) (fun a k q1 q2 => by rw [z_wr_ne (by omega), z_wr_ne (by omega)])
  have ef := (f_lay hf h).2.2 0
  have hw := (hP.wr (a := 84) (k := 4) (v := y) (by omega)).wr (a := 84) (k := 5) (v := P p) (by omega)
  refine ⟨_, _, rfl, rfl, (g1.h.tr (hC.wr (by omega))).tr (hC.wr (by omega)), ((g2.gr F0).h.tr (hR.wr (by omega))).tr (hR.wr (by omega)), ⟨h.2.1, h.o, h.y, ?_, ?_, hw.1, hw.2.2⟩, ?_, by rw [ef]; exact hi⟩
  · rw [z_wr_ne (by omega), z_wr_eq, z_wr_ne (by omega), z_wr_eq]
  · rw [z_wr_eq, z_wr_eq]
  · rw [z_wr_ne (by omega), z_wr_ne (by omega)]; exact h6
theorem c_hold (hT : TS B n 0 N K A P Q) (n1 : n ≤ 800) (hc : PC N K A P Mc c U' p) (hk : K p ≠ 1000) {L : Int} (h6 : Mc 1 6 = L) (l0 : 0 ≤ L) (l1 : L < 72) (y : Int) : ∃ m, zm_X7_hold zLa [zA 7 1, zI y] Mc = some ([zI 1], m) ∧ PC N K A P m c U' (p + 1) ∧ m 1 6 = L + 1 ∧ m 41 L = y ∧ gC c Mc m ∧ (∀ k, k ≠ 6 → m 1 k = Mc 1 k) ∧ ∀ k, k ≠ L → m 41 k = Mc 41 k := by
  have h1 := hc.w41 (k := L) (v := y)
  have h2 := h1.w1 (k := 6) (v := L + 1) (by omega) (by omega)
  obtain ⟨m, em, hm, fm⟩ := h2.step hT n1 hk
  refine ⟨m, ?_, hm, ?_, ?_, ((gC.wr (by omega)).tr (gC.wr (by omega))).tr fm.gc, fun k q => ?_, fun k q => ?_⟩
  · rw [zr_X7_hold]
    refine z_out_some ?_
    rw [zb_X7_hold_0, h6, lo_1_5 hc.o, la_41, if_pos l1, if_pos ⟨l0, l1⟩, z_lt_eq, z_wr_ne (M := Mc) (by omega), h6, z_add_id (by omega) (by omega), z_lt_eq, lo_1_0 h2.o, em, z_bV_mk]
  · rw [fm _ _ (by omega), z_wr_eq]
  · rw [fm _ _ (by omega), z_wr_ne (by omega), z_wr_eq]
  · rw [fm _ _ (by omega), z_wr_ne (by omega), z_wr_ne (by omega)]
  · rw [fm _ _ (by omega), z_wr_ne (by omega), z_wr_ne (by omega)]
theorem c_knot (hc : PC N K A P Mc c U' p) (k0 : 0 ≤ U' 0 8) : (U' 0 8 < 64 → zm_X7_addKnot zLa [zA 7 1] Mc = some ([zI 1], z_wr Mc c 8 (U' 0 8 + 1)) ∧ PC N K A P (z_wr Mc c 8 (U' 0 8 + 1)) c (z_wr U' 0 8 (U' 0 8 + 1)) p) ∧ (¬ U' 0 8 < 64 → zm_X7_addKnot zLa [zA 7 1] Mc = some ([zI 0], z_wr (z_wr Mc 1 2 2) 1 3 (P p))) := by
  refine ⟨fun q => ⟨?_, hc.wc (o := 0) (by omega) (by omega) (by unfold pC; omega)⟩, fun q => ?_⟩
  · rw [zr_X7_addKnot]
    refine z_out_some ?_
    rw [zb_X7_addKnot_0, hc.2.1, cv_0 hc.v, if_pos q, z_add_id (by omega) (by omega), z_lt_eq]
  · rw [zr_X7_addKnot]
    refine z_out_some ?_
    rw [zb_X7_addKnot_0, hc.2.1, cv_0 hc.v, if_neg q, c_wrong hc, z_bI_mk, if_pos (Or.inl rfl)]
theorem r_count (hP : PW B K A P Q n Mr p) {kn : Int} (h55 : Mr 84 55 = kn) (k0 : 0 ≤ kn) (k1 : kn ≤ 64) : (kn < 64 → zm_X12_isCounted zLa [zA 12 84] Mr = some ([zI 1], z_wr Mr 84 55 (kn + 1))) ∧ (¬ kn < 64 → zm_X12_isCounted zLa [zA 12 84] Mr = some ([zI 0], z_wr (z_wr Mr 84 4 2) 84 5 (P p))) := by
  refine ⟨fun q => ?_, fun q => ?_⟩
  · rw [zr_X12_isCounted]
    refine z_out_some ?_
    rw [zb_X12_isCounted_0, h55, if_neg (by omega), z_add_id (by omega) (by omega), z_lt_eq]
  · rw [zr_X12_isCounted]
    refine z_out_some ?_
    rw [zb_X12_isCounted_0, h55, if_pos (by omega), hP.wrong, z_bI_mk, if_pos (Or.inl rfl)]
theorem r_waits (hP : PW B K A P Q n Mr p) {L : Int} (h52 : Mr 84 52 = L) (l0 : 0 ≤ L) (l1 : L < 96) (k : Int) : zm_X12_waitsFor zLa [zA 12 84, zI k] Mr = some ([], z_wr (z_wr Mr 110 L k) 84 52 (L + 1)) := by
  rw [zr_X12_waitsFor]
  refine z_out_some ?_
  rw [zb_X12_waitsFor_0, h52, lr_50 hP.1, la_110, if_pos ⟨l0, l1⟩, z_lt_eq, z_wr_ne (M := Mr) (by omega), h52, z_add_id (by omega) (by omega), z_lt_eq]
theorem rk_lo : ∀ i : Fin 17, rk (1100 + ((i.val : Nat) : Int)) < 17 := by decide +kernel
theorem rk_hi : ∀ i : Fin 10, rk (1117 + ((i.val : Nat) : Int)) = 17 + ((i.val : Nat) : Int) := by decide +kernel
theorem rk_name {K : Int} (h0 : 1117 ≤ K) (h1 : K ≤ 1126) : rk K = K - 1100 := by
  have := rk_hi ⟨(K - 1117).toNat, by omega⟩
  dsimp only at this
  rw [(by omega : (1117 : Int) + ((K - 1117).toNat : Int) = K)] at this
  omega
theorem rk_key {K : Int} (h0 : 1100 ≤ K) (h1 : K ≤ 1116) : rk K < 17 := by
  have := rk_lo ⟨(K - 1100).toNat, by omega⟩
  dsimp only at this
  rw [(by omega : (1100 : Int) + ((K - 1100).toNat : Int) = K)] at this
  exact this
theorem eR_nm {K A kd wh : Int} (h : eR K A kd wh) : ((1117 ≤ K ∧ K ≤ 1126) → kd = 1 ∧ wh = K - 1100) ∧ (¬ (1117 ≤ K ∧ K ≤ 1126) → kd = 1 → wh < 17) := by
  unfold eR at h
  rcases h with h | h | h | h | h | h | h
  · exact ⟨fun q => by omega, fun q => by omega⟩
  · exact ⟨fun q => by omega, fun q => by omega⟩
  · exact ⟨fun q => by omega, fun q => by omega⟩
  · exact ⟨fun q => by omega, fun q => by omega⟩
  · exact ⟨fun q => by omega, fun q => by omega⟩
  · exact ⟨fun q => by omega, fun q => by omega⟩
  · exact ⟨fun q => ⟨h.2.2.1, by rw [h.2.2.2, rk_name q.1 q.2]⟩, fun q _ => by rw [h.2.2.2]; exact rk_key h.1 (by omega)⟩
theorem c_isName (y : Int) (M : zM) : zm_X10_isName zLa [zI y] M = some ([zI (b2i (1117 ≤ y ∧ y ≤ 1126))], M) := by
  rw [zr_X10_isName]
  refine z_out_some ?_
  rw [zb_X10_isName_0]
  repeat' split
  all_goals first | (rw [b2i_pos (by omega)]; done) | (rw [b2i_neg (by omega)]; done) | (exfalso; omega)
theorem s40 : sgc 1011 = 40 := by decide
theorem s41 : sgc 1012 = 41 := by decide
theorem s43 : sgc 1013 = 43 := by decide
theorem s45 : sgc 1014 = 45 := by decide
theorem s42 : sgc 1015 = 42 := by decide
theorem s47 : sgc 1016 = 47 := by decide
theorem s59 : sgc 1010 = 59 := by decide
theorem rk14 : rk 1115 = 14 := by decide
theorem rk15 : rk 1114 = 15 := by decide
theorem rk16 : rk 1116 = 16 := by decide
/-- a '(' on both sides -/
theorem st_open (hT : TS B n 0 N K A P Q) (n1 : n ≤ 800) (hf : hFe f e) {W s : List Int} {i nm : Int} (h : FI B K A P Q n N c f F U Mc0 Mr0 p Mc Mr W s i 1 nm) (hk : K p = 1011) : FSt B K A P Q n N c f F U Mc0 Mr0 p (zm_X7_readValue zLa [zA 7 1, zA 2 (c + f)] Mc) (zm_X12_leafRead zLa [zA 12 84] Mr) := by
  obtain ⟨U', kn, hc, hP, hU, h1, h2, ha, hb, hp, hw, g1, g2⟩ := h
  obtain ⟨⟨p1, p2, p3, p4, p5, p6, -⟩, p8, p9⟩ := hp
  obtain ⟨⟨a1, a2, a3, a4⟩, a5⟩ := ha
  obtain ⟨⟨b1, b2, b3, b4, b5, b6, b7⟩, bw, bs⟩ := hb
  have rg1 := nOp_rng W
  have hp0 := hc.p0
  rw [zr_X7_readValue, zb_X7_readValue_0, lo_1_0 hc.o, hc.k, if_pos hk, zr_X7_readOpen, zb_X7_readOpen_0, a2, zr_X12_leafRead, zb_X12_leafRead_0, ← s40, hP.s1 (by decide) (by decide), z_bI_mk, b2i_pos hk, if_neg nz10, b2]
  by_cases q : nOp W < 8
  case neg =>
    rw [if_neg q, c_wrong hc, z_bI_mk, if_pos (Or.inl rfl), z_bIo, if_pos (Or.inl rfl), if_pos (by omega), hP.wrong, z_bI_mk, if_pos (Or.inl rfl)]
    exact Or.inr (f_fail hf p3 hc hP g1 g2 (by omega) (by omega) 2)
  have c1 := hc.w1 (k := 7) (v := nOp W + 1) (by omega) (by omega)
  have c2 := c1.w1 (k := 9) (v := 1) (by omega) (by omega)
  obtain ⟨m, em, hm, m6, m41, gm, mf1, mf41⟩ := c_hold hT n1 c2 (by omega) (L := W.length) (by rw [z_wr_ne (by omega), z_wr_ne (by omega)]; exact a1) (by omega) (by omega) 1011
  have r1 := hP.wr (a := 84) (k := 54) (v := nOp W + 1) (by omega)
  have r2 := r1.wr (a := 110) (k := W.length) (v := 0) (by omega)
  have r3 := r2.wr (a := 84) (k := 52) (v := W.length + 1) (by omega)
  have r4 := r3.wr (a := 84) (k := 57) (v := 1) (by omega)
  obtain ⟨m', em', hm', fm'⟩ := r4.take hT hp0.1 hp0.2 (by omega)
  have hl := len_c 1011 W
  have no : nOp (1011 :: W) = 1 + nOp W := rfl
  have nb : nBi (1011 :: W) = 0 + nBi W := rfl
  rw [if_pos q, z_add_id (a := nOp W) (by omega) (by omega), z_lt_eq, z_lt_eq, em, z_bI_mk, if_pos (Or.inr rfl), z_bIo, if_pos (Or.inr rfl), if_neg (by omega), z_lt_eq, r_waits r1 ((z_wr_ne (by omega)).trans b1) (by omega) (by omega), z_bV_mk, z_lt_eq, em', z_bV_mk]
  refine Or.inl ⟨m, m', 1011 :: W, s, i, 1, 1, rfl, rfl, U', kn, hm, hm', hU, h1, h2, ⟨⟨?_, ?_, ?_, ?_⟩, ?_, ?_⟩, ⟨⟨?_, ?_, ?_, ?_, ?_, ?_, ?_⟩, ⟨?_, ?_⟩, ?_⟩, ⟨⟨by omega, p2, p3, p4, by omega, by omega, Or.inr rfl⟩, fun q => by omega, fun y hy => ?_⟩, ?_, ?_, ?_⟩
  · rw [m6, hl]
  · rw [mf1 _ (by omega), z_wr_ne (by omega), z_wr_eq]; omega
  · rw [mf1 _ (by omega), z_wr_ne (by omega), z_wr_ne (by omega)]; exact a3
  · rw [mf1 _ (by omega), z_wr_eq]
  · exact m41
  · exact stk_cg W (fun j j0 j1 => by rw [mf41 _ (by omega), z_wr_ne (by omega), z_wr_ne (by omega)]) a5
  · rw [fm' _ _ (by omega), z_wr_ne (by omega), z_wr_eq, hl]
  · rw [fm' _ _ (by omega), z_wr_ne (by omega), z_wr_ne (by omega), z_wr_ne (by omega), z_wr_eq]; omega
  · rw [fm' _ _ (by omega), z_wr_ne (by omega), z_wr_ne (by omega), z_wr_ne (by omega), z_wr_ne (by omega)]; exact b3
  · rw [fm' _ _ (by omega), z_wr_eq]
  · rw [fm' _ _ (by omega), z_wr_ne (by omega), z_wr_ne (by omega), z_wr_ne (by omega), z_wr_ne (by omega)]; exact b5
  · rw [fm' _ _ (by omega), z_wr_ne (by omega), z_wr_ne (by omega), z_wr_ne (by omega), z_wr_ne (by omega)]; exact b6
  · rw [fm' _ _ (by omega), z_wr_ne (by omega), z_wr_ne (by omega), z_wr_ne (by omega), z_wr_ne (by omega)]; exact b7
  · show m' 110 W.length = kK 1011
    rw [fm' _ _ (by omega), z_wr_ne (by omega), z_wr_ne (by omega), z_wr_eq]; rfl
  · exact stk_cg W (fun j j0 j1 => by rw [fm' _ _ (by omega), z_wr_ne (by omega), z_wr_ne (by omega), z_wr_ne (by omega), z_wr_ne (by omega)]) bw
  · exact stk_cg s (fun j j0 j1 => by rw [fm' _ _ (by omega), z_wr_ne (by omega), z_wr_ne (by omega), z_wr_ne (by omega), z_wr_ne (by omega)]) bs
  · rcases List.mem_cons.1 hy with r | r
    · exact Or.inl r
    · exact p9 y r
  · exact wfS_cg _ _ _ _ (fun j j0 j1 => ⟨⟨by show m' 107 _ = _; rw [fm' _ _ (by omega), z_wr_ne (by omega), z_wr_ne (by omega), z_wr_ne (by omega), z_wr_ne (by omega)], by show m' 108 _ = _; rw [fm' _ _ (by omega), z_wr_ne (by omega), z_wr_ne (by omega), z_wr_ne (by omega), z_wr_ne (by omega)], by show m' 109 _ = _; rw [fm' _ _ (by omega), z_wr_ne (by omega), z_wr_ne (by omega), z_wr_ne (by omega), z_wr_ne (by omega)]⟩, rfl⟩) hw
  · exact ((g1.tr (gC.wr (by omega))).tr (gC.wr (by omega))).tr gm
  · exact ((((g2.tr (gW.wr (by unfold wW; omega))).tr (gW.wr (by unfold wW; omega))).tr (gW.wr (by unfold wW; omega))).tr (gW.wr (by unfold wW; omega))).tr fm'.gw
/-- a 'not' on both sides -/
theorem st_not (hT : TS B n 0 N K A P Q) (n1 : n ≤ 800) (hf : hFe f e) {W s : List Int} {i nm : Int} (h : FI B K A P Q n N c f F U Mc0 Mr0 p Mc Mr W s i 1 nm) (hk : K p = 1116) (hnm : nm ≠ 0) : FSt B K A P Q n N c f F U Mc0 Mr0 p (zm_X7_readValue zLa [zA 7 1, zA 2 (c + f)] Mc) (zm_X12_leafRead zLa [zA 12 84] Mr) := by
  obtain ⟨U', kn, hc, hP, hU, h1, h2, ha, hb, hp, hw, g1, g2⟩ := h
  obtain ⟨⟨p1, p2, p3, p4, p5, p6, -⟩, p8, p9⟩ := hp
  obtain ⟨⟨a1, a2, a3, a4⟩, a5⟩ := ha
  obtain ⟨⟨b1, b2, b3, b4, b5, b6, b7⟩, bw, bs⟩ := hb
  have rg1 := nOp_rng W
  have hp0 := hc.p0
  have hcc : c = 8 ∨ c = 42 := hc.1
  have ck := c_knot hc (by omega)
  have rc := r_count hP b7 (by omega) p2
  rw [zr_X7_readValue, zb_X7_readValue_0, lo_1_0 hc.o, hc.k, if_neg (by omega), if_pos hk, a4, if_neg hnm, zr_X12_leafRead, zb_X12_leafRead_0, ← s40, hP.s1 (by decide) (by decide), z_bI_mk, b2i_neg (by omega), if_pos rfl, ← rk16, hP.k1 (by decide) (by decide), z_bI_mk, b2i_pos hk, if_neg (by decide), b4, if_neg hnm]
  by_cases q : kn < 64
  case neg =>
    rw [ck.2 (by omega), z_bI_mk, if_pos rfl, rc.2 q, z_bI_mk, if_pos rfl]
    exact Or.inr (f_fail hf p3 hc hP g1 g2 (by omega) (by omega) 2)
  obtain ⟨e1, c1⟩ := ck.1 (by omega)
  have r0 := hP.wr (a := 84) (k := 55) (v := kn + 1) (by omega)
  obtain ⟨m, em, hm, m6, m41, gm, mf1, mf41⟩ := c_hold hT n1 c1 (by omega) (L := W.length) (by rw [z_wr_ne (by omega)]; exact a1) (by omega) (by omega) 1116
  have r2 := r0.wr (a := 110) (k := W.length) (v := 2) (by omega)
  have r3 := r2.wr (a := 84) (k := 52) (v := W.length + 1) (by omega)
  obtain ⟨m', em', hm', fm'⟩ := r3.take hT hp0.1 hp0.2 (by omega)
  have hl := len_c 1116 W
  have no : nOp (1116 :: W) = 0 + nOp W := rfl
  have nb : nBi (1116 :: W) = 0 + nBi W := rfl
  have hfn : f ≠ 0 ∧ f + 1 ≠ 0 := by unfold hFe at hf; omega
  rw [e1, z_bI_mk, if_neg (by decide), hk, em, z_bI_mk, if_neg (by decide), rc.1 q, z_bI_mk, if_neg (by decide), r_waits r0 ((z_wr_ne (by omega)).trans b1) (by omega) (by omega), z_bV_mk, em', z_bV_mk]
  refine Or.inl ⟨m, m', 1116 :: W, s, i, 1, nm, rfl, rfl, _, kn + 1, hm, hm', fun o k q1 q2 q3 => by rw [z_wr_ne (by omega)]; exact hU o k q1 q2 q3, by rw [z_wr_ne (by omega)]; exact h1, by rw [z_wr_eq, h2], ⟨⟨?_, ?_, ?_, ?_⟩, ?_, ?_⟩, ⟨⟨?_, ?_, ?_, ?_, ?_, ?_, ?_⟩, ⟨?_, ?_⟩, ?_⟩, ⟨⟨by omega, by omega, p3, p4, by omega, by omega, Or.inr rfl⟩, fun q => by omega, fun y hy => ?_⟩, ?_, ?_, ?_⟩
  · rw [m6, hl]
  · rw [mf1 _ (by omega), z_wr_ne (by omega)]; omega
  · rw [mf1 _ (by omega), z_wr_ne (by omega)]; exact a3
  · rw [mf1 _ (by omega), z_wr_ne (by omega)]; exact a4
  · exact m41
  · exact stk_cg W (fun j j0 j1 => by rw [mf41 _ (by omega), z_wr_ne (by omega)]) a5
  · rw [fm' _ _ (by omega), z_wr_eq, hl]
  · rw [fm' _ _ (by omega), z_wr_ne (by omega), z_wr_ne (by omega), z_wr_ne (by omega)]; omega
  · rw [fm' _ _ (by omega), z_wr_ne (by omega), z_wr_ne (by omega), z_wr_ne (by omega)]; exact b3
  · rw [fm' _ _ (by omega), z_wr_ne (by omega), z_wr_ne (by omega), z_wr_ne (by omega)]; exact b4
  · rw [fm' _ _ (by omega), z_wr_ne (by omega), z_wr_ne (by omega), z_wr_ne (by omega)]; exact b5
  · rw [fm' _ _ (by omega), z_wr_ne (by omega), z_wr_ne (by omega), z_wr_ne (by omega)]; exact b6
  · rw [fm' _ _ (by omega), z_wr_ne (by omega), z_wr_ne (by omega), z_wr_eq]
  · show m' 110 W.length = kK 1116
    rw [fm' _ _ (by omega), z_wr_ne (by omega), z_wr_eq]; rfl
  · exact stk_cg W (fun j j0 j1 => by rw [fm' _ _ (by omega), z_wr_ne (by omega), z_wr_ne (by omega), z_wr_ne (by omega)]) bw
  · exact stk_cg s (fun j j0 j1 => by rw [fm' _ _ (by omega), z_wr_ne (by omega), z_wr_ne (by omega), z_wr_ne (by omega)]) bs
  · rcases List.mem_cons.1 hy with r | r
    · exact Or.inr (Or.inl r)
    · exact p9 y r
  · exact wfS_cg _ _ _ _ (fun j j0 j1 => ⟨⟨by show m' 107 _ = _; rw [fm' _ _ (by omega), z_wr_ne (by omega), z_wr_ne (by omega), z_wr_ne (by omega)], by show m' 108 _ = _; rw [fm' _ _ (by omega), z_wr_ne (by omega), z_wr_ne (by omega), z_wr_ne (by omega)], by show m' 109 _ = _; rw [fm' _ _ (by omega), z_wr_ne (by omega), z_wr_ne (by omega), z_wr_ne (by omega)]⟩, z_wr_ne (by omega)⟩) hw
  · exact (g1.tr (gC.wr (by omega))).tr gm
  · exact (((g2.tr (gW.wr (by unfold wW; omega))).tr (gW.wr (by unfold wW; omega))).tr (gW.wr (by unfold wW; omega))).tr fm'.gw
/-- a number or a NAME on both sides: y is the class's code, k and a the reference's -/
theorem st_val (hT : TS B n 0 N K A P Q) (n1 : n ≤ 800) (hf : hFe f e) {W s : List Int} {i nm : Int} (h : FI B K A P Q n N c f F U Mc0 Mr0 p Mc Mr W s i 1 nm) (hk : K p ≠ 1000) {y a : Int} (hx : (K p = 1002 ∧ y = A p ∧ 0 ≤ y ∧ y ≤ 999 ∧ a = y ∧ Mr 84 9 = a) ∨ (1117 ≤ K p ∧ K p ≤ 1126 ∧ y = K p ∧ a = y - 1117 ∧ Mr 84 9 = y - 1100)) : FSt B K A P Q n N c f F U Mc0 Mr0 p (z_out (z_ev (zcd_X7_readValue zLa) 3 [zA 7 1, zA 2 (c + f), zI (K p)] [] Mc)) (z_out (z_ev (zcd_X12_leafRead zLa) 3 [zA 12 84, zI (if K p = 1002 then 0 else 1)] [] Mr)) := by
  obtain ⟨U', kn, hc, hP, hU, h1, h2, ha, hb, hp, hw, g1, g2⟩ := h
  obtain ⟨⟨p1, p2, p3, p4, p5, p6, -⟩, p8, p9⟩ := hp
  obtain ⟨⟨a1, a2, a3, a4⟩, a5⟩ := ha
  obtain ⟨⟨b1, b2, b3, b4, b5, b6, b7⟩, bw, bs⟩ := hb
  have rg1 := nOp_rng W
  have rg2 := nBi_rng W
  have hp0 := hc.p0
  have hcc : c = 8 ∨ c = 42 := hc.1
  have ck := c_knot hc (by omega)
  have rc := r_count hP b7 (by omega) p2
  rw [zb_X7_readValue_3, zb_X12_leafRead_3]
  by_cases q : kn < 64
  case neg =>
    rw [ck.2 (by omega), z_bI_mk, if_pos rfl, rc.2 q, z_bI_mk, if_pos rfl]
    exact Or.inr (f_fail hf p3 hc hP g1 g2 (by omega) (by omega) 2)
  obtain ⟨e1, c1⟩ := ck.1 (by omega)
  have r0 := hP.wr (a := 84) (k := 55) (v := kn + 1) (by omega)
  have hfn : f ≠ 0 ∧ f + 1 ≠ 0 ∧ 25 ≤ f ∧ f ≤ 29 := by unfold hFe at hf; omega
  have h1' : z_wr U' 0 8 (U' 0 8 + 1) f 0 = i := by rw [z_wr_ne (by omega)]; exact h1
  obtain ⟨e2, c2⟩ := c_fadd hf c1 h1' p4 (by omega) y
  have c3 := c2.w1 (k := 8) (v := 0) (by omega) (by omega)
  obtain ⟨m, em, hm, fm⟩ := c3.step hT n1 hk
  obtain ⟨m1, eg, hm1, q53, q20, q111, q107, q108, q109, qfr⟩ := r_grow (F := F) r0 ((z_wr_ne (by omega)).trans b6) p3 p4 (by omega) ((z_wr_ne (by omega)).trans b5) (by omega) (stk_cg s (fun j _ _ => z_wr_ne (by omega)) bs) (if K p = 1002 then 0 else 1) a 0
  have r3 := hm1.wr (a := 84) (k := 56) (v := 0) (by omega)
  obtain ⟨m', em', hm', fm'⟩ := r3.take hT hp0.1 hp0.2 hk
  have w9 : z_wr Mr 84 55 (kn + 1) 84 9 = Mr 84 9 := z_wr_ne (by omega)
  have ecl : z_out (z_bI (zm_X7_addKnot zLa [zA 7 1] Mc) (fun r2 M1 => if r2 = 0 then some (.inl ([zI (0:Int)], M1)) else if K p = (1002:Int) then z_bV (zm_X2_add zLa [zA 2 (c + f), zI (M1 (M1 1 0) 11)] M1) (fun M3 => z_lt (z_wr M3 1 8 (0:Int)) (fun M4 => z_bV (zm_X10_step zLa [zA 10 (M4 1 0)] M4) (fun M5 => some (.inl ([zI (1:Int)], M5))))) else z_bV (zm_X2_add zLa [zA 2 (c + f), zI (K p)] M1) (fun M6 => z_lt (z_wr M6 1 8 (0:Int)) (fun M7 => z_bV (zm_X10_step zLa [zA 10 (M7 1 0)] M7) (fun M8 => some (.inl ([zI (1:Int)], M8))))))) = some ([zI 1], m) := by
    rw [e1, z_bI_mk, if_neg (by decide)]
    rcases hx with ⟨x1, x2, -⟩ | ⟨x1, x2, x3, -⟩
    · rw [if_pos x1, lo_1_0 c1.o, c1.a, ← x2, e2, z_bV_mk, z_lt_eq, lo_1_0 c3.o, em, z_bV_mk]; rfl
    · rw [if_neg (by omega), ← x3, e2, z_bV_mk, z_lt_eq, lo_1_0 c3.o, em, z_bV_mk]; rfl
  have erf : z_out (z_bI (zm_X12_isCounted zLa [zA 12 84] Mr) (fun r2 M1 => if r2 = 0 then some (.inl ([zI (0:Int)], M1)) else if (if K p = 1002 then (0:Int) else 1) = 0 then z_ev (zcd_X12_leafRead zLa) 4 [zA 12 84, zI (if K p = 1002 then 0 else 1)] [zI (0:Int), zA 12 84] M1 else z_ev (zcd_X12_leafRead zLa) 4 [zA 12 84, zI (if K p = 1002 then 0 else 1)] [zI (1:Int), zA 12 84] M1)) = some ([zI 1], m') := by
    rw [rc.1 q, z_bI_mk, if_neg (by decide)]
    rcases hx with ⟨x1, x2, x3, x4, x5, x6⟩ | ⟨x1, x2, x3, x4, x5⟩
    · rw [if_pos x1] at eg ⊢
      rw [if_pos rfl, zb_X12_leafRead_4, if_pos rfl, w9, x6, eg, z_bV_mk, z_lt_eq, em', z_bV_mk]; rfl
    · have k2 : ¬ K p = 1002 := by omega
      rw [if_neg k2] at eg ⊢
      rw [if_neg nz10, zb_X12_leafRead_4, if_neg nz10, w9, x5, z_sub_id (by omega) (by omega), (by omega : y - 1100 - 17 = a), eg, z_bV_mk, z_lt_eq, em', z_bV_mk]; rfl
  rw [ecl, erf]
  have hls := len_c i s
  have ecd : z_wr (z_wr (z_wr U' 0 8 (U' 0 8 + 1)) (f + 1) i y) f 0 (i + 1) (f + 1) i = y := by rw [z_wr_ne (by omega), z_wr_eq]
  have fr : ∀ x j, ¬ (107 ≤ x ∧ x ≤ 109 ∧ j = 64 + (F + i)) → x ≠ 111 → ¬ (x = 84 ∧ (j = 53 ∨ j = 20 ∨ j = 55 ∨ j = 56 ∨ (7 ≤ j ∧ j ≤ 10))) → m' x j = Mr x j := fun x j q1 q2 q3 => by rw [fm' _ _ (by omega), z_wr_ne (by omega), qfr _ _ (by omega) (by omega) (by omega), z_wr_ne (by omega)]
  have fc : ∀ x j, ¬ (x = 2 ∧ 9 ≤ j ∧ j ≤ 12) → ¬ (x = 1 ∧ j = 8) → ¬ (x = c ∧ j = 8) → x ≠ c + f → x ≠ c + f + 1 → m x j = Mc x j := fun x j q1 q2 q3 q4 q5 => by rw [fm _ _ (by omega), z_wr_ne (by omega), z_wr_ne (by omega), z_wr_ne (by omega), z_wr_ne (by omega)]
  have k107 : m' 107 (64 + (F + i)) = if K p = 1002 then 0 else 1 := by rw [fm' _ _ (by omega), z_wr_ne (by omega)]; exact q107
  have k108 : m' 108 (64 + (F + i)) = a := by rw [fm' _ _ (by omega), z_wr_ne (by omega)]; exact q108
  refine Or.inl ⟨m, m', W, i :: s, i + 1, 0, nm, rfl, rfl, _, kn + 1, hm, hm', fun o k q1 q2 q3 => by rw [z_wr_ne (by omega), z_wr_ne (by omega), z_wr_ne (by omega)]; exact hU o k q1 q2 q3, z_wr_eq _ _ _ _, by rw [z_wr_ne (by omega), z_wr_ne (by omega), z_wr_eq, h2], ⟨⟨?_, ?_, ?_, ?_⟩, ?_⟩, ⟨⟨?_, ?_, ?_, ?_, ?_, ?_, ?_⟩, ?_, ?_⟩, ⟨⟨by omega, by omega, p3, by omega, p5, by omega, Or.inl rfl⟩, fun _ => ⟨s, by rw [(by omega : i + 1 - 1 = i)]⟩, p9⟩, ?_, ?_, ?_⟩
  · rw [fc _ _ (by omega) (by omega) (by omega) (by omega) (by omega)]; exact a1
  · rw [fc _ _ (by omega) (by omega) (by omega) (by omega) (by omega)]; exact a2
  · rw [fm _ _ (by omega), z_wr_eq]
  · rw [fc _ _ (by omega) (by omega) (by omega) (by omega) (by omega)]; exact a4
  · exact stk_cg W (fun j j0 j1 => fc _ _ (by omega) (by omega) (by omega) (by omega) (by omega)) a5
  · rw [fr _ _ (by omega) (by omega) (by omega)]; exact b1
  · rw [fr _ _ (by omega) (by omega) (by omega)]; exact b2
  · rw [fm' _ _ (by omega), z_wr_eq]
  · rw [fr _ _ (by omega) (by omega) (by omega)]; exact b4
  · rw [fm' _ _ (by omega), z_wr_ne (by omega), q53, hls]
  · rw [fm' _ _ (by omega), z_wr_ne (by omega), q20]
  · rw [fm' _ _ (by omega), z_wr_ne (by omega), qfr _ _ (by omega) (by omega) (by omega), z_wr_eq]
  · exact stk_cg W (fun j j0 j1 => fr _ _ (by omega) (by omega) (by omega)) bw
  · exact stk_cg (i :: s) (fun j j0 j1 => by rw [fm' _ _ (by omega), z_wr_ne (by omega)]) q111
  · rw [(by omega : (i + 1).toNat = i.toNat + 1)]
    refine wfS_snoc _ _ _ s _ (wfS_cg _ _ _ _ (fun j j0 j1 => ⟨⟨?_, ?_, ?_⟩, ?_⟩) hw) ?_
    · exact fr _ _ (by omega) (by omega) (by omega)
    · exact fr _ _ (by omega) (by omega) (by omega)
    · exact fr _ _ (by omega) (by omega) (by omega)
    · rw [z_wr_ne (by omega), z_wr_ne (by omega), z_wr_ne (by omega)]
    · rw [(by omega : (0 : Int) + (i.toNat : Int) = i)]
      unfold nodeR
      rw [ecd]
      rcases hx with ⟨x1, x2, x3, x4, x5, x6⟩ | ⟨x1, x2, x3, x4, x5⟩
      · rw [if_pos x1] at k107
        exact Or.inl ⟨x3, x4, k107, k108.trans x5, rfl⟩
      · rw [if_neg (by omega)] at k107
        exact Or.inr (Or.inl ⟨by omega, by omega, k107, k108.trans x4, rfl⟩)
  · exact ((((g1.tr (gC.wr (by omega))).tr (gC.wr (by omega))).tr (gC.wr (by omega))).tr (gC.wr (by omega))).tr fm.gc
  · intro x j q
    unfold wW at q
    exact (fr x j (by omega) (by omega) (by omega)).trans (g2 x j (by unfold wW; omega))
theorem st_leaf (hT : TS B n 0 N K A P Q) (n1 : n ≤ 800) (hf : hFe f e) {W s : List Int} {i nm : Int} (h : FI B K A P Q n N c f F U Mc0 Mr0 p Mc Mr W s i 1 nm) : FSt B K A P Q n N c f F U Mc0 Mr0 p (zm_X7_readValue zLa [zA 7 1, zA 2 (c + f)] Mc) (zm_X12_leafRead zLa [zA 12 84] Mr) := by
  have h0 := h
  by_cases q1 : K p = 1011
  · exact st_open hT n1 hf h q1
  by_cases q2 : K p = 1116 ∧ nm ≠ 0
  · exact st_not hT n1 hf h q2.1 q2.2
  obtain ⟨U', kn, hc, hP, hU, h1, h2, ha, hb, hp, hw, g1, g2⟩ := h
  have hp0 := hc.p0
  have a4 := ha.1.2.2.2
  have b4 := hb.1.2.2.2.1
  have rg1 := nOp_rng W
  have a1 := ha.1.1
  have hp1 := hp.1
  have he := eR_num hP.e
  have hm := eR_nm hP.e
  have ec : z_ev (zcd_X7_readValue zLa) 0 [zA 7 1, zA 2 (c + f), zU] [] Mc = z_ev (zcd_X7_readValue zLa) 1 [zA 7 1, zA 2 (c + f), zI (K p)] [] Mc := by
    rw [zb_X7_readValue_0, lo_1_0 hc.o, hc.k, if_neg q1, a4]
    by_cases q3 : K p = 1116
    · rw [if_pos q3, if_pos (Classical.byContradiction (fun r => q2 ⟨q3, r⟩))]
    · rw [if_neg q3]
  have er : z_ev (zcd_X12_leafRead zLa) 0 [zA 12 84, zU] [] Mr = z_ev (zcd_X12_leafRead zLa) 1 [zA 12 84, zU] [] Mr := by
    rw [zb_X12_leafRead_0, ← s40, hP.s1 (by decide) (by decide), z_bI_mk, b2i_neg q1, if_pos rfl, ← rk16, hP.k1 (by decide) (by decide), z_bI_mk]
    by_cases q3 : K p = 1116
    · rw [b2i_pos q3, if_neg (by decide), b4, if_pos (Classical.byContradiction (fun r => q2 ⟨q3, r⟩))]
    · rw [b2i_neg q3, if_pos rfl]
  rw [zr_X7_readValue, zr_X12_leafRead, ec, er, zb_X7_readValue_1, zb_X12_leafRead_1, lo_1_0 hc.o, hc.a]
  by_cases q3 : K p = 1002
  · have hen := (he.1 q3).2
    unfold eN at hen
    have hpos : 0 ≤ A p := by omega
    have k81 : ¬ Mr 84 8 = 1 := by rw [(he.1 q3).1]; decide
    have k90 : ¬ Mr 84 9 < 0 := by omega
    rw [if_pos q3, if_neg k81, zb_X12_leafRead_2, if_pos rfl, zr_X12_numberRead, zb_X12_numberRead_0, if_pos (he.1 q3).1, if_neg k90]
    by_cases q4 : A p ≤ 999
    · have := st_val hT n1 hf h0 (by omega) (y := A p) (a := A p) (Or.inl ⟨q3, rfl, hpos, q4, rfl, by omega⟩)
      rw [if_pos q3] at this
      have k99 : Mr 84 9 ≤ 999 := by omega
      rw [if_pos q4, zb_X7_readValue_2, if_pos q3, if_pos k99, z_bIo, if_neg nz10]
      exact this
    · have k99 : ¬ Mr 84 9 ≤ 999 := by omega
      rw [if_neg q4, if_neg k99, c_wrong hc, z_bI_mk, if_pos (Or.inl rfl), hP.wrong, z_bI_mk, if_pos rfl, z_bIo, if_pos rfl]
      exact Or.inr (f_fail hf hp1.2.2.1 hc hP g1 g2 (by omega) (by omega) 2)
  · rw [if_neg q3, zb_X7_readValue_2, if_neg q3, c_isName, z_bI_mk]
    by_cases q4 : 1117 ≤ K p ∧ K p ≤ 1126
    · have := st_val hT n1 hf h0 (by omega) (y := K p) (a := K p - 1117) (Or.inr ⟨q4.1, q4.2, rfl, rfl, (hm.1 q4).2⟩)
      rw [if_neg q3] at this
      have k17 : ¬ Mr 84 9 < 17 := by rw [(hm.1 q4).2]; omega
      rw [b2i_pos q4, if_neg nz10, if_pos (hm.1 q4).1, if_neg k17, zb_X12_leafRead_2, if_neg nz10]
      exact this
    · have e1 : (if Mr 84 8 = 1 then (if Mr 84 9 < 17 then z_ev (zcd_X12_leafRead zLa) 2 [zA 12 84, zU] [zI 0] Mr else z_ev (zcd_X12_leafRead zLa) 2 [zA 12 84, zU] [zI 1] Mr) else z_ev (zcd_X12_leafRead zLa) 2 [zA 12 84, zU] [zI 0] Mr) = z_ev (zcd_X12_leafRead zLa) 2 [zA 12 84, zU] [zI 0] Mr := by
        by_cases q5 : Mr 84 8 = 1
        · rw [if_pos q5, if_pos (hm.2 q4 q5)]
        · rw [if_neg q5]
      rw [b2i_neg q4, if_pos rfl, c_wrong hc, z_bI_mk, if_pos (Or.inl rfl), e1, zb_X12_leafRead_2, if_pos rfl, zr_X12_numberRead, zb_X12_numberRead_0, if_neg (he.2 q3), hP.wrong, z_bI_mk, if_pos (Or.inl rfl), z_bIo, if_pos rfl]
      exact Or.inr (f_fail hf hp1.2.2.1 hc hP g1 g2 (by omega) (by omega) 1)
end
end
