section
/-! ===== reading an E: a sign is due ===== -/
section
variable {B K A P Q : Int → Int} {n N : Int} {Mc Mr Mc0 Mr0 U U' : zM} {c p f e F : Int}
theorem eR_cmp {K A kd wh : Int} (h : eR K A kd wh) : ((1017 ≤ K ∧ K ≤ 1022) → kd = 5 ∧ wh = K - 1017) ∧ (¬ (1017 ≤ K ∧ K ≤ 1022) → kd ≠ 5) := by
  unfold eR at h
  rcases h with h | h | h | h | h | h | h
  · exact ⟨fun q => by omega, fun q => by omega⟩
  · exact ⟨fun q => by omega, fun q => by omega⟩
  · exact ⟨fun q => by omega, fun q => by omega⟩
  · exact ⟨fun q => by omega, fun q => by omega⟩
  · exact ⟨fun q => by omega, fun q => by omega⟩
  · exact ⟨fun q => ⟨h.2.2.1, h.2.2.2⟩, fun q => by omega⟩
  · exact ⟨fun q => by omega, fun q => by omega⟩
abbrev isBn (y : Int) : Prop := y = 1115 ∨ y = 1114 ∨ (1013 ≤ y ∧ y ≤ 1022)
theorem bn_sg {y : Int} (h : isBn y) : isSg y ∧ y ≠ 1011 ∧ y ≠ 1116 := by unfold isBn at h; refine ⟨?_, by omega, by omega⟩; unfold isSg; omega
theorem bn_cases {y : Int} (h : isBn y) : y = 1115 ∨ y = 1114 ∨ y = 1013 ∨ y = 1014 ∨ y = 1015 ∨ y = 1016 ∨ y = 1017 ∨ y = 1018 ∨ y = 1019 ∨ y = 1020 ∨ y = 1021 ∨ y = 1022 := by unfold isBn at h; omega
theorem bn_rnk {y : Int} (h : isBn y) : rnk y ≠ 0 ∧ rnk y ≠ 3 ∧ 1 ≤ rnk y ∧ kK y ≠ 0 := by
  rcases bn_cases h with r | r | r | r | r | r | r | r | r | r | r | r <;> subst r <;> decide
theorem nb_rnk {y : Int} (h : ¬ isBn y) : rnk y = 0 ∨ rnk y = 3 := by
  unfold isBn at h
  unfold rnk
  rw [if_neg (by omega), if_neg (by omega), if_neg (by omega), if_neg (by omega), if_neg (by omega), if_neg (by omega)]
  (repeat' split) <;> omega
/-- which sign the reference sees -/
theorem sg_k (hP : PW B K A P Q n Mr p) (w1 : zV) : z_ev (zcd_X12_signs zLa) 1 [zA 12 84, w1] [] Mr = z_ev (zcd_X12_signs zLa) 2 [zA 12 84, w1] [zI (cite (isBn (K p)) (kK (K p)) 0)] Mr := by
  have hc := eR_cmp hP.e
  rw [zb_X12_signs_1, ← rk14, hP.k1 (by decide) (by decide), z_bI_mk]
  by_cases q1 : K p = 1115
  · rw [b2i_pos q1, if_neg nz10, cite_pos (Or.inl q1), q1]; rfl
  rw [b2i_neg q1, if_pos rfl, ← rk15, hP.k1 (by decide) (by decide), z_bI_mk]
  by_cases q2 : K p = 1114
  · rw [b2i_pos q2, if_neg nz10, cite_pos (Or.inr (Or.inl q2)), q2]; rfl
  rw [b2i_neg q2, if_pos rfl]
  by_cases q3 : 1017 ≤ K p ∧ K p ≤ 1022
  · have ek : kK (K p) = 5 + (K p - 1017) := by
      unfold kK
      rw [if_neg (by omega), if_neg (by omega), if_neg (by omega), if_neg (by omega), if_neg (by omega), if_neg (by omega)]
      omega
    rw [if_pos (hc.1 q3).1, (hc.1 q3).2, cite_pos (Or.inr (Or.inr ⟨by omega, by omega⟩)), ek, z_add_id (by omega) (by omega)]
  rw [if_neg (hc.2 q3), ← s43, hP.s1 (by decide) (by decide), z_bI_mk]
  by_cases q4 : K p = 1013
  · rw [b2i_pos q4, if_neg nz10, cite_pos (Or.inr (Or.inr ⟨by omega, by omega⟩)), q4]; rfl
  rw [b2i_neg q4, if_pos rfl, ← s45, hP.s1 (by decide) (by decide), z_bI_mk]
  by_cases q5 : K p = 1014
  · rw [b2i_pos q5, if_neg nz10, cite_pos (Or.inr (Or.inr ⟨by omega, by omega⟩)), q5]; rfl
  rw [b2i_neg q5, if_pos rfl, ← s42, hP.s1 (by decide) (by decide), z_bI_mk]
  by_cases q6 : K p = 1015
  · rw [b2i_pos q6, if_neg nz10, cite_pos (Or.inr (Or.inr ⟨by omega, by omega⟩)), q6]; rfl
  rw [b2i_neg q6, if_pos rfl, ← s47, hP.s1 (by decide) (by decide), z_bI_mk]
  by_cases q7 : K p = 1016
  · rw [b2i_pos q7, if_neg nz10, cite_pos (Or.inr (Or.inr ⟨by omega, by omega⟩)), q7]; rfl
  rw [b2i_neg q7, if_pos rfl, cite_neg (by unfold isBn; omega)]
theorem FI.rng {W s : List Int} {i wt nm : Int} (h : FI B K A P Q n N c f F U Mc0 Mr0 p Mc Mr W s i wt nm) : 0 ≤ F ∧ (0 ≤ Mc 1 6 ∧ Mc 1 6 ≤ 72) ∧ (0 ≤ i ∧ i ≤ 64) := by
  obtain ⟨U', kn, hc, hP, hU, h1, h2, ha, hb, hp, hw, g1, g2⟩ := h
  have rg1 := nOp_rng W
  have a1 := ha.1.1
  have hp1 := hp.1
  refine ⟨by omega, by omega, by omega⟩
theorem st_close (hT : TS B n 0 N K A P Q) (n1 : n ≤ 800) (hf : hFe f e) {W s : List Int} {i nm : Int} (h : FI B K A P Q n N c f F U Mc0 Mr0 p Mc Mr W s i 0 nm) (hk : K p = 1012) : FSt B K A P Q n N c f F U Mc0 Mr0 p (zm_X7_readClose zLa [zA 7 1, zA 2 (c + f)] Mc) (zm_X12_signs zLa [zA 12 84] Mr) := by
  obtain ⟨W', s', i', mc, mr, e1, e2, hFI, hn, hcs⟩ := rel hf (r1 := 1) (by decide) W s i Mc Mr zU zU zU h
  have er : zm_X7_release zLa [zA 7 1, zA 2 (c + f), zI 1] Mc = some ([], mc) := by
    rw [zr_X7_release]; refine z_out_some ?_; rw [zb_X7_release_0, e1]
  have eb : zm_X12_bind zLa [zA 12 84, zI 1] Mr = some ([], mr) := by
    rw [zr_X12_bind]; refine z_out_some ?_; rw [zb_X12_bind_0, e2]
  have rg := hFI.rng
  obtain ⟨V, kn, hc, hP, hU, h1, h2, ha, hb, hp, hw, g1, g2⟩ := hFI
  obtain ⟨U0, kn0, hc0, hP0, hU0, h10, h20, ha0, hb0, hp0, hw0, g10, g20⟩ := h
  obtain ⟨⟨a1, a2, a3, a4⟩, a5⟩ := ha
  obtain ⟨⟨b1, b2, b3, b4, b5, b6, b7⟩, bw, bs⟩ := hb
  obtain ⟨⟨p1, p2, p3, p4, p5, p6, -⟩, p8, p9⟩ := hp
  have b20 := hb0.1.2.1
  have rg1 := nOp_rng W
  have hpp := hc.p0
  rw [zr_X7_readClose, zb_X7_readClose_0, er, z_bV_mk, a2, zr_X12_signs, zb_X12_signs_0, ← s41, hP0.s1 (by decide) (by decide), z_bI_mk, b2i_pos hk, if_neg nz10, b20]
  by_cases q : nOp W = 0
  · have q' : nOp W' = 0 := hn.trans q
    have nb : ¬ isBn (K p) := by unfold isBn; omega
    have q0 : nOp W ≤ 0 := by omega
    rw [if_pos q', if_pos q0, sg_k hP0, cite_neg nb, zb_X12_signs_2, if_pos rfl, c_wrong hc, z_bI_mk, if_pos (Or.inl rfl), hP0.wrong, z_bI_mk, if_pos (Or.inl rfl)]
    exact Or.inr (f_fail hf rg.1 hc hP0 g1 g20 rg.2.1 (by rw [h1]; exact rg.2.2) 1)
  · rcases hcs with r | ⟨y, r, e0, hy⟩
    · exfalso
      rw [r] at hn
      exact q hn.symm
    subst e0
    have hy1 : y = 1011 := rnk_0 (p9 y List.mem_cons_self) hy
    subst hy1
    have hl := len_c 1011 r
    have no : nOp (1011 :: r) = 1 + nOp r := rfl
    have nb : nBi (1011 :: r) = 0 + nBi r := rfl
    have rg2 := nOp_rng r
    have q' : ¬ nOp (1011 :: r) = 0 := by omega
    have q0 : ¬ nOp W ≤ 0 := by omega
    have c6 : ¬ ((1011 :: r).length : Int) = 0 := by omega
    have c1 := hc.w1 (k := 6) (v := (r.length : Int)) (by omega) (by omega)
    have c2 := c1.w1 (k := 7) (v := nOp r) (by omega) (by omega)
    obtain ⟨m, em, hm, fm⟩ := c2.step hT n1 (by omega)
    have r1 := hP.wr (a := 84) (k := 52) (v := (r.length : Int)) (by omega)
    have r2 := r1.wr (a := 84) (k := 54) (v := nOp r) (by omega)
    obtain ⟨m', em', hm', fm'⟩ := r2.take hT hpp.1 hpp.2 (by omega)
    rw [if_neg q', a1, if_neg c6, hl, z_sub_id (a := (r.length : Int) + 1) (by omega) (by omega), (by omega : (r.length : Int) + 1 - 1 = r.length), z_lt_eq, z_wr_ne (M := mc) (a := 1) (i := 6) (b := 1) (j := 7) (by omega), a2, no, z_sub_id (a := 1 + nOp r) (by omega) (by omega), (by omega : 1 + nOp r - 1 = nOp r), z_lt_eq, lo_1_0 c2.o, em, z_bV_mk, if_neg q0, eb, z_bV_mk, b1, hl, z_sub_id (a := (r.length : Int) + 1) (by omega) (by omega), (by omega : (r.length : Int) + 1 - 1 = r.length), z_lt_eq, z_wr_ne (M := mr) (a := 84) (i := 52) (b := 84) (j := 54) (by omega), b2, no, z_sub_id (a := 1 + nOp r) (by omega) (by omega), (by omega : 1 + nOp r - 1 = nOp r), z_lt_eq, em', z_bV_mk]
    refine Or.inl ⟨m, m', r, s', i', 0, nm, rfl, rfl, V, kn, hm, hm', hU, h1, h2, ⟨⟨?_, ?_, ?_, ?_⟩, ?_⟩, ⟨⟨?_, ?_, ?_, ?_, ?_, ?_, ?_⟩, ?_, ?_⟩, ⟨⟨by omega, p2, p3, p4, by omega, by omega, Or.inl rfl⟩, p8, fun y hy => p9 y (List.mem_cons_of_mem _ hy)⟩, ?_, ?_, ?_⟩
    · rw [fm _ _ (by omega), z_wr_ne (by omega), z_wr_eq]
    · rw [fm _ _ (by omega), z_wr_eq]
    · rw [fm _ _ (by omega), z_wr_ne (by omega), z_wr_ne (by omega)]; exact a3
    · rw [fm _ _ (by omega), z_wr_ne (by omega), z_wr_ne (by omega)]; exact a4
    · exact stk_cg r (fun j j0 j1 => by rw [fm _ _ (by omega), z_wr_ne (by omega), z_wr_ne (by omega)]) a5.2
    · rw [fm' _ _ (by omega), z_wr_ne (by omega), z_wr_eq]
    · rw [fm' _ _ (by omega), z_wr_eq]
    · rw [fm' _ _ (by omega), z_wr_ne (by omega), z_wr_ne (by omega)]; exact b3
    · rw [fm' _ _ (by omega), z_wr_ne (by omega), z_wr_ne (by omega)]; exact b4
    · rw [fm' _ _ (by omega), z_wr_ne (by omega), z_wr_ne (by omega)]; exact b5
    · rw [fm' _ _ (by omega), z_wr_ne (by omega), z_wr_ne (by omega)]; exact b6
    · rw [fm' _ _ (by omega), z_wr_ne (by omega), z_wr_ne (by omega)]; exact b7
    · exact stk_cg r (fun j j0 j1 => by rw [fm' _ _ (by omega), z_wr_ne (by omega), z_wr_ne (by omega)]) bw.2
    · exact stk_cg s' (fun j j0 j1 => by rw [fm' _ _ (by omega), z_wr_ne (by omega), z_wr_ne (by omega)]) bs
    · exact wfS_cg _ _ _ _ (fun j j0 j1 => ⟨⟨by show m' 107 _ = _; rw [fm' _ _ (by omega), z_wr_ne (by omega), z_wr_ne (by omega)], by show m' 108 _ = _; rw [fm' _ _ (by omega), z_wr_ne (by omega), z_wr_ne (by omega)], by show m' 109 _ = _; rw [fm' _ _ (by omega), z_wr_ne (by omega), z_wr_ne (by omega)]⟩, rfl⟩) hw
    · exact ((g1.tr (gC.wr (by omega))).tr (gC.wr (by omega))).tr fm.gc
    · exact ((g2.tr (gW.wr (by unfold wW; omega))).tr (gW.wr (by unfold wW; omega))).tr fm'.gw
/-- a sign of two sides is kept until its right side has come -/
theorem st_tail (hT : TS B n 0 N K A P Q) (n1 : n ≤ 800) (hf : hFe f e) {W s : List Int} {i nm : Int} (h : FI B K A P Q n N c f F U Mc0 Mr0 p Mc Mr W s i 0 nm) (hk : isBn (K p)) {g : Int} (hg : g = if rnk (K p) < 3 then 1 else 0) (w1 w3 : zV) : FSt B K A P Q n N c f F U Mc0 Mr0 p (z_out (z_ev (zcd_X7_readSign zLa) 2 [zA 7 1, w1, zI (K p), w3] [zI g, zA 7 1] (z_wr Mc 1 8 1))) (z_out (z_ev (zcd_X12_signs zLa) 4 [zA 12 84, zI (kK (K p))] [] Mr)) := by
  obtain ⟨U', kn, hc, hP, hU, h1, h2, ha, hb, hp, hw, g1, g2⟩ := h
  obtain ⟨⟨p1, p2, p3, p4, p5, p6, -⟩, p8, p9⟩ := hp
  obtain ⟨⟨a1, a2, a3, a4⟩, a5⟩ := ha
  obtain ⟨⟨b1, b2, b3, b4, b5, b6, b7⟩, bw, bs⟩ := hb
  have rg1 := nOp_rng W
  have hp0 := hc.p0
  have hcc : c = 8 ∨ c = 42 := hc.1
  have hsg := bn_sg hk
  have g01 : g = 0 ∨ g = 1 := by rw [hg]; split <;> omega
  have cA := hc.w1 (k := 8) (v := 1) (by omega) (by omega)
  have cB := cA.w1 (k := 9) (v := g) (by omega) (by omega)
  have ck := c_knot cB (by omega)
  have rc := r_count hP b7 (by omega) p2
  rw [zb_X7_readSign_2, if_pos g01, z_lt_eq, zb_X12_signs_4]
  by_cases q : kn < 64
  case neg =>
    rw [ck.2 (by omega), z_bI_mk, if_pos rfl, rc.2 q, z_bI_mk, if_pos rfl]
    exact Or.inr (f_fail hf p3 cB hP ((g1.tr (gC.wr (by omega))).tr (gC.wr (by omega))) g2 (by rw [z_wr_ne (by omega), z_wr_ne (by omega)]; omega) (by omega) 2)
  obtain ⟨e1, c1⟩ := ck.1 (by omega)
  have r0 := hP.wr (a := 84) (k := 55) (v := kn + 1) (by omega)
  obtain ⟨m, em, hm, m6, m41, gm, mf1, mf41⟩ := c_hold hT n1 c1 (by unfold isBn at hk; omega) (L := W.length) (by rw [z_wr_ne (by omega), z_wr_ne (by omega), z_wr_ne (by omega)]; exact a1) (by omega) (by omega) (K p)
  have r2 := r0.wr (a := 110) (k := W.length) (v := kK (K p)) (by omega)
  have r3 := r2.wr (a := 84) (k := 52) (v := W.length + 1) (by omega)
  have r4 := r3.wr (a := 84) (k := 56) (v := 1) (by omega)
  have r5 := r4.wr (a := 84) (k := 57) (v := g) (by omega)
  obtain ⟨m', em', hm', fm'⟩ := r5.take hT hp0.1 hp0.2 (by unfold isBn at hk; omega)
  have hl := len_c (K p) W
  have o0 : oneO (K p) = 0 := by unfold oneO; rw [if_neg hsg.2.1]
  have o1 : oneB (K p) = 1 := by unfold oneB; rw [if_neg hsg.2.1, if_neg hsg.2.2]
  have no : nOp (K p :: W) = oneO (K p) + nOp W := rfl
  have nb : nBi (K p :: W) = oneB (K p) + nBi W := rfl
  have hfn : f ≠ 0 ∧ f + 1 ≠ 0 := by unfold hFe at hf; omega
  have etl : ∀ M0 : zM, (if rnk (K p) < 3 then z_lt (z_wr M0 84 57 (1:Int)) (fun M7 => z_bV (zm_X12_take zLa [zA 12 84] M7) (fun M8 => some (.inl ([zI (1:Int)], M8)))) else z_lt (z_wr M0 84 57 (0:Int)) (fun M9 => z_bV (zm_X12_take zLa [zA 12 84] M9) (fun M10 => some (.inl ([zI (1:Int)], M10)))) : Option zRs) = z_bV (zm_X12_take zLa [zA 12 84] (z_wr M0 84 57 g)) (fun M8 => some (.inl ([zI (1:Int)], M8))) := fun M0 => by
    by_cases r : rnk (K p) < 3
    · rw [if_pos r] at hg ⊢
      rw [hg, z_lt_eq]
    · rw [if_neg r] at hg ⊢
      rw [hg, z_lt_eq]
  rw [e1, z_bI_mk, if_neg nz10, em, z_bI_mk, if_neg nz10, rc.1 q, z_bI_mk, if_neg nz10, r_waits r0 ((z_wr_ne (by omega)).trans b1) (by omega) (by omega), z_bV_mk, z_lt_eq, r_weight, z_bI_mk, wgt_kK hsg.1, etl, em', z_bV_mk]
  have fc : ∀ k, k ≠ 6 → k ≠ 8 → k ≠ 9 → m 1 k = Mc 1 k := fun k q1 q2 q3 => by rw [mf1 _ q1, z_wr_ne (by omega), z_wr_ne (by omega), z_wr_ne (by omega)]
  have fr : ∀ x j : Int, ¬ (x = 110 ∧ j = W.length) → ¬ (x = 84 ∧ (j = 55 ∨ j = 52 ∨ j = 56 ∨ j = 57 ∨ (7 ≤ j ∧ j ≤ 10))) → m' x j = Mr x j := fun x j q1 q2 => by rw [fm' _ _ (by omega), z_wr_ne (by omega), z_wr_ne (by omega), z_wr_ne (by omega), z_wr_ne (by omega), z_wr_ne (by omega)]
  refine Or.inl ⟨m, m', K p :: W, s, i, 1, g, rfl, rfl, _, kn + 1, hm, hm', fun o k q1 q2 q3 => by rw [z_wr_ne (by omega)]; exact hU o k q1 q2 q3, by rw [z_wr_ne (by omega)]; exact h1, by rw [z_wr_eq, h2], ⟨⟨?_, ?_, ?_, ?_⟩, ?_, ?_⟩, ⟨⟨?_, ?_, ?_, ?_, ?_, ?_, ?_⟩, ⟨?_, ?_⟩, ?_⟩, ⟨⟨by omega, by omega, p3, p4, by omega, by omega, Or.inr rfl⟩, fun q => by omega, fun y hy => ?_⟩, ?_, ?_, ?_⟩
  · rw [m6, hl]
  · rw [fc _ (by omega) (by omega) (by omega)]; omega
  · rw [mf1 _ (by omega), z_wr_ne (by omega), z_wr_ne (by omega), z_wr_eq]
  · rw [mf1 _ (by omega), z_wr_ne (by omega), z_wr_eq]
  · exact m41
  · exact stk_cg W (fun j j0 j1 => by rw [mf41 _ (by omega), z_wr_ne (by omega), z_wr_ne (by omega), z_wr_ne (by omega)]) a5
  · rw [fm' _ _ (by omega), z_wr_ne (by omega), z_wr_ne (by omega), z_wr_eq, hl]
  · rw [fr _ _ (by omega) (by omega)]; omega
  · rw [fm' _ _ (by omega), z_wr_ne (by omega), z_wr_eq]
  · rw [fm' _ _ (by omega), z_wr_eq]
  · rw [fr _ _ (by omega) (by omega)]; exact b5
  · rw [fr _ _ (by omega) (by omega)]; exact b6
  · rw [fm' _ _ (by omega), z_wr_ne (by omega), z_wr_ne (by omega), z_wr_ne (by omega), z_wr_ne (by omega), z_wr_eq]
  · show m' 110 W.length = kK (K p)
    rw [fm' _ _ (by omega), z_wr_ne (by omega), z_wr_ne (by omega), z_wr_ne (by omega), z_wr_eq]
  · exact stk_cg W (fun j j0 j1 => fr _ _ (by omega) (by omega)) bw
  · exact stk_cg s (fun j j0 j1 => fr _ _ (by omega) (by omega)) bs
  · rcases List.mem_cons.1 hy with r | r
    · rw [r]; exact hsg.1
    · exact p9 y r
  · exact wfS_cg _ _ _ _ (fun j j0 j1 => ⟨⟨fr _ _ (by omega) (by omega), fr _ _ (by omega) (by omega), fr _ _ (by omega) (by omega)⟩, z_wr_ne (by omega)⟩) hw
  · exact (((g1.tr (gC.wr (by omega))).tr (gC.wr (by omega))).tr (gC.wr (by omega))).tr gm
  · intro x j q
    unfold wW at q
    exact (fr x j (by omega) (by omega)).trans (g2 x j (by unfold wW; omega))
theorem st_sign (hT : TS B n 0 N K A P Q) (n1 : n ≤ 800) (hf : hFe f e) {W s : List Int} {i nm : Int} (h : FI B K A P Q n N c f F U Mc0 Mr0 p Mc Mr W s i 0 nm) (hk : K p ≠ 1012) : FSt B K A P Q n N c f F U Mc0 Mr0 p (zm_X7_readSign zLa [zA 7 1, zA 2 (c + f)] Mc) (zm_X12_signs zLa [zA 12 84] Mr) := by
  have rg0 := h.rng
  have h0 := h
  obtain ⟨U0, kn0, hc0, hP0, hU0, h10, h20, ha0, hb0, hp0, hw0, g10, g20⟩ := h
  rw [zr_X7_readSign, zb_X7_readSign_0, lo_1_0 hc0.o, hc0.k, c_rank, z_bI_mk, zr_X12_signs, zb_X12_signs_0, ← s41, hP0.s1 (by decide) (by decide), z_bI_mk, b2i_neg hk, if_pos (rfl : (0 : Int) = 0), sg_k hP0]
  by_cases hb : isBn (K p)
  case neg =>
    have fin : ∀ x : Option zRs, x = z_bI (zm_X7_wrong zLa [zA 7 1, zI 1] Mc) (fun r4 M3 => if r4 = 0 ∨ r4 = 1 then some (.inl ([zI r4], M3)) else none) → FSt B K A P Q n N c f F U Mc0 Mr0 p (z_out x) (z_out (z_ev (zcd_X12_signs zLa) 2 [zA 12 84, zU] [zI (cite (isBn (K p)) (kK (K p)) 0)] Mr)) := fun x hx => by
      rw [hx, cite_neg hb, zb_X12_signs_2, if_pos rfl, c_wrong hc0, z_bI_mk, if_pos (Or.inl rfl), hP0.wrong, z_bI_mk, if_pos (Or.inl rfl)]
      exact Or.inr (f_fail hf rg0.1 hc0 hP0 g10 g20 rg0.2.1 (by rw [h10]; exact rg0.2.2) 1)
    refine fin _ ?_
    rcases nb_rnk hb with r | r
    · rw [if_pos r]
    · rw [if_neg (by omega), if_pos r]
  have hr := bn_rnk hb
  have hsg := bn_sg hb
  have hrr : ∃ rr : Int, 1 ≤ rr ∧ (rnk (K p) = 4 → rr = 5) ∧ (rnk (K p) ≠ 4 → rr = rnk (K p)) := by
    by_cases r : rnk (K p) = 4
    · exact ⟨5, by decide, fun _ => rfl, fun q => absurd r q⟩
    · exact ⟨rnk (K p), hr.2.2.1, fun q => absurd q r, fun _ => rfl⟩
  obtain ⟨rr, rr1, rr4, rrn⟩ := hrr
  obtain ⟨W', s', i', mc, mr, e1, e2, hFI, hn, hcs⟩ := rel hf rr1 W s i Mc Mr zU zU zU h0
  have er : zm_X7_release zLa [zA 7 1, zA 2 (c + f), zI rr] Mc = some ([], mc) := by
    rw [zr_X7_release]; refine z_out_some ?_; rw [zb_X7_release_0, e1]
  have eb : zm_X12_bind zLa [zA 12 84, zI rr] Mr = some ([], mr) := by
    rw [zr_X12_bind]; refine z_out_some ?_; rw [zb_X12_bind_0, e2]
  have ec : (if rnk (K p) = 0 then z_bI (zm_X7_wrong zLa [zA 7 1, zI (1:Int)] Mc) (fun r4 M3 => if r4 = 0 ∨ r4 = 1 then some (.inl ([zI r4], M3)) else none) else if rnk (K p) = (3:Int) then z_bI (zm_X7_wrong zLa [zA 7 1, zI (1:Int)] Mc) (fun r6 M5 => if r6 = 0 ∨ r6 = 1 then some (.inl ([zI r6], M5)) else none) else if rnk (K p) = (4:Int) then z_ev (zcd_X7_readSign zLa) 1 [zA 7 1, zA 2 (c + f), zI (K p), zI (rnk (K p))] [zI (5:Int), zA 2 (c + f), zA 7 1] Mc else z_ev (zcd_X7_readSign zLa) 1 [zA 7 1, zA 2 (c + f), zI (K p), zI (rnk (K p))] [zI (rnk (K p)), zA 2 (c + f), zA 7 1] Mc : Option zRs) = z_ev (zcd_X7_readSign zLa) 1 [zA 7 1, zA 2 (c + f), zI (K p), zI (rnk (K p))] [zI rr, zA 2 (c + f), zA 7 1] Mc := by
    rw [if_neg hr.1, if_neg hr.2.1]
    by_cases r : rnk (K p) = 4
    · rw [if_pos r, rr4 r]
    · rw [if_neg r, rrn r]
  have ed : z_ev (zcd_X12_signs zLa) 2 [zA 12 84, zU] [zI (cite (isBn (K p)) (kK (K p)) 0)] Mr = z_ev (zcd_X12_signs zLa) 3 [zA 12 84, zI (kK (K p))] [zI rr, zA 12 84] Mr := by
    rw [cite_pos hb, zb_X12_signs_2, if_neg hr.2.2.2, r_weight, z_bI_mk, wgt_kK hsg.1, r_weight, z_bI_mk, wgt_kK hsg.1]
    by_cases r : rnk (K p) = 4
    · rw [if_pos r, rr4 r]
    · rw [if_neg r, rrn r]
  rw [ec, ed, zb_X7_readSign_1, er, z_bV_mk, zb_X12_signs_3, eb, z_bV_mk, r_weight, z_bI_mk, wgt_kK hsg.1]
  have tail : FSt B K A P Q n N c f F U Mc0 Mr0 p (z_out (z_lt (z_wr mc 1 8 (1:Int)) (fun M2 => if rnk (K p) < (3:Int) then z_ev (zcd_X7_readSign zLa) 2 [zA 7 1, zA 2 (c + f), zI (K p), zI (rnk (K p))] [zI (1:Int), zA 7 1] M2 else z_ev (zcd_X7_readSign zLa) 2 [zA 7 1, zA 2 (c + f), zI (K p), zI (rnk (K p))] [zI (0:Int), zA 7 1] M2))) (z_out (z_ev (zcd_X12_signs zLa) 4 [zA 12 84, zI (kK (K p))] [] mr)) := by
    rw [z_lt_eq]
    by_cases r : rnk (K p) < 3
    · rw [if_pos r]
      exact st_tail hT n1 hf hFI hb (by rw [if_pos r]) _ _
    · rw [if_neg r]
      exact st_tail hT n1 hf hFI hb (by rw [if_neg r]) _ _
  have rg := hFI.rng
  obtain ⟨V, kn, hc, hP, hU, h1, h2, ha, hbb, hp, hw, g1, g2⟩ := hFI
  by_cases r : rnk (K p) = 4
  case neg =>
    rw [if_neg r, if_neg r]
    exact tail
  have a1 := ha.1.1
  have b1 := hbb.1.1
  rw [if_pos r, if_pos r, a1, b1]
  cases W' with
  | nil =>
    have z0 : ((([] : List Int).length : Nat) : Int) ≤ 0 := Int.le_refl _
    rw [if_pos z0, if_pos z0]
    exact tail
  | cons y t =>
    have hl := len_c y t
    have z0 : ¬ ((y :: t).length : Int) ≤ 0 := by omega
    have hsy : isSg y := hp.2.2 y List.mem_cons_self
    have t72 : 0 ≤ (t.length : Int) ∧ (t.length : Int) < 72 := by omega
    have t96 : 0 ≤ (t.length : Int) ∧ (t.length : Int) < 96 := by omega
    rw [if_neg z0, if_neg z0, hl, z_sub_id (by omega) (by omega), (by omega : (t.length : Int) + 1 - 1 = t.length), lo_1_5 hc.o, la_41, if_pos t72, ha.2.1, c_rank, z_bI_mk, lr_50 hP.1, la_110, if_pos t96, hbb.2.1.1, r_weight, z_bI_mk, wgt_kK hsy]
    by_cases u : rnk y = 4
    · rw [if_pos u, if_pos u, c_wrong hc, z_bI_mk, if_pos (Or.inl rfl), hP.wrong, z_bI_mk, if_pos (Or.inl rfl)]
      exact Or.inr (f_fail hf rg.1 hc hP g1 g2 rg.2.1 (by rw [h1]; exact rg.2.2) 1)
    · rw [if_neg u, if_neg u]
      exact tail
end
end
