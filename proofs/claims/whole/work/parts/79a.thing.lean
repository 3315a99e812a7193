/-! ===== lines of THINGS, to their end ===== -/
theorem aT.w5 {U U' : zM} {nm w s pa po v : Int} (h : aT U U' nm w s pa po) : aT U (z_wr U' 5 (U 1 0) v) nm w s v po := by
  obtain ⟨h0, ho, h2, h3, h4, h5, h6⟩ := h
  exact ⟨by rw [z_wr_ne (by omega)]; exact h0, fun o k q => by rw [z_wr_ne (by omega)]; exact ho o k q, by rw [z_wr_ne (by omega)]; exact h2, by rw [z_wr_ne (by omega)]; exact h3, by rw [z_wr_ne (by omega)]; exact h4, z_wr_eq _ _ _ _, by rw [z_wr_ne (by omega)]; exact h6⟩
theorem aT.w6 {U U' : zM} {nm w s pa po v : Int} (h : aT U U' nm w s pa po) : aT U (z_wr U' 6 (U 1 0) v) nm w s pa v := by
  obtain ⟨h0, ho, h2, h3, h4, h5, h6⟩ := h
  exact ⟨by rw [z_wr_ne (by omega)]; exact h0, fun o k q => by rw [z_wr_ne (by omega)]; exact ho o k q, by rw [z_wr_ne (by omega)]; exact h2, by rw [z_wr_ne (by omega)]; exact h3, by rw [z_wr_ne (by omega)]; exact h4, by rw [z_wr_ne (by omega)]; exact h5, z_wr_eq _ _ _ _⟩
section
variable {B K A P Q : Int → Int} {n N : Int} {Mc Mr U U' : zM} {c p : Int}
theorem th_stop (M : zM) (a : Int) (w2 w3 : zV) (j : Int) : z_ev (zcd_X7_readThing zLa) 1 [zA 7 1, zA 9 a, w2, w3, zI 0, zI j] [] M = some (.inl ([zI 0], M)) := by
  rw [zb_X7_readThing_1]
  by_cases q : j < 3
  · rw [if_pos q, if_pos rfl, if_pos (Or.inl rfl)]
  · rw [if_neg q, if_pos (Or.inl rfl)]
theorem th_end (h : PC N K A P Mc c U p) (h1 : K p ≠ 1102) (h2 : K p ≠ 1103) (a : Int) (w2 w3 : zV) {j : Int} (j0 : 0 ≤ j) (j3 : j ≤ 3) : z_ev (zcd_X7_readThing zLa) 1 [zA 7 1, zA 9 a, w2, w3, zI 1, zI j] [] Mc = some (.inl ([zI 1], Mc)) := by
  have e3 : z_ev (zcd_X7_readThing zLa) 1 [zA 7 1, zA 9 a, w2, w3, zI 1, zI 3] [] Mc = some (.inl ([zI 1], Mc)) := by
    rw [zb_X7_readThing_1, if_neg (by decide), if_pos (Or.inr rfl)]
  have st : ∀ j : Int, 0 ≤ j → j < 3 → z_ev (zcd_X7_readThing zLa) 1 [zA 7 1, zA 9 a, w2, w3, zI 1, zI j] [] Mc = z_ev (zcd_X7_readThing zLa) 1 [zA 7 1, zA 9 a, w2, w3, zI 1, zI (j + 1)] [] Mc := fun j a b => by
    rw [zb_X7_readThing_1, if_pos b, if_neg (by decide), lo_1_0 h.o, h.k, if_neg h1, if_neg h2, z_w32_id (by omega) (by omega)]
  have e2 := (st 2 (by decide) (by decide)).trans e3
  have e1 := (st 1 (by decide) (by decide)).trans e2
  have e0 := (st 0 (by decide) (by decide)).trans e1
  rcases (by omega : j = 0 ∨ j = 1 ∨ j = 2 ∨ j = 3) with r | r | r | r <;> subst r <;> assumption
theorem l_tail (hT : TS B n 0 N K A P Q) (n1 : n ≤ 800) (hv : vOk U) (n8 : U 1 0 < 8) {nm w s p0 : Int} (w0 : 2 ≤ w) (w1 : w ≤ 9) (s0 : 0 ≤ s) (s1 : s < w) : ∀ (d : Nat) (U' Mc Mr : zM) (p pa po : Int) (w2 w3 w3' : zV), d ≤ 2 → cn pa po (2 - d) → -1 ≤ pa → pa ≤ 199 → -1 ≤ po → po ≤ 199 → aT U U' nm w s pa po → p0 < p → PC N K A P Mc c U' p → PR B K A P Q n Mr U p → Mr 88 (8 + U 1 0) = w → Mr 89 (8 + U 1 0) = s → Mr 90 (8 + U 1 0) = pa → Mr 91 (8 + U 1 0) = po → LK (z_out (z_ev (zcd_X7_readThing zLa) 1 [zA 7 1, zA 9 (c + 1), w2, w3, zI 1, zI (2 - d)] [] Mc)) (z_out (z_ev (zcd_X12_thingLine zLa) 1 [zA 12 84, zI (8 + U 1 0), zI nm, w3'] [] Mr)) c Mc Mr (SK B K A P Q n N c p0 U) := by
  have hN := hv.1
  intro d
  induction d with
  | zero =>
    intro U' Mc Mr p pa po w2 w3 w3' hd hcn a0 a1 b0 b1 ha hp0 hc hr g3 g4 g5 g6
    have hN' := vOk_aT ha hv n8 w0 w1 s0 s1 a0 a1 b0 b1
    have h16 := hr.2.1.1.1
    have i2 : (2 : Int) - ((0 : Nat) : Int) = 2 := rfl
    rw [i2] at hcn ⊢
    by_cases q1 : K p = 1102
    · have hk9 := (eR_key hr.e (κ := 1102) (by decide) (by decide)).1 q1
      rcases c_since hT n1 hv n8 ha hN' hc hr (Or.inl q1) (o := 5) (old := pa) (Or.inl ⟨rfl, rfl⟩) with ⟨-, mc, mr, e, e', f1, f2, f3⟩ | ⟨q, -⟩
      · rw [zb_X7_readThing_1, if_pos (by decide), if_neg (by decide), lo_1_0 hc.o, hc.k, if_pos q1, lc_1_4 hc.y, e, z_bI_mk, th_stop, zb_X12_thingLine_1, ← rk9, hr.k1 (by decide) (by decide), z_bI_mk, b2i_pos q1, if_neg (by decide), zb_X12_thingLine_2, hk9.2, rk9, if_pos rfl, if_neg (by decide), lr_24 hr.1, la_90, if_pos ⟨by omega, by omega⟩, g5, zb_X12_thingLine_3, if_neg (by omega)]
        exact Or.inr ⟨mc, mr, rfl, e', f1, f2, f3⟩
      · omega
    by_cases q2 : K p = 1103
    · have hk9 := (eR_key hr.e (κ := 1103) (by decide) (by decide)).1 q2
      rcases c_since hT n1 hv n8 ha hN' hc hr (Or.inr q2) (o := 6) (old := po) (Or.inr ⟨rfl, rfl⟩) with ⟨-, mc, mr, e, e', f1, f2, f3⟩ | ⟨q, -⟩
      · rw [zb_X7_readThing_1, if_pos (by decide), if_neg (by decide), lo_1_0 hc.o, hc.k, if_neg q1, if_pos q2, lc_1_5 hc.y, e, z_bI_mk, th_stop, zb_X12_thingLine_1, ← rk9, hr.k1 (by decide) (by decide), z_bI_mk, b2i_neg q1, if_pos rfl, ← rk10, hr.k1 (by decide) (by decide), z_bI_mk, b2i_pos q2, if_neg (by decide), zb_X12_thingLine_2, hk9.2, rk10, if_neg (by decide), if_pos rfl, lr_25 hr.1, la_91, if_pos ⟨by omega, by omega⟩, g6, zb_X12_thingLine_3, if_neg (by omega)]
        exact Or.inr ⟨mc, mr, rfl, e', f1, f2, f3⟩
      · omega
    rw [th_end hc q1 q2 _ _ _ (by decide) (by decide), zb_X12_thingLine_1, ← rk9, hr.k1 (by decide) (by decide), z_bI_mk, b2i_neg q1, if_pos rfl, ← rk10, hr.k1 (by decide) (by decide), z_bI_mk, b2i_neg q2, if_pos rfl, lr_21 hr.1, la_87, if_pos ⟨by omega, by omega⟩, z_lt_eq, z_wr_ne (M := Mr) (by omega), h16, z_add_id (by omega) (by omega), z_lt_eq]
    exact Or.inl ⟨_, _, rfl, rfl, gC.rf c Mc, (gR.wr (by unfold wRd; omega)).tr (gR.wr (by unfold wRd; omega)), U', p, hc, hr.aT hN n8 ha g3 g4 g5 g6, hN', fun k _ => ha.2.1 0 k (by omega), ha.2.1 13 1 (by omega), hp0, fun h => by rw [ha.2.1 13 0 (by omega)]; exact h⟩
  | succ d ih =>
    intro U' Mc Mr p pa po w2 w3 w3' hd hcn a0 a1 b0 b1 ha hp0 hc hr g3 g4 g5 g6
    have hN' := vOk_aT ha hv n8 w0 w1 s0 s1 a0 a1 b0 b1
    have h16 := hr.2.1.1.1
    have hp := hc.p0
    generalize hi : (2 : Int) - ((d + 1 : Nat) : Int) = i at hcn ⊢
    have i0 : 0 ≤ i ∧ i < 2 := by omega
    have i1 : i + 1 = 2 - ((d : Nat) : Int) := by omega
    by_cases q1 : K p = 1102
    · have hk9 := (eR_key hr.e (κ := 1102) (by decide) (by decide)).1 q1
      rw [zb_X7_readThing_1, if_pos (by omega), if_neg (by decide), lo_1_0 hc.o, hc.k, if_pos q1, lc_1_4 hc.y, zb_X12_thingLine_1, ← rk9, hr.k1 (by decide) (by decide), z_bI_mk, b2i_pos q1, if_neg (by decide), zb_X12_thingLine_2, hk9.2, rk9, if_pos rfl, if_neg (by decide), lr_24 hr.1, la_90, if_pos ⟨by omega, by omega⟩, g5, zb_X12_thingLine_3]
      rcases c_since hT n1 hv n8 ha hN' hc hr (Or.inl q1) (o := 5) (old := pa) (Or.inl ⟨rfl, rfl⟩) with ⟨q, mc, mr, e, e', f1, f2, f3⟩ | ⟨q, r1, e1', h1', f1', hcase⟩
      · rw [e, z_bI_mk, th_stop, if_neg (by omega)]
        exact Or.inr ⟨mc, mr, rfl, e', f1, f2, f3⟩
      rw [if_pos (by omega), e1', z_bV_mk]
      rcases hcase with ⟨mc, mr, e, e', f1, f2, f3⟩ | ⟨k2, A0, A1, e', w2', m, e, hm, gm⟩
      · rw [e, z_bI_mk, th_stop, e', z_bI_mk, if_pos rfl]
        exact Or.inr ⟨mc, mr, rfl, rfl, f1, f1'.gr.th f2, f3⟩
      have hst := h1'.st hN (a := 90) (k := 8 + U 1 0) (v := A (p + 1)) (by unfold wSt; omega)
      obtain ⟨r2, e2', h2', f2'⟩ := r_take hT hN hst (by omega) (hT.nx hp.1 hp.2 (by omega)) (by omega)
      have v88 : r2 88 (8 + U 1 0) = w := by rw [f2' _ _ (by omega), z_wr_ne (by omega), f1' _ _ (by omega)]; exact g3
      have v89 : r2 89 (8 + U 1 0) = s := by rw [f2' _ _ (by omega), z_wr_ne (by omega), f1' _ _ (by omega)]; exact g4
      have v90 : r2 90 (8 + U 1 0) = A (p + 1) := by rw [f2' _ _ (by omega), z_wr_eq]
      have v91 : r2 91 (8 + U 1 0) = po := by rw [f2' _ _ (by omega), z_wr_ne (by omega), f1' _ _ (by omega)]; exact g6
      rw [e, z_bI_mk, z_w32_id (by omega) (by omega), i1, e', z_bI_mk, if_neg (by decide), if_neg (by decide), lr_24 h1'.1, la_90, if_pos ⟨by omega, by omega⟩, w2', z_lt_eq, e2', z_bV_mk]
      rw [(by omega : p + 1 + 1 = p + 2)] at h2'
      rcases ih _ m r2 (p + 2) (A (p + 1)) po w2 (z_clv w3) (zI 1) (by omega) (by rw [← i1]; unfold cn at hcn ⊢; omega) (by omega) A1 b0 b1 ha.w5 (by omega) hm h2' v88 v89 v90 v91 with ⟨mc, mr, x1, x2, x3, x4, x5⟩ | ⟨mc, mr, x1, x2, x3, x4, x5⟩
      · exact Or.inl ⟨mc, mr, x1, x2, gm.tr x3, ((f1'.gr.tr (gR.wr (by unfold wRd; omega))).tr f2'.gr).tr x4, x5⟩
      · exact Or.inr ⟨mc, mr, x1, x2, gm.th x3, ((f1'.gr.tr (gR.wr (by unfold wRd; omega))).tr f2'.gr).th x4, x5⟩
    by_cases q2 : K p = 1103
    · have hk9 := (eR_key hr.e (κ := 1103) (by decide) (by decide)).1 q2
      rw [zb_X7_readThing_1, if_pos (by omega), if_neg (by decide), lo_1_0 hc.o, hc.k, if_neg q1, if_pos q2, lc_1_5 hc.y, zb_X12_thingLine_1, ← rk9, hr.k1 (by decide) (by decide), z_bI_mk, b2i_neg q1, if_pos rfl, ← rk10, hr.k1 (by decide) (by decide), z_bI_mk, b2i_pos q2, if_neg (by decide), zb_X12_thingLine_2, hk9.2, rk10, if_neg (by decide), if_pos rfl, lr_25 hr.1, la_91, if_pos ⟨by omega, by omega⟩, g6, zb_X12_thingLine_3]
      rcases c_since hT n1 hv n8 ha hN' hc hr (Or.inr q2) (o := 6) (old := po) (Or.inr ⟨rfl, rfl⟩) with ⟨q, mc, mr, e, e', f1, f2, f3⟩ | ⟨q, r1, e1', h1', f1', hcase⟩
      · rw [e, z_bI_mk, th_stop, if_neg (by omega)]
        exact Or.inr ⟨mc, mr, rfl, e', f1, f2, f3⟩
      rw [if_pos (by omega), e1', z_bV_mk]
      rcases hcase with ⟨mc, mr, e, e', f1, f2, f3⟩ | ⟨k2, A0, A1, e', w2', m, e, hm, gm⟩
      · rw [e, z_bI_mk, th_stop, e', z_bI_mk, if_pos rfl]
        exact Or.inr ⟨mc, mr, rfl, rfl, f1, f1'.gr.th f2, f3⟩
      have hst := h1'.st hN (a := 91) (k := 8 + U 1 0) (v := A (p + 1)) (by unfold wSt; omega)
      obtain ⟨r2, e2', h2', f2'⟩ := r_take hT hN hst (by omega) (hT.nx hp.1 hp.2 (by omega)) (by omega)
      have v88 : r2 88 (8 + U 1 0) = w := by rw [f2' _ _ (by omega), z_wr_ne (by omega), f1' _ _ (by omega)]; exact g3
      have v89 : r2 89 (8 + U 1 0) = s := by rw [f2' _ _ (by omega), z_wr_ne (by omega), f1' _ _ (by omega)]; exact g4
      have v90 : r2 90 (8 + U 1 0) = pa := by rw [f2' _ _ (by omega), z_wr_ne (by omega), f1' _ _ (by omega)]; exact g5
      have v91 : r2 91 (8 + U 1 0) = A (p + 1) := by rw [f2' _ _ (by omega), z_wr_eq]
      rw [e, z_bI_mk, z_w32_id (by omega) (by omega), i1, e', z_bI_mk, if_neg (by decide), if_pos rfl, lr_25 h1'.1, la_91, if_pos ⟨by omega, by omega⟩, w2', z_lt_eq, e2', z_bV_mk]
      rw [(by omega : p + 1 + 1 = p + 2)] at h2'
      rcases ih _ m r2 (p + 2) pa (A (p + 1)) w2 (z_clv w3) (zI 0) (by omega) (by rw [← i1]; unfold cn at hcn ⊢; omega) a0 a1 (by omega) A1 ha.w6 (by omega) hm h2' v88 v89 v90 v91 with ⟨mc, mr, x1, x2, x3, x4, x5⟩ | ⟨mc, mr, x1, x2, x3, x4, x5⟩
      · exact Or.inl ⟨mc, mr, x1, x2, gm.tr x3, ((f1'.gr.tr (gR.wr (by unfold wRd; omega))).tr f2'.gr).tr x4, x5⟩
      · exact Or.inr ⟨mc, mr, x1, x2, gm.th x3, ((f1'.gr.tr (gR.wr (by unfold wRd; omega))).tr f2'.gr).th x4, x5⟩
    rw [th_end hc q1 q2 _ _ _ (by omega) (by omega), zb_X12_thingLine_1, ← rk9, hr.k1 (by decide) (by decide), z_bI_mk, b2i_neg q1, if_pos rfl, ← rk10, hr.k1 (by decide) (by decide), z_bI_mk, b2i_neg q2, if_pos rfl, lr_21 hr.1, la_87, if_pos ⟨by omega, by omega⟩, z_lt_eq, z_wr_ne (M := Mr) (by omega), h16, z_add_id (by omega) (by omega), z_lt_eq]
    exact Or.inl ⟨_, _, rfl, rfl, gC.rf c Mc, (gR.wr (by unfold wRd; omega)).tr (gR.wr (by unfold wRd; omega)), U', p, hc, hr.aT hN n8 ha g3 g4 g5 g6, hN', fun k _ => ha.2.1 0 k (by omega), ha.2.1 13 1 (by omega), hp0, fun h => by rw [ha.2.1 13 0 (by omega)]; exact h⟩
theorem rk8 : rk 1101 = 8 := by decide
theorem PC.fc {m U2 : zM} (h : PC N K A P Mc c U p) (hf : ∀ a k, ¬ (c ≤ a ∧ a ≤ c + 30) → m a k = Mc a k) (hL : LyC m c) (hV : cEq m c U2) : PC N K A P m c U2 p := by
  have hcc : c = 8 ∨ c = 42 := h.1
  have e : ∀ a k, a < 8 → m a k = Mc a k := fun a k q => hf a k (by omega)
  have t := h.t
  refine ⟨h.1, (e _ _ (by decide)).trans h.2.1, h.o.ag (fun a k q => hf a k (by unfold pO at q; omega)), hL, hV, (e _ _ (by decide)).trans t.1, (e _ _ (by decide)).trans t.2.1, (e _ _ (by decide)).trans t.2.2.1, (e _ _ (by decide)).trans t.2.2.2.1, t.2.2.2.2.1, t.2.2.2.2.2.1, (e _ _ (by decide)).trans t.2.2.2.2.2.2.1, fun j x y => ?_⟩
  have := t.2.2.2.2.2.2.2 j x y
  rw [e _ _ (by decide), e _ _ (by decide), e _ _ (by decide)]; exact this
theorem LK.pre {x y : Option (List zV × zM)} {mc mr : zM} {S : zM → zM → Prop} (g1 : gC c Mc mc) (g2 : gR Mr mr) (h : LK x y c mc mr S) : LK x y c Mc Mr S := by
  rcases h with ⟨a, b, x1, x2, x3, x4, x5⟩ | ⟨a, b, x1, x2, x3, x4, x5⟩
  · exact Or.inl ⟨a, b, x1, x2, g1.tr x3, g2.tr x4, x5⟩
  · exact Or.inr ⟨a, b, x1, x2, g1.th x3, g2.th x4, x5⟩
theorem LN.pre {x y : Option (List zV × zM)} {mc mr : zM} (g1 : gC c Mc mc) (g2 : gR Mr mr) (h : LN x y c mc mr) : LN x y c Mc Mr := by
  obtain ⟨a, b, x1, x2, x3, x4, x5⟩ := h
  exact ⟨a, b, x1, x2, g1.th x3, g2.th x4, x5⟩
theorem l_thing (hT : TS B n 0 N K A P Q) (n1 : n ≤ 800) (hv : vOk U) (hc : PC N K A P Mc c U p) (hr : PR B K A P Q n Mr U p) (hk : K p = 1100) : LK (zm_X7_readThing zLa [zA 7 1] Mc) (zm_X12_thingLine zLa [zA 12 84] Mr) c Mc Mr (SK B K A P Q n N c p U) := by
  have hN := hv.1
  have hp := hc.p0
  have hcc : c = 8 ∨ c = 42 := hc.1
  rw [zr_X7_readThing, zr_X12_thingLine, zb_X7_readThing_0, zb_X12_thingLine_0, hc.2.1, lc_0_0 hc.y, cv_1 hc.v, hr.2.1.1.1]
  by_cases q8 : U 1 0 < 8
  case neg =>
    obtain ⟨f1, f2, f3⟩ := fail2 hc hr 2
    rw [if_neg q8, if_pos (by omega), c_wrong hc, z_bI_mk, if_pos (Or.inl rfl), r_wrong hr, z_bI_mk, if_pos (Or.inl rfl)]
    exact Or.inr ⟨_, _, rfl, rfl, f1, f2, f3⟩
  obtain ⟨c1, e1, h1, f1⟩ := hc.step hT n1 (by omega)
  obtain ⟨r1, e1', h1', f1'⟩ := r_take hT hN hr hp.1 hp.2 (by omega)
  rw [if_pos q8, lo_1_0 hc.o, e1, z_bV_mk, if_neg (by omega), e1', z_bV_mk, lo_1_0 h1.o, h1.a, e_X9_numberOf (h1.co hv), z_bI_mk, lr_21 h1'.1, h1'.2.1.1.1]
  have hg : fst (fun i => U 2 i = A (p + 1)) (U 1 0) = fst (fun i => r1 87 (8 + i) = A (p + 1)) (U 1 0) := fst_congr (fun k a b => by rw [(h1'.2.1.2.1 k a b).1])
  refine LK.pre f1.gc f1'.gr ?_
  rcases ck_new hT n1 h1 h1' hg (by omega) (by decide) (by show 8 + U 1 0 ≤ 16; omega) (by omega) with ⟨q1, q2, ⟨c2, e2, h2, t2, g2⟩, e2', w2'⟩ | ⟨mc, mr, e2, e2', a1, a2, a3⟩
  case inr =>
    rw [e2, z_bI_mk, if_pos rfl, e2', z_bI_mk, if_pos rfl]
    exact Or.inr ⟨mc, mr, rfl, rfl, a1, a2, a3⟩
  have hp1 := h1.p0
  obtain ⟨r2, e3', h2', f2'⟩ := r_take hT hN h1' hp1.1 hp1.2 (by omega)
  rw [e2, z_bI_mk, if_neg (by decide), t2, e2', z_bI_mk, if_neg (by decide), h1'.2.1.1.1, w2', e3', z_bV_mk]
  refine LK.pre g2 f2'.gr ?_
  rcases ck_num hT n1 h2 h2' 2 9 (by decide) with ⟨q3, q4, q5, ⟨c3, e4, h3, t3, g3⟩, e4', w4'⟩ | ⟨mc, mr, e4, e4', a1, a2, a3⟩
  case inr =>
    rw [e4, z_bI_mk, if_pos rfl, e4', z_bI_mk, if_pos rfl]
    exact Or.inr ⟨mc, mr, rfl, rfl, a1, a2, a3⟩
  have hp2 := h2.p0
  have hst := h2'.st hN (a := 88) (k := 8 + U 1 0) (v := A (p + 1 + 1)) (by unfold wSt; omega)
  obtain ⟨r3, e5', h3', f3'⟩ := r_take hT hN hst hp2.1 hp2.2 (by omega)
  rw [e4, z_bI_mk, if_neg (by decide), t3, e4', z_bI_mk, if_neg (by decide), z_add_id (a := 8) (b := U 1 0) (by omega) (by omega), lr_22 h2'.1, la_88, if_pos ⟨by omega, by omega⟩, w4', z_lt_eq, e5', z_bV_mk]
  have v88 : r3 88 (8 + U 1 0) = A (p + 1 + 1) := by rw [f3' _ _ (by omega), z_wr_eq]
  refine LK.pre g3 ((gR.wr (by unfold wRd; omega)).tr f3'.gr) ?_
  rcases ck_key hT n1 hN h3 h3' (κ := 1101) (by decide) (by decide) with ⟨⟨c4, e6, h4, g4⟩, r4, e6', h4', f4'⟩ | ⟨mc, mr, e6, e6', a1, a2, a3⟩
  case inr =>
    rw [rk8] at e6'
    rw [e6, z_bI_mk, if_pos rfl, e6', z_bI_mk, if_pos rfl]
    exact Or.inr ⟨mc, mr, rfl, rfl, a1, a2, a3⟩
  rw [rk8] at e6'
  have v88' : r4 88 (8 + U 1 0) = A (p + 1 + 1) := by rw [f4' _ _ (by omega)]; exact v88
  rw [e6, z_bI_mk, if_neg (by decide), e6', z_bI_mk, if_neg (by decide), lr_22 h4'.1, la_88, if_pos ⟨by omega, by omega⟩, v88', z_sub_id (by omega) (by omega)]
  refine LK.pre g4 f4'.gr ?_
  rcases ck_num hT n1 h4 h4' 0 (A (p + 1 + 1) - 1) (by omega) with ⟨q6, q7, q9, ⟨c5, e7, h5, t5, g5⟩, e7', w7'⟩ | ⟨mc, mr, e7, e7', a1, a2, a3⟩
  case inr =>
    rw [e7, z_bI_mk, if_pos rfl, e7', z_bI_mk, if_pos rfl]
    exact Or.inr ⟨mc, mr, rfl, rfl, a1, a2, a3⟩
  have hp4 := h4.p0
  generalize hw : A (p + 1 + 1) = w at *
  generalize hs : A (p + 1 + 1 + 1 + 1) = s at *
  obtain ⟨c6, U', e8, hL6, hV6, ha, ff⟩ := e_X9_add hc.1 h5.y h5.v (by omega) q8 (A (p + 1)) w s
  have h6 := h5.fc (fun a k q => ff a k (by omega)) hL6 hV6
  have hs1 := h4'.st hN (a := 89) (k := 8 + U 1 0) (v := s) (by unfold wSt; omega)
  have hs2 := hs1.st hN (a := 90) (k := 8 + U 1 0) (v := -1) (by unfold wSt; omega)
  have hs3 := hs2.st hN (a := 91) (k := 8 + U 1 0) (v := -1) (by unfold wSt; omega)
  obtain ⟨r5, e9', h5', f5'⟩ := r_take hT hN hs3 hp4.1 hp4.2 (by omega)
  rw [e7, z_bI_mk, if_neg (by decide), t5, e8, z_bV_mk, e7', z_bI_mk, if_neg (by decide), lr_23 h4'.1, la_89, if_pos ⟨by omega, by omega⟩, w7', z_lt_eq, lr_24 hs1.1, la_90, if_pos ⟨by omega, by omega⟩, z_lt_eq, lr_25 hs2.1, la_91, if_pos ⟨by omega, by omega⟩, z_lt_eq, e9', z_bV_mk]
  have u88 : r5 88 (8 + U 1 0) = w := by rw [f5' _ _ (by omega), z_wr_ne (by omega), z_wr_ne (by omega), z_wr_ne (by omega)]; exact v88'
  have u89 : r5 89 (8 + U 1 0) = s := by rw [f5' _ _ (by omega), z_wr_ne (by omega), z_wr_ne (by omega), z_wr_eq]
  have u90 : r5 90 (8 + U 1 0) = -1 := by rw [f5' _ _ (by omega), z_wr_ne (by omega), z_wr_eq]
  have u91 : r5 91 (8 + U 1 0) = -1 := by rw [f5' _ _ (by omega), z_wr_eq]
  have hL := l_tail hT n1 hv q8 (nm := A (p + 1)) (p0 := p) q4 q5 q7 (by omega) 2 U' c6 r5 _ (-1) (-1) (zI (A (p + 1))) (zI w) zU (by decide) (Or.inl ⟨rfl, rfl, by decide⟩) (by decide) (by decide) (by decide) (by decide) ha (by omega) h6 h5' u88 u89 u90 u91
  exact LK.pre (g5.tr (fun a k _ _ _ q => ff a k (by omega))) ((((gR.wr (by unfold wRd; omega)).tr (gR.wr (by unfold wRd; omega))).tr (gR.wr (by unfold wRd; omega))).tr f5'.gr) hL
end
