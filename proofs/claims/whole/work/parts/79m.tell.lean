section
/-! ===== tell ===== -/
theorem vOk.w131 {V : zM} (h : vOk V) : vOk (z_wr V 13 1 (V 13 0)) := by
  obtain ⟨hN, hT, hS, hl, hm, hp⟩ := h
  refine ⟨?_, hT, hS, hl, hm, hp⟩
  show 0 ≤ V 1 0 ∧ V 1 0 ≤ 8 ∧ 0 ≤ V 7 0 ∧ V 7 0 ≤ 5 ∧ 0 ≤ V 13 0 ∧ V 13 0 ≤ 60 ∧ 0 ≤ V 19 0 ∧ V 19 0 ≤ 20 ∧ 0 ≤ V 13 0 ∧ V 13 0 ≤ V 13 0 ∧ 0 ≤ V 0 9 ∧ V 0 9 ≤ 199
  omega
section
variable {B K A P Q : Int → Int} {n N : Int} {Mc0 Mr0 V : zM} {c : Int}
theorem cs_stop (hcc : zCc c) {mc mr : zM} (hF : FC mc mr c) (j : Int) : ∃ m, z_lt (z_wr mc (mc 1 1) 7 (z_add (mc (mc 1 1) 7) (1:Int))) (fun M5 => z_ev (zcd_X7_readCase zLa) 1 [zA 7 1, zI (0:Int), zI j] [] M5) = some (.inl ([zI 0], m)) ∧ hC c mc m ∧ FC m mr c := by
  obtain ⟨g1, g2, g3, g4, g5, g6, g7⟩ := hF
  have hc : c = 8 ∨ c = 42 := hcc
  rw [g1, z_lt_eq]
  generalize z_add (mc c 7) 1 = v
  have k1 : z_wr mc c 7 v 1 1 = c := (z_wr_ne (by omega)).trans g1
  have l1 : LyC (z_wr mc c 7 v) c := g3.ag (wr_ag (by unfold pC; omega))
  have key : ∀ w : Int, hC c mc (z_wr (z_wr mc c 7 v) (c + 13) 1 w) ∧ FC (z_wr (z_wr mc c 7 v) (c + 13) 1 w) mr c := fun w => ⟨(hC.wr (by omega)).tr (hC.wr (by omega)), (z_wr_ne (by omega)).trans k1, (g2.ag (wr_ag (by unfold pO; omega))).ag (wr_ag (by unfold pO; omega)), l1.ag (wr_ag (by unfold pC; omega)), by rw [z_wr_ne (by omega), z_wr_ne (by omega)]; exact g4, by rw [z_wr_ne (by omega), z_wr_ne (by omega)]; exact g5, g6, g7⟩
  refine ⟨_, ?_, (key (z_wr mc c 7 v (c + 13) 0)).1, (key (z_wr mc c 7 v (c + 13) 0)).2⟩
  rw [zb_X7_readCase_1, k1, lc_0_2 l1]
  by_cases q : j < 800
  · rw [if_pos q, if_pos rfl, z_lt_eq, if_pos (Or.inl rfl)]
  · rw [if_neg q, z_lt_eq, if_pos (Or.inl rfl)]
/-- what a text told leaves: on the class's side, on the reference's -/
def TE (c : Int) (Mc0 Mr0 mc mr U : zM) (j : Int) : Prop := (mc 1 1 = c ∧ LyO mc ∧ LyC mc c ∧ cEq mc c U) ∧ (LyR mr ∧ mRd mr U ∧ fRd mr U ∧ bR mr) ∧ vOk U ∧ (U 0 7 = j ∧ U 0 9 = 199 ∧ U 0 10 = 0 ∧ U 13 1 = U 13 0 ∧ U 13 0 ≤ 40) ∧ gC c Mc0 mc ∧ gR Mr0 mr
theorem t_loop (hT : TS B n 0 N K A P Q) (n1 : n ≤ 800) (w1 : zV) : ∀ (d : Nat) (p j : Int) (Mc Mr U : zM), N - p ≤ d → PC N K A P Mc c U p → PR B K A P Q n Mr U p → vOk U → U 0 7 = j → U 0 9 = 199 → U 0 10 = 0 → U 13 1 = 0 → U 13 0 ≤ 40 → 0 ≤ j → j ≤ p → gC c Mc0 Mc → gR Mr0 Mr → (∃ mc mr U' j', z_ev (zcd_X7_readCase zLa) 1 [zA 7 1, zI 1, zI j] [] Mc = some (.inl ([zI 1], mc)) ∧ z_ev (zcd_X12_tell zLa) 1 [zA 12 84, w1, zI j] [] Mr = z_bV (zm_X12_keep zLa [zA 12 84] mr) (fun M1 => some (.inl ([zI j'], M1))) ∧ TE c Mc0 Mr0 mc mr U' j') ∨ ∃ mc mr, z_ev (zcd_X7_readCase zLa) 1 [zA 7 1, zI 1, zI j] [] Mc = some (.inl ([zI 0], mc)) ∧ z_ev (zcd_X12_tell zLa) 1 [zA 12 84, w1, zI j] [] Mr = some (.inl ([zI (-1)], mr)) ∧ hC c Mc0 mc ∧ hR Mr0 mr ∧ FC mc mr c := by
  intro d
  induction d with
  | zero =>
    intro p j Mc Mr U hd hc
    have := hc.p0
    omega
  | succ d ih =>
    intro p j Mc Mr U hd hc hr hv h7 h9 h10 h131 h40 j0 jp g1 g2
    have hp := hc.p0
    have hN := hT.2.2.1
    have hcc : c = 8 ∨ c = 42 := hc.1
    have he := eR_end hr.e
    by_cases q : K p = 1000
    · left
      refine ⟨z_wr Mc (c + 13) 1 (U 13 0), Mr, z_wr U 13 1 (U 13 0), j, ?_, ?_, ⟨(z_wr_ne (by omega)).trans hc.2.1, hc.o.ag (wr_ag (by unfold pO; omega)), hc.y.ag (wr_ag (by unfold pC; omega)), cEq.wr 13 1 (U 13 0) hc.v⟩, ⟨hr.1, ?_, fRd.u (fun o k r => z_wr_ne (by omega)) hr.2.2.1, hr.2.2.2.2⟩, hv.w131, ⟨(z_wr_ne (by omega)).trans h7, (z_wr_ne (by omega)).trans h9, (z_wr_ne (by omega)).trans h10, ?_, ?_⟩, g1.tr (gC.wr (by omega)), g2⟩
      · rw [zb_X7_readCase_1, hc.2.1, lc_0_2 hc.y, cv_13 hc.v, lo_1_0 hc.o, hc.k]
        by_cases r : j < 800
        · rw [if_pos r, if_neg nz10, if_pos q, z_lt_eq, if_pos (Or.inr rfl)]
        · rw [if_neg r, z_lt_eq, if_pos (Or.inr rfl)]
      · rw [zb_X12_tell_1, if_pos (he.1 q)]
      · exact hr.2.1
      · rw [z_wr_eq, z_wr_ne (by omega)]
      · rw [z_wr_ne (by omega)]; exact h40
    · have j8 : j < 800 := by have := hT.nx hp.1 hp.2 q; omega
      have ec : z_ev (zcd_X7_readCase zLa) 1 [zA 7 1, zI 1, zI j] [] Mc = z_bI (zm_X7_readLine zLa [zA 7 1] Mc) (fun r4 M3 => if r4 = 0 then z_lt (z_wr M3 (M3 1 1) 7 (z_add (M3 (M3 1 1) 7) (1:Int))) (fun M5 => z_ev (zcd_X7_readCase zLa) 1 [zA 7 1, zI (0:Int), zI (z_w32 (j + 1))] [] M5) else z_bI (zm_X7_take zLa [zA 7 1, zI (1010:Int)] M3) (fun r7 M6 => if r7 = 0 then z_lt (z_wr M6 (M6 1 1) 7 (z_add (M6 (M6 1 1) 7) (1:Int))) (fun M8 => z_ev (zcd_X7_readCase zLa) 1 [zA 7 1, zI (0:Int), zI (z_w32 (j + 1))] [] M8) else z_lt (z_wr M6 (M6 1 1) 7 (z_add (M6 (M6 1 1) 7) (1:Int))) (fun M9 => z_ev (zcd_X7_readCase zLa) 1 [zA 7 1, zI (1:Int), zI (z_w32 (j + 1))] [] M9))) := by
        rw [zb_X7_readCase_1, if_pos j8, if_neg nz10, lo_1_0 hc.o, hc.k, if_neg q]
      rw [ec, zb_X12_tell_1, if_neg (he.2 q)]
      rcases l_line hT n1 hv h40 hc hr with ⟨m1, mc, mr, e1, e2, e3, f1, f2, U', p', hc', hr', hv', u1, u2, u3, u4⟩ | ⟨mc, mr, e1, e3, f1, f2, f3⟩
      · have w7 : mc c 7 = j := by rw [cv_0 hc'.v, u1 7 (by decide)]; exact h7
        have hc2 : PC N K A P (z_wr mc c 7 (j + 1)) c (z_wr U' 0 7 (j + 1)) p' := hc'.wc (o := 0) (by omega) (by omega) (by unfold pC; omega)
        have hr2 : PR B K A P Q n mr (z_wr U' 0 7 (j + 1)) p' := ⟨hr'.1, mRd.u (fun o k a b => z_wr_ne (by omega)) hr'.2.1, fRd.u (fun o k r => z_wr_ne (by omega)) hr'.2.2.1, hr'.2.2.2⟩
        have hv2 : vOk (z_wr U' 0 7 (j + 1)) := hv'.cg (fun o k a b => z_wr_ne (by omega)) (z_wr_ne (by omega))
        rw [e1, z_bI_mk, if_neg nz10, e2, z_bI_mk, if_neg nz10, hc'.2.1, w7, z_add_id (by omega) (by omega), z_lt_eq, e3, z_bI_mk, if_neg nz10, z_w32_id (by omega) (by omega)]
        exact ih p' (j + 1) _ mr _ (by omega) hc2 hr2 hv2 (z_wr_eq _ _ _ _) (by rw [z_wr_ne (by omega), u1 9 (by decide)]; exact h9) (by rw [z_wr_ne (by omega), u1 10 (by decide)]; exact h10) (by rw [z_wr_ne (by omega), u2]; exact h131) (by rw [z_wr_ne (by omega)]; exact u4 h40) (by omega) (by omega) ((g1.tr f1).tr (gC.wr (by omega))) (g2.tr f2)
      · obtain ⟨m, em, gm, hF⟩ := cs_stop hc.1 f3 (z_w32 (j + 1))
        right
        refine ⟨m, mr, ?_, ?_, (g1.th f1).tr gm, g2.th f2, hF⟩
        · rcases e1 with e1 | ⟨m1, e1, e2⟩
          · rw [e1, z_bI_mk, if_pos rfl, em]
          · rw [e1, z_bI_mk, if_neg nz10, e2, z_bI_mk, if_pos rfl, em]
        · rw [e3, z_bI_mk, if_pos rfl]
end
/-- the values beside the case behind a text -/
def xV (V U : zM) (a b : Int) : zM := fun o k => if o = 100 then (if k = 0 then a else if k = 1 then b else if k = 5 then 0 else V 100 k) else U o k
section
variable {Mc Mr V : zM} {c : Int}
theorem xV_ok {U : zM} {a b : Int} (hx : xOk V) : xOk (xV V U a b) := ⟨hx.1, hx.2.1, hx.2.2.1, Int.le_refl 0, by show (0:Int) ≤ 800; decide⟩
theorem tell2 (hC : CS Mc c V) (hR : RS Mr V) (hv : vOk V) (hx : xOk V) (y : Int) : ∃ r M1 M2, zm_X11_tell zLa [zA 11 0, zI y] Mc = some ([zI r], M1) ∧ frC Mc M1 ∧ zm_X12_tell zLa [zA 12 84, zI y] Mr = some ([zI r], M2) ∧ frR Mr M2 ∧ ∃ c' V', CS M1 c' V' ∧ RS M2 V' ∧ vOk V' ∧ xOk V' := by
  have hc : c = 8 ∨ c = 42 := hC.1
  have hO := hC.2.2.2.1
  have hX := hC.2.2.2.2.2.2.2.1
  have hXr := hR.2.2.2.1
  have c00 : Mc 0 0 = 1 := lo_0_0 hO
  have c10 : Mc 1 0 = 2 := lo_1_0 hO
  have c22 : Mc 2 2 = V 100 5 := hX.2.2.2.2.2.1
  have r1' : Mr 84 1 = V 100 5 := hXr.2.2.2.2.2.1
  have w21 : z_wr Mr 84 2 0 84 1 = V 100 5 := (z_wr_ne (by omega)).trans r1'
  rw [zr_X11_tell, zb_X11_tell_0, c00, c10, c22, zr_X12_tell, zb_X12_tell_0, z_lt_eq, w21]
  by_cases q0 : y < 0
  · rw [if_pos q0, if_pos q0]
    exact ⟨-2, Mc, z_wr Mr 84 2 0, rfl, frC.rf Mc, rfl, fw2 _, c, V, hC, hR.w2, hv, hx⟩
  by_cases q1 : y ≤ V 100 5
  case neg =>
    rw [if_neg q0, if_neg q1, if_neg q0, if_neg q1]
    exact ⟨-2, Mc, z_wr Mr 84 2 0, rfl, frC.rf Mc, rfl, fw2 _, c, V, hC, hR.w2, hv, hx⟩
  have y0 : 0 ≤ y := by omega
  have y8 : y ≤ 800 := by have := hx.2.2.2.2; omega
  obtain ⟨N, K, A, P, Q, hT⟩ := TS_ex (V 101) y8 (y + 1).toNat 0 (by omega) (by decide) y0
  -- the class: tokens, an empty case
  obtain ⟨m1, e1, f1, g22, ht⟩ := e_X10_cut hT y0 y8 (lo_2_0 hO) (lo_2_1 hO) (lo_2_6 hO) (lo_2_7 hO) (lo_2_8 hO) (by omega) (fun j a b => hX.2.2.2.2.2.2 j a (by omega)) hC.2.2.2.2.2.2.2.2
  have a00 : m1 0 0 = 1 := (f1 _ _ (by omega) (by omega)).trans c00
  have a11 : m1 1 1 = 50 - c := (f1 _ _ (by omega) (by omega)).trans hC.2.2.1
  have hO1 : LyO m1 := hO.ag (fun a k q => f1 a k (by unfold pO at q; omega) (by unfold pO at q; omega))
  have hL1 : LyC m1 (50 - c) := hC.2.2.2.2.2.1.ag (fun a k q => f1 a k (by unfold pC at q; omega) (by unfold pC at q; omega))
  have hV1 : cEq m1 (50 - c) (fun o k => m1 (50 - c + o) k) := by
    refine ⟨fun k => ?_, fun k => rfl, fun k => rfl, fun k => rfl, fun k => rfl, fun k => rfl, fun k => rfl, fun k => rfl, fun k => rfl, fun k => rfl, fun k => rfl, fun k => rfl, fun k => rfl, fun k => rfl, fun k => rfl, fun k => rfl, fun k => rfl, fun k => rfl, fun k => rfl, fun k => rfl, fun k => rfl, fun k => rfl, fun k => rfl, fun k => rfl, fun k => rfl, fun k => rfl, fun k => rfl, fun k => rfl, fun k => rfl⟩
    show m1 (50 - c) k = m1 (50 - c + 0) k
    rw [Int.add_zero]
  obtain ⟨m2, e2, hL2, hV2, f2⟩ := e_clear hL1 hV1
  generalize hU0 : clV (fun o k => m1 (50 - c + o) k) = U0 at hV2
  have hcl := clV_at (fun o k => m1 (50 - c + o) k)
  have hvU := vOk_cl (fun o k => m1 (50 - c + o) k)
  rw [hU0] at hcl hvU
  have f3 : ∀ a k, ¬ (a = 1 ∧ 2 ≤ k ∧ k ≤ 3) → z_wr (z_wr m2 1 2 0) 1 3 (-1) a k = m2 a k := fun a k q => by rw [z_wr_ne (by omega), z_wr_ne (by omega)]
  have s12 : z_wr (z_wr m2 1 2 0) 1 3 (-1) 1 2 = 0 := by rw [z_wr_ne (by omega), z_wr_eq]
  have s13 : z_wr (z_wr m2 1 2 0) 1 3 (-1) 1 3 = -1 := z_wr_eq _ _ _ _
  have erc : zm_X7_readCase zLa [zA 7 1] m1 = z_out (z_ev (zcd_X7_readCase zLa) 1 [zA 7 1, zI 1, zI 0] [] (z_wr (z_wr m2 1 2 0) 1 3 (-1))) := by
    rw [zr_X7_readCase, zb_X7_readCase_0, a11, e2, z_bV_mk, z_lt_eq, z_lt_eq]
  generalize z_wr (z_wr m2 1 2 0) 1 3 (-1) = m3 at f3 s12 s13 erc
  have f23 : ∀ a k, ¬ (50 - c ≤ a ∧ a ≤ 50 - c + 30) → ¬ (a = 1 ∧ 2 ≤ k ∧ k ≤ 3) → m3 a k = m1 a k := fun a k q1 q2 => (f3 a k q2).trans (f2 a k q1)
  have hPC : PC N K A P m3 (50 - c) U0 0 := by
    refine ⟨zCc2 hC.1, (f23 1 1 (by omega) (by omega)).trans a11, hO1.ag (fun a k q => f23 a k (by unfold pO at q; omega) (by unfold pO at q; omega)), hL2.ag (fun a k q => f3 a k (by unfold pC at q; omega)), cEq.ag (fun a k q => f3 a k (by unfold pV at q; omega)) hV2, (f23 _ _ (by omega) (by omega)).trans ht.1, (f23 _ _ (by omega) (by omega)).trans ht.2.1, (f23 _ _ (by omega) (by omega)).trans ht.2.2.1, (f23 _ _ (by omega) (by omega)).trans ht.2.2.2.1, ht.2.2.2.2.1, ht.2.2.2.2.2.1, (f23 _ _ (by omega) (by omega)).trans ht.2.2.2.2.2.2.1, fun j a b => ?_⟩
    have := ht.2.2.2.2.2.2.2 j a b
    rw [f23 _ _ (by omega) (by omega), f23 _ _ (by omega) (by omega), f23 _ _ (by omega) (by omega)]
    exact this
  -- the reference: nothing read yet, its first token
  have frW : ∀ a k, ¬ (a = 84 ∧ (k = 1 ∨ k = 2 ∨ (4 ≤ k ∧ k ≤ 7))) → z_wr (z_wr (z_wr (z_wr (z_wr (z_wr Mr 84 2 0) 84 6 y) 84 1 0) 84 4 0) 84 5 (-1)) 84 7 0 a k = Mr a k := fun a k q => by rw [z_wr_ne (by omega), z_wr_ne (by omega), z_wr_ne (by omega), z_wr_ne (by omega), z_wr_ne (by omega), z_wr_ne (by omega)]
  have t6 : z_wr (z_wr (z_wr (z_wr (z_wr (z_wr Mr 84 2 0) 84 6 y) 84 1 0) 84 4 0) 84 5 (-1)) 84 7 0 84 6 = y := by rw [z_wr_ne (by omega), z_wr_ne (by omega), z_wr_ne (by omega), z_wr_ne (by omega), z_wr_eq]
  have t1 : z_wr (z_wr (z_wr (z_wr (z_wr (z_wr Mr 84 2 0) 84 6 y) 84 1 0) 84 4 0) 84 5 (-1)) 84 7 0 84 1 = 0 := by rw [z_wr_ne (by omega), z_wr_ne (by omega), z_wr_ne (by omega), z_wr_eq]
  have t4 : z_wr (z_wr (z_wr (z_wr (z_wr (z_wr Mr 84 2 0) 84 6 y) 84 1 0) 84 4 0) 84 5 (-1)) 84 7 0 84 4 = 0 := by rw [z_wr_ne (by omega), z_wr_ne (by omega), z_wr_eq]
  have t5 : z_wr (z_wr (z_wr (z_wr (z_wr (z_wr Mr 84 2 0) 84 6 y) 84 1 0) 84 4 0) 84 5 (-1)) 84 7 0 84 5 = -1 := by rw [z_wr_ne (by omega), z_wr_eq]
  have t7 : z_wr (z_wr (z_wr (z_wr (z_wr (z_wr Mr 84 2 0) 84 6 y) 84 1 0) 84 4 0) 84 5 (-1)) 84 7 0 84 7 = 0 := z_wr_eq _ _ _ _
  rw [if_neg q0, if_pos q1, e1, z_bV_mk, a00, erc, if_neg q0, if_pos q1, z_lt_eq, z_lt_eq, z_lt_eq, z_lt_eq, z_lt_eq]
  generalize z_wr (z_wr (z_wr (z_wr (z_wr (z_wr Mr 84 2 0) 84 6 y) 84 1 0) 84 4 0) 84 5 (-1)) 84 7 0 = W0 at frW t6 t1 t4 t5 t7 ⊢
  have hR0 : LyR W0 := hR.1.ag (fun a k q => frW a k (by unfold pR at q; omega))
  obtain ⟨r1, ep, hRp, v0, v5, fp⟩ := r_plain hR0
  have fp' : ∀ a k, ¬ (a = 84 ∧ (k = 1 ∨ k = 2 ∨ (4 ≤ k ∧ k ≤ 7) ∨ (16 ≤ k ∧ k ≤ 20) ∨ k = 55)) → ¬ (105 ≤ a ∧ a ≤ 106 ∧ 3 ≤ k ∧ k < 6) → r1 a k = Mr a k := fun a k q1 q2 => (fp a k (by omega) q2).trans (frW a k (by omega))
  have hkR : kR (V 101) y r1 := ⟨lr_0 hRp, lr_3 hRp, (fp _ _ (by omega) (by omega)).trans t6, fun j a b => (fp' _ _ (by omega) (by omega)).trans (hXr.2.2.2.2.2.2 j a (by omega)), fun j a b => (fp' _ _ (by omega) (by omega)).trans (hR.2.2.2.2.1 j a b)⟩
  have hN1 := hT.2.1
  obtain ⟨-, -, -, hrt⟩ := hT.2.2.2.2.2 0 (by decide) (by omega)
  rw [hT.1] at hrt
  obtain ⟨r2, et, fu, u7, u10, ue⟩ := hrt r1 hkR ((fp _ _ (by omega) (by omega)).trans t7)
  have hR2 : LyR r2 := hRp.ag (fun a k q => fu a k (by unfold pR at q; omega))
  have hB2 : bR r2 := bR.ag (fun k => (fu _ _ (by omega)).trans (fp' _ _ (by omega) (by omega))) hR.2.2.2.2.2
  obtain ⟨k1, k7, k13, k131, k19, k25, k27, k29, k07, k08, k09, k010⟩ := hcl
  have e105 : ∀ k, 3 ≤ k → k < 6 → r2 105 k = 0 ∧ r2 106 k = 0 := fun k a b => by rw [fu _ _ (by omega), fu _ _ (by omega)]; exact v5 k a b
  have hPR : PR (V 101) K A P Q y r2 U0 0 := by
    refine ⟨hR2, ⟨⟨?_, ?_, ?_, ?_⟩, fun k a b => by omega, fun k a b => by omega, fun k a b => by omega, fun k a b => by omega⟩, ⟨?_, ?_, by omega, by omega, ⟨by omega, by omega, Or.inl ⟨k25, e105 (3 + 0) (by decide) (by decide)⟩⟩, ⟨by omega, by omega, Or.inl ⟨k27, e105 (3 + 1) (by decide) (by decide)⟩⟩, ⟨by omega, by omega, Or.inl ⟨k29, e105 (3 + 2) (by decide) (by decide)⟩⟩⟩, ⟨hkR.fr fu, u7, u10, ue⟩, hB2⟩
    · rw [fu _ _ (by omega), v0.1, k1]
    · rw [fu _ _ (by omega), v0.2.1, k7]
    · rw [fu _ _ (by omega), v0.2.2.1, k13]
    · rw [fu _ _ (by omega), v0.2.2.2.1, k19]
    · rw [fu _ _ (by omega), v0.2.2.2.2.1, k08]
    · rw [fu _ _ (by omega), v0.2.2.2.2.2, k08]
  rw [ep, z_bV_mk, et, z_bV_mk]
  have hN8 := hT.2.2.1
  -- what a class memory behind it keeps
  have fc3 : ∀ a k, ¬ (50 - c ≤ a ∧ a ≤ 50 - c + 30) → ¬ (a = 1 ∧ 2 ≤ k ∧ k ≤ 3) → ¬ (a = 2 ∧ ((2 ≤ k ∧ k ≤ 5) ∨ (9 ≤ k ∧ k ≤ 12))) → ¬ (5 ≤ a ∧ a ≤ 7) → m3 a k = Mc a k := fun a k q1 q2 q3 q4 => (f23 a k q1 q2).trans (f1 a k q3 q4)
  have s22 : m3 2 2 = 0 := (f23 _ _ (by omega) (by omega)).trans g22
  have fr2 : ∀ a k, ¬ (a = 84 ∧ (k = 1 ∨ k = 2 ∨ (4 ≤ k ∧ k ≤ 10) ∨ (16 ≤ k ∧ k ≤ 20) ∨ k = 55)) → ¬ (105 ≤ a ∧ a ≤ 106 ∧ 3 ≤ k ∧ k < 6) → r2 a k = Mr a k := fun a k q1 q2 => (fu a k (by omega)).trans (fp' a k (by omega) q2)
  have d1 : r2 84 1 = 0 := by rw [fu _ _ (by omega), fp _ _ (by omega) (by omega)]; exact t1
  have d4 : r2 84 4 = 0 := by rw [fu _ _ (by omega), fp _ _ (by omega) (by omega)]; exact t4
  have d5 : r2 84 5 = -1 := by rw [fu _ _ (by omega), fp _ _ (by omega) (by omega)]; exact t5
  have frR2 : frR Mr r2 := fun a k q => fr2 a k (by omega) (by omega)
  have frC3 : frC Mc m3 := fun a k q => fc3 a k (by omega) (by omega) (by omega) (by omega)
  rcases t_loop (Mc0 := m3) (Mr0 := r2) hT y8 (zI y) (N - 0).toNat 0 0 m3 r2 U0 (by omega) hPC hPR hvU k07 k09 k010 k131 (by omega) (by decide) (by decide) (gC.rf _ m3) (gR.rf r2) with ⟨mc, mr, U', j', ex, ey, ⟨z1, z2, z3, z4⟩, ⟨y1, y2, y3, y4⟩, hvE, ⟨x7, x9, x10, x131, x40⟩, gc, gr⟩ | ⟨mc, mr, ex, ey, gc, gr, hF⟩
  · -- a text without a FAULT
    have hNE := hvE.1
    obtain ⟨m, ek, w84, wa, wb, wc, wd, we, wf, wfr⟩ := r_keep y1 y4
    have p01 : mc 0 1 = c := by rw [gc _ _ (by omega) (by omega) (by omega) (by omega), fc3 _ _ (by omega) (by omega) (by omega) (by omega)]; exact hC.2.1
    have p00 : mc 0 0 = 1 := by rw [gc _ _ (by omega) (by omega) (by omega) (by omega), fc3 _ _ (by omega) (by omega) (by omega) (by omega)]; exact c00
    have fm5 : ∀ a k, ¬ (a = 1 ∧ k = 1) → ¬ (a = 0 ∧ k = 1) → z_wr (z_wr mc 1 1 c) 0 1 (50 - c) a k = mc a k := fun a k q1 q2 => by rw [z_wr_ne (by omega), z_wr_ne (by omega)]
    have ans : z_wr (z_wr mc 1 1 c) 0 1 (50 - c) (z_wr (z_wr mc 1 1 c) 0 1 (50 - c) 0 1) 7 = j' := by rw [z_wr_eq, fm5 _ _ (by omega) (by omega), cv_0 z4]; exact x7
    rw [ex, z_bIo, if_neg nz10, p00, p01, z_lt_eq, z1, z_lt_eq, ans, ey, ek, z_bV_mk]
    have e01 : z_wr (z_wr mc 1 1 c) 0 1 (50 - c) 0 1 = 50 - c := z_wr_eq _ _ _ _
    have e11 : z_wr (z_wr mc 1 1 c) 0 1 (50 - c) 1 1 = c := by rw [z_wr_ne (by omega), z_wr_eq]
    generalize z_wr (z_wr mc 1 1 c) 0 1 (50 - c) = m5 at fm5 e01 e11 ⊢
    have fall : ∀ a k, ¬ (a = 1 ∧ (k = 1 ∨ (2 ≤ k ∧ k ≠ 5))) → ¬ (a = 0 ∧ k = 1) → ¬ (a = 2 ∧ ((2 ≤ k ∧ k ≤ 5) ∨ (9 ≤ k ∧ k ≤ 12))) → ¬ (5 ≤ a ∧ a ≤ 7) → a ≠ 41 → ¬ (50 - c ≤ a ∧ a ≤ 50 - c + 30) → m5 a k = Mc a k := fun a k q1 q2 q3 q4 q5 q6 => by rw [fm5 a k (by omega) q2, gc a k (by omega) (by omega) q5 q6, fc3 a k q6 (by omega) q3 q4]
    have gfall : ∀ a k, ¬ (a = 84 ∧ (k = 1 ∨ k = 2 ∨ (4 ≤ k ∧ k ≤ 20) ∨ (44 ≤ k ∧ k ≤ 46) ∨ (52 ≤ k ∧ k ≤ 57))) → ¬ (87 ≤ a ∧ a ≤ 111) → m a k = Mr a k := fun a k q1 q2 => by rw [wfr a k (by omega) (by omega) (by omega) (by omega) (by omega) (by omega) (by omega), gr a k (by unfold wRd; omega), fr2 a k (by omega) (by omega)]
    have r84 : ∀ k, ¬ ((11 ≤ k ∧ k ≤ 15) ∨ (44 ≤ k ∧ k ≤ 46)) → m 84 k = mr 84 k := fun k q => wfr 84 k (by omega) (by omega) (by omega) (by omega) (by omega) (by omega) (by omega)
    refine ⟨j', m5, m, rfl, fun a k q => fall a k (by omega) (by omega) (by omega) (by omega) (by omega) (by omega), rfl, fun a k q => gfall a k (by omega) (by omega), 50 - c, xV V U' 0 (-1), ?_, ?_, hvE, xV_ok hx⟩
    · refine ⟨zCc2 hC.1, e01, by rw [e11]; omega, z2.ag (fun a k q => fm5 a k (by unfold pO at q; omega) (by unfold pO at q; omega)), z3.ag (fun a k q => fm5 a k (by unfold pC at q; omega) (by unfold pC at q; omega)), ?_, ?_, ⟨?_, ?_, ?_, ?_, ?_, ?_, fun j a b => ?_⟩, fun j a b => ?_⟩
      · rw [(by omega : 50 - (50 - c) = c)]
        exact hC.2.2.2.2.1.ag (fun a k q => fall a k (by unfold pC at q; omega) (by unfold pC at q; omega) (by unfold pC at q; omega) (by unfold pC at q; omega) (by unfold pC at q; omega) (by unfold pC at q; omega))
      · have := cEq.ag (M' := m5) (fun a k q => fm5 a k (by unfold pV at q; omega) (by unfold pV at q; omega)) z4
        exact this
      · show m5 1 2 = 0
        rw [fm5 _ _ (by omega) (by omega), gc _ _ (by omega) (by omega) (by omega) (by omega)]; exact s12
      · show m5 1 3 = -1
        rw [fm5 _ _ (by omega) (by omega), gc _ _ (by omega) (by omega) (by omega) (by omega)]; exact s13
      · show m5 0 2 = V 100 2
        rw [fall _ _ (by omega) (by omega) (by omega) (by omega) (by omega) (by omega)]; exact hX.2.2.1
      · show m5 0 3 = V 100 3
        rw [fall _ _ (by omega) (by omega) (by omega) (by omega) (by omega) (by omega)]; exact hX.2.2.2.1
      · show m5 0 4 = V 100 4
        rw [fall _ _ (by omega) (by omega) (by omega) (by omega) (by omega) (by omega)]; exact hX.2.2.2.2.1
      · show m5 2 2 = 0
        rw [fm5 _ _ (by omega) (by omega), gc _ _ (by omega) (by omega) (by omega) (by omega)]; exact s22
      · exfalso
        have b' : j < 0 := b
        omega
      · rw [fall _ _ (by omega) (by omega) (by omega) (by omega) (by omega) (by omega)]
        exact hC.2.2.2.2.2.2.2.2 j a b
    · have o20 : mr 84 20 = U' 0 8 := y3.1
      have o64 : U' 0 8 ≤ 64 := y3.2.2.2.1
      have fOf : ∀ (Ne e : Int) (cd : Int → Int), 0 ≤ e → e < 3 → fRe mr Ne cd e → fOk m Ne cd e := fun Ne e cd e0 e3 h => by
        obtain ⟨h0, h1, h2⟩ := h
        refine ⟨h0, h1, ?_⟩
        rw [we 105 e (by decide) (by decide) e0 e3, we 106 e (by decide) (by decide) e0 e3]
        rcases h2 with h2 | ⟨n1, n2, n3, n4, n5⟩
        · exact Or.inl ⟨h2.1, by omega⟩
        · refine Or.inr ⟨n1, n2, n3, by omega, wfF_cg _ _ _ (fun j a b => ⟨⟨?_, ?_, ?_⟩, rfl⟩) n5⟩
          · exact wf 107 _ (by decide) (by decide) (by omega) (by omega)
          · exact wf 108 _ (by decide) (by decide) (by omega) (by omega)
          · exact wf 109 _ (by decide) (by decide) (by omega) (by omega)
      refine ⟨y1.ag (fun a k q => ?_), ⟨⟨?_, ?_, ?_, ?_, ?_, ?_, ?_, ?_⟩, fun k a b => ?_, fun k a b => ?_, fun k a b => ?_, fun k a b => ?_⟩, ⟨fOf _ _ _ (by decide) (by decide) y3.2.2.2.2.1, fOf _ _ _ (by decide) (by decide) y3.2.2.2.2.2.1, fOf _ _ _ (by decide) (by decide) y3.2.2.2.2.2.2⟩, ⟨?_, ?_, ?_, ?_, ?_, ?_, fun j a b => ?_⟩, fun j a b => ?_, fun j a b => ?_⟩
      · unfold pR at q
        have : a = 84 := by omega
        rw [this, r84 k (by omega)]
      · show m 84 11 = U' 1 0
        rw [w84.1]; exact y2.1.1
      · show m 84 12 = U' 7 0
        rw [w84.2.1]; exact y2.1.2.1
      · show m 84 13 = U' 13 0
        rw [w84.2.2.1]; exact y2.1.2.2.1
      · show m 84 14 = U' 19 0
        rw [w84.2.2.2.1]; exact y2.1.2.2.2
      · show m 84 15 = U' 0 8
        rw [w84.2.2.2.2.1]; exact o20
      · show m 84 45 = U' 0 9
        rw [w84.2.2.2.2.2.2.1, x9]
      · show m 84 46 = U' 0 10
        rw [w84.2.2.2.2.2.2.2, x10]
      · show m 84 44 = U' 13 0 - U' 13 1
        rw [w84.2.2.2.2.2.1]; omega
      · have b' : k < U' 1 0 := b
        rw [wa 87 k (by decide) (by decide) a (by omega), wa 88 k (by decide) (by decide) a (by omega), wa 89 k (by decide) (by decide) a (by omega), wa 90 k (by decide) (by decide) a (by omega), wa 91 k (by decide) (by decide) a (by omega)]
        exact y2.2.1 k a b'
      · have b' : k < U' 7 0 := b
        rw [wb 92 k (by decide) (by decide) a (by omega), wb 93 k (by decide) (by decide) a (by omega), wb 94 k (by decide) (by decide) a (by omega), wb 95 k (by decide) (by decide) a (by omega), wb 96 k (by decide) (by decide) a (by omega)]
        exact y2.2.2.1 k a b'
      · have b' : k < U' 13 0 := b
        rw [wc 97 k (by decide) (by decide) a (by omega), wc 98 k (by decide) (by decide) a (by omega), wc 99 k (by decide) (by decide) a (by omega), wc 100 k (by decide) (by decide) a (by omega), wc 101 k (by decide) (by decide) a (by omega)]
        exact y2.2.2.2.1 k a b'
      · have b' : k < U' 19 0 := b
        rw [wd 102 k (by decide) (by decide) a (by omega), wd 103 k (by decide) (by decide) a (by omega), wd 104 k (by decide) (by decide) a (by omega)]
        exact y2.2.2.2.2 k a b'
      · show m 84 4 = 0
        rw [r84 _ (by omega), gr _ _ (by unfold wRd; omega)]; exact d4
      · show m 84 5 = -1
        rw [r84 _ (by omega), gr _ _ (by unfold wRd; omega)]; exact d5
      · show m 84 47 = V 100 2
        rw [gfall _ _ (by omega) (by omega)]; exact hXr.2.2.1
      · show m 84 48 = V 100 3
        rw [gfall _ _ (by omega) (by omega)]; exact hXr.2.2.2.1
      · show m 84 49 = V 100 4
        rw [gfall _ _ (by omega) (by omega)]; exact hXr.2.2.2.2.1
      · show m 84 1 = 0
        rw [r84 _ (by omega), gr _ _ (by unfold wRd; omega)]; exact d1
      · exfalso
        have b' : j < 0 := b
        omega
      · rw [gfall _ _ (by omega) (by omega)]
        exact hR.2.2.2.2.1 j a b
      · by_cases r : j < 40
        · rw [wc 97 j (by decide) (by decide) a r]
          exact y4 _ (by omega) (by omega)
        · rw [wfr 97 j (by omega) (by omega) (by omega) (by omega) (by omega) (by omega) (by omega)]
          exact y4 j a b
  · -- a FAULT
    obtain ⟨z1, z2, z3, z4, z5, z6, z7⟩ := hF
    have fall : ∀ a k, ¬ (a = 1 ∧ 2 ≤ k ∧ k ≠ 5) → ¬ (a = 2 ∧ ((2 ≤ k ∧ k ≤ 5) ∨ (9 ≤ k ∧ k ≤ 12))) → ¬ (5 ≤ a ∧ a ≤ 7) → a ≠ 41 → ¬ (50 - c ≤ a ∧ a ≤ 50 - c + 30) → mc a k = Mc a k := fun a k q1 q3 q4 q5 q6 => by rw [gc a k q1 (by omega) q5 q6, fc3 a k q6 (by omega) q3 q4]
    have gfall : ∀ a k, ¬ wRd a k → ¬ (a = 84 ∧ (k = 1 ∨ k = 2 ∨ (4 ≤ k ∧ k ≤ 10) ∨ (16 ≤ k ∧ k ≤ 20) ∨ k = 55)) → mr a k = Mr a k := fun a k q1 q2 => by rw [gr a k q1 (by omega), fr2 a k q2 (by unfold wRd at q1; omega)]
    rw [ex, z_bIo, if_pos rfl, ey]
    refine ⟨-1, mc, mr, rfl, fun a k q => fall a k (by omega) (by omega) (by omega) (by omega) (by omega), rfl, fun a k q => gfall a k (by unfold wRd; omega) (by omega), c, xV V V (mc 1 2) (mc 1 3), ?_, ?_, hv, xV_ok hx⟩
    · refine ⟨hC.1, ?_, z1, z2, ?_, z3, ?_, ⟨rfl, rfl, ?_, ?_, ?_, ?_, fun j a b => ?_⟩, fun j a b => ?_⟩
      · rw [fall _ _ (by omega) (by omega) (by omega) (by omega) (by omega)]; exact hC.2.1
      · exact hC.2.2.2.2.1.ag (fun a k q => fall a k (by unfold pC at q; omega) (by unfold pC at q; omega) (by unfold pC at q; omega) (by unfold pC at q; omega) (by unfold pC at q; omega))
      · have := cEq.ag (M' := mc) (fun a k q => fall a k (by unfold pV at q; omega) (by unfold pV at q; omega) (by unfold pV at q; omega) (by unfold pV at q; omega) (by unfold pV at q; omega)) hC.2.2.2.2.2.2.1
        exact this
      · show mc 0 2 = V 100 2
        rw [fall _ _ (by omega) (by omega) (by omega) (by omega) (by omega)]; exact hX.2.2.1
      · show mc 0 3 = V 100 3
        rw [fall _ _ (by omega) (by omega) (by omega) (by omega) (by omega)]; exact hX.2.2.2.1
      · show mc 0 4 = V 100 4
        rw [fall _ _ (by omega) (by omega) (by omega) (by omega) (by omega)]; exact hX.2.2.2.2.1
      · show mc 2 2 = 0
        rw [gc _ _ (by omega) (by omega) (by omega) (by omega)]; exact s22
      · exfalso
        have b' : j < 0 := b
        omega
      · rw [fall _ _ (by omega) (by omega) (by omega) (by omega) (by omega)]
        exact hC.2.2.2.2.2.2.2.2 j a b
    · refine ⟨z6, ?_, ?_, ⟨z4.symm, z5.symm, ?_, ?_, ?_, ?_, fun j a b => ?_⟩, fun j a b => ?_, z7⟩
      · have := mEq.ag (M' := mr) hv.1 (fun a k q => gfall a k (by unfold pM at q; unfold wRd; omega) (by unfold pM at q; omega)) hR.2.1
        exact this
      · have := gF.ag (M' := mr) (fun a k q => gfall a k (by unfold pF at q; unfold wRd; omega) (by unfold pF at q; omega)) hR.2.2.1
        exact this
      · show mr 84 47 = V 100 2
        rw [gfall _ _ (by unfold wRd; omega) (by omega)]; exact hXr.2.2.1
      · show mr 84 48 = V 100 3
        rw [gfall _ _ (by unfold wRd; omega) (by omega)]; exact hXr.2.2.2.1
      · show mr 84 49 = V 100 4
        rw [gfall _ _ (by unfold wRd; omega) (by omega)]; exact hXr.2.2.2.2.1
      · show mr 84 1 = 0
        rw [gr _ _ (by unfold wRd; omega) (by omega)]; exact d1
      · exfalso
        have b' : j < 0 := b
        omega
      · rw [gfall _ _ (by unfold wRd; omega) (by omega)]
        exact hR.2.2.2.2.1 j a b
end
theorem i_tell {M : zM} (hI : gI M) (y : Int) : PrI zm_X11_tell zm_X12_tell [zI y] M := by
  obtain ⟨c, V, hC, hR, hv, hx⟩ := hI
  obtain ⟨r, M1, M2, e1, f1, e2, f2, -⟩ := tell2 hC hR hv hx y
  obtain ⟨r', M1', M2', e1', f1', e2', f2', c', V', h1, h2, h3, h4⟩ := tell2 hC (RS.fr hv.1 f1 hR) hv hx y
  rw [e1] at e1'
  have e := Option.some.inj e1'
  have er : r = r' := by
    have := congrArg Prod.fst e
    cases this
    rfl
  have em : M1 = M1' := congrArg Prod.snd e
  subst er
  subst em
  exact ⟨_, M1, M2', e1, e2', c', V', h1.fr f2', h2, h3, h4⟩
end
