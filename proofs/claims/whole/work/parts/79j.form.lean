section
/-! ===== lines of law, bar, jury: an E to its end ===== -/
theorem vOk.cg {U U' : zM} (h : ∀ o k, 1 ≤ o → o ≤ 22 → U' o k = U o k) (h9 : U' 0 9 = U 0 9) (hv : vOk U) : vOk U' := by
  have e : ∀ o, 1 ≤ o → o ≤ 22 → U' o = U o := fun o a b => funext (fun k => h o k a b)
  have q : vOk U' = vOk U := by
    unfold vOk vOkN vOkT vOkS vOkL vOkM vOkP
    rw [e 1 (by decide) (by decide), e 3 (by decide) (by decide), e 4 (by decide) (by decide), e 5 (by decide) (by decide), e 6 (by decide) (by decide), e 7 (by decide) (by decide), e 9 (by decide) (by decide), e 10 (by decide) (by decide), e 11 (by decide) (by decide), e 12 (by decide) (by decide), e 13 (by decide) (by decide), e 14 (by decide) (by decide), e 15 (by decide) (by decide), e 16 (by decide) (by decide), e 17 (by decide) (by decide), e 18 (by decide) (by decide), e 19 (by decide) (by decide), e 20 (by decide) (by decide), e 21 (by decide) (by decide), e 22 (by decide) (by decide), h9]
  rw [q]; exact hv
theorem mRd.u {M U U' : zM} (h : ∀ o k, 1 ≤ o → o ≤ 22 → U' o k = U o k) (hm : mRd M U) : mRd M U' := by
  have e : ∀ o, 1 ≤ o → o ≤ 22 → U' o = U o := fun o a b => funext (fun k => h o k a b)
  have q : mRd M U' = mRd M U := by
    unfold mRd
    rw [e 1 (by decide) (by decide), e 2 (by decide) (by decide), e 3 (by decide) (by decide), e 4 (by decide) (by decide), e 5 (by decide) (by decide), e 6 (by decide) (by decide), e 7 (by decide) (by decide), e 8 (by decide) (by decide), e 9 (by decide) (by decide), e 10 (by decide) (by decide), e 11 (by decide) (by decide), e 12 (by decide) (by decide), e 13 (by decide) (by decide), e 14 (by decide) (by decide), e 15 (by decide) (by decide), e 16 (by decide) (by decide), e 17 (by decide) (by decide), e 18 (by decide) (by decide), e 19 (by decide) (by decide), e 20 (by decide) (by decide), e 21 (by decide) (by decide), e 22 (by decide) (by decide)]
  rw [q]; exact hm
section
variable {B K A P Q : Int → Int} {n N : Int} {Mc Mr Mc0 Mr0 U U' : zM} {c p f e F : Int}
theorem f_stop (hf : hFe f e) (hcc : zCc c) {mc mr : zM} (hF : FC mc mr c) (h6 : 0 ≤ mc 1 6 ∧ mc 1 6 ≤ 72) (hi : 0 ≤ mc (c + f) 0 ∧ mc (c + f) 0 ≤ 64) (j : Int) : ∃ m, z_ev (zcd_X7_readFormula zLa) 1 [zA 7 1, zA 2 (c + f), zI 0, zI j] [] mc = some (.inl ([zI 0], m)) ∧ gC c mc m ∧ FC m mr c := by
  obtain ⟨g1, g2, g3, g4, g5, g6, g7⟩ := hF
  obtain ⟨m, em, gm, j1, j2, j3, j4, j5⟩ := rel_any hf hcc (r1 := 1) (mc 1 6).toNat mc (by omega) (by omega) hi.1 hi.2 g1 g2 g3
  have er : zm_X7_release zLa [zA 7 1, zA 2 (c + f), zI 1] mc = some ([], m) := by
    rw [zr_X7_release]; refine z_out_some ?_; rw [zb_X7_release_0, em]
  refine ⟨m, ?_, gm, j1, j2, j3, j4.trans g4, j5.trans g5, g6, g7⟩
  rw [zb_X7_readFormula_1]
  by_cases q : j ≤ 800
  · rw [if_pos q, if_pos rfl, er, z_bV_mk, if_pos (Or.inl rfl)]
  · rw [if_neg q, er, z_bV_mk, if_pos (Or.inl rfl)]
theorem l_loop (hT : TS B n 0 N K A P Q) (n1 : n ≤ 800) (hf : hFe f e) {p1 : Int} (hp1 : 1 ≤ p1) : ∀ (d : Nat) (p : Int) (Mc Mr : zM) (W s : List Int) (i wt nm : Int), N - p ≤ d → p1 ≤ p → FI B K A P Q n N c f F U Mc0 Mr0 p Mc Mr W s i wt nm → LK (z_out (z_ev (zcd_X7_readFormula zLa) 1 [zA 7 1, zA 2 (c + f), zI 1, zI (p - p1)] [] Mc)) (z_out (z_ev (zcd_X12_sumLine zLa) 1 [zA 12 84, zI (3 + e)] [] Mr)) c Mc0 Mr0 (fun mc mr => ∃ p' Mr1 s i nm, p1 ≤ p' ∧ FI B K A P Q n N c f F U Mc0 Mr0 p' mc Mr1 [] s i 0 nm ∧ mr = z_wr Mr1 106 (3 + e) (F + i)) := by
  intro d
  induction d with
  | zero =>
    intro p Mc Mr W s i wt nm hd _ h
    obtain ⟨U', kn, hc, -⟩ := h
    have := hc.p0
    omega
  | succ d ih =>
    intro p Mc Mr W s i wt nm hd hpp h
    have h0 := h
    have rg := h.rng
    obtain ⟨U', kn, hc, hP, hU, h1, h2, ha, hb, hp, hw, g1, g2⟩ := h
    have hN := hT.2.2.1
    have hp0 := hc.p0
    have hen : 0 ≤ e ∧ e ≤ 2 := by unfold hFe at hf; omega
    obtain ⟨⟨a1, a2, a3, a4⟩, a5⟩ := ha
    obtain ⟨⟨b1, b2, b3, b4, b5, b6, b7⟩, bw, bs⟩ := hb
    have hwt := hp.1.2.2.2.2.2.2
    have x8 : p - p1 ≤ 800 := by omega
    have w32 : z_w32 (p - p1 + 1) = p + 1 - p1 := by rw [z_w32_id (by omega) (by omega)]; omega
    have rgO := nOp_rng W
    have stop : ∀ (x : Option (List zV × zM)) (y : Option (List zV × zM)) (k : Int → zM → Option zRs), LF x y c f Mc0 Mr0 → LK (z_out (z_bI x (fun r M2 => z_ev (zcd_X7_readFormula zLa) 1 [zA 7 1, zA 2 (c + f), zI r, zI (z_w32 (p - p1 + 1))] [] M2))) (z_out (z_bI y (fun r M1 => if r = 0 then some (.inl ([zI (0:Int)], M1)) else k r M1))) c Mc0 Mr0 (fun mc mr => ∃ p' Mr1 s i nm, p1 ≤ p' ∧ FI B K A P Q n N c f F U Mc0 Mr0 p' mc Mr1 [] s i 0 nm ∧ mr = z_wr Mr1 106 (3 + e) (F + i)) := fun x y k hL => by
      obtain ⟨mc, mr, ex, ey, f1, f2, f3, f4, f5⟩ := hL
      obtain ⟨m, em, gm, hFm⟩ := f_stop hf hc.1 f3 f4 f5 (z_w32 (p - p1 + 1))
      rw [ex, z_bI_mk, em, ey, z_bI_mk, if_pos rfl]
      exact Or.inr ⟨m, mr, rfl, rfl, f1.tr gm.h, f2, hFm⟩
    have go : ∀ (x : Option (List zV × zM)) (y : Option (List zV × zM)), FSt B K A P Q n N c f F U Mc0 Mr0 p x y → LK (z_out (z_bI x (fun r M2 => z_ev (zcd_X7_readFormula zLa) 1 [zA 7 1, zA 2 (c + f), zI r, zI (z_w32 (p - p1 + 1))] [] M2))) (z_out (z_bI y (fun r M1 => if r = 0 then some (.inl ([zI (0:Int)], M1)) else z_ev (zcd_X12_sumLine zLa) 1 [zA 12 84, zI (3 + e)] [] M1))) c Mc0 Mr0 (fun mc mr => ∃ p' Mr1 s i nm, p1 ≤ p' ∧ FI B K A P Q n N c f F U Mc0 Mr0 p' mc Mr1 [] s i 0 nm ∧ mr = z_wr Mr1 106 (3 + e) (F + i)) := fun x y hS => by
      rcases hS with ⟨mc, mr, W', s', i', wt', nm', ex, ey, hF⟩ | hL
      · rw [ex, z_bI_mk, ey, z_bI_mk, if_neg nz10, w32]
        exact ih (p + 1) mc mr W' s' i' wt' nm' (by omega) (by omega) hF
      · exact stop x y _ hL
    have ends : zm_X7_formulaEnds zLa [zA 7 1] Mc = some ([zI (b2i (wt = 0 ∧ nOp W = 0 ∧ K p = 1010))], Mc) := by
      rw [zr_X7_formulaEnds]
      refine z_out_some ?_
      rw [zb_X7_formulaEnds_0, a3, a2, lo_1_0 hc.o, hc.k]
      by_cases q1 : wt = 0
      · rw [if_pos q1]
        by_cases q2 : nOp W = 0
        · rw [if_pos q2]
          by_cases q3 : K p = 1010
          · rw [if_pos q3, b2i_pos ⟨q1, q2, q3⟩]
          · rw [if_neg q3, b2i_neg (fun r => q3 r.2.2)]
        · rw [if_neg q2, b2i_neg (fun r => q2 r.2.1)]
      · rw [if_neg q1, b2i_neg (fun r => q1 r.1)]
    rw [zb_X7_readFormula_1, if_pos x8, if_neg nz10, ends, z_bI_mk]
    by_cases qe : wt = 0 ∧ nOp W = 0 ∧ K p = 1010
    · obtain ⟨e0, e1, e2⟩ := qe
      subst e0
      obtain ⟨W', s', i', mc, mr, ex, ey, hF, hn, hcs⟩ := rel hf (r1 := 1) (by decide) W s i Mc Mr zU zU zU h0
      have hW : W' = [] := by
        rcases hcs with r | ⟨y, r, e3, hy⟩
        · exact r
        · exfalso
          subst e3
          obtain ⟨_, _, _, _, _, _, _, _, _, hq, _⟩ := hF
          have hy1 : y = 1011 := rnk_0 (hq.2.2 y List.mem_cons_self) hy
          subst hy1
          have no : nOp (1011 :: r) = 1 + nOp r := rfl
          have := nOp_rng r
          omega
      subst hW
      have er : zm_X7_release zLa [zA 7 1, zA 2 (c + f), zI 1] Mc = some ([], mc) := by
        rw [zr_X7_release]; refine z_out_some ?_; rw [zb_X7_release_0, ex]
      have eb : zm_X12_bind zLa [zA 12 84, zI 1] Mr = some ([], mr) := by
        rw [zr_X12_bind]; refine z_out_some ?_; rw [zb_X12_bind_0, ey]
      have hF0 := hF
      obtain ⟨V, kn', hcV, hPV, _, _, _, _, hbV, hpV, _, gcV, gwV⟩ := hF
      have q0 : nOp W ≤ 0 := by omega
      rw [b2i_pos ⟨rfl, e1, e2⟩, if_neg nz10, er, z_bV_mk, if_pos (Or.inr rfl), zb_X12_sumLine_1, ← s59, hP.s1 (by decide) (by decide), z_bI_mk, b2i_pos e2, if_neg nz10, b3, if_pos rfl, b2, if_pos q0, eb, z_bV_mk, lr_40 hPV.1, la_106, if_pos ⟨by omega, by omega⟩, hbV.1.2.2.2.2.2.1, z_lt_eq]
      exact Or.inl ⟨mc, _, rfl, rfl, gcV, (gwV.gr rg.1).tr (gR.wr (by unfold wRd; omega)), p, mr, s', i', nm, hpp, hF0, rfl⟩
    · have er : z_ev (zcd_X12_sumLine zLa) 1 [zA 12 84, zI (3 + e)] [] Mr = z_ev (zcd_X12_sumLine zLa) 2 [zA 12 84, zI (3 + e)] [] Mr := by
        rw [zb_X12_sumLine_1, ← s59, hP.s1 (by decide) (by decide), z_bI_mk]
        by_cases q1 : K p = 1010
        · rw [b2i_pos q1, if_neg nz10, b3]
          by_cases q2 : wt = 0
          · have q3 : ¬ nOp W ≤ 0 := fun r => qe ⟨q2, by omega, q1⟩
            rw [if_pos q2, b2, if_neg q3]
          · rw [if_neg q2]
        · rw [b2i_neg q1, if_pos rfl]
      rw [b2i_neg qe, if_pos rfl, a3, er, zb_X12_sumLine_2, b3, lo_1_0 hc.o, hc.k]
      rcases hwt with q | q
      · subst q
        rw [if_pos rfl, if_pos rfl]
        by_cases q2 : K p = 1012
        · rw [if_pos q2]
          exact go _ _ (st_close hT n1 hf h0 q2)
        · rw [if_neg q2]
          exact go _ _ (st_sign hT n1 hf h0 q2)
      · subst q
        rw [if_neg nz10, if_neg nz10]
        exact go _ _ (st_leaf hT n1 hf h0)
theorem rk5 : rk 1111 = 5 := by decide
theorem rk6 : rk 1112 = 6 := by decide
theorem rk7 : rk 1113 = 7 := by decide
theorem l_form (hT : TS B n 0 N K A P Q) (n1 : n ≤ 800) (hv : vOk U) (hc : PC N K A P Mc c U p) (hr : PR B K A P Q n Mr U p) (hf : hFe f e) (hk : K p = 1111 + e) : LK (zm_X7_readFormula zLa [zA 7 1, zA 2 (c + f)] Mc) (zm_X12_sumLine zLa [zA 12 84] Mr) c Mc Mr (SK B K A P Q n N c p U) := by
  have hN := hv.1
  have hp := hc.p0
  have hcc : c = 8 ∨ c = 42 := hc.1
  have hen : 0 ≤ e ∧ e ≤ 2 := by unfold hFe at hf; omega
  obtain ⟨l1, l2, l3⟩ := f_lay hf hc
  have hw9 : Mr 84 9 = 5 + e := by
    have := ((eR_key hr.e (κ := 1111 + e) (by omega) (by omega)).1 hk).2
    rw [this]
    rcases (by omega : e = 0 ∨ e = 1 ∨ e = 2) with r | r | r <;> subst r <;> rfl
  have hfd := hr.2.2.1
  have hfe : fRe Mr (U f 0) (U (f + 1)) e := by
    rcases hf with ⟨r1, r2⟩ | ⟨r1, r2⟩ | ⟨r1, r2⟩ <;> subst r1 <;> subst r2
    · exact hfd.2.2.2.2.1
    · exact hfd.2.2.2.2.2.1
    · exact hfd.2.2.2.2.2.2
  have hidx : z_sub (z_add 3 (5 + e)) 5 = 3 + e := by rw [z_add_id (by omega) (by omega), z_sub_id (by omega) (by omega)]; omega
  have h36 : 0 ≤ 3 + e ∧ 3 + e < 6 := by omega
  rw [zr_X7_readFormula, zb_X7_readFormula_0, l3, zr_X12_sumLine, zb_X12_sumLine_0, hw9, hidx, lr_40 hr.1, la_106, if_pos h36]
  by_cases q : U f 0 ≤ 0
  case neg =>
    have q' : ¬ Mr 106 (3 + e) ≤ 0 := by obtain ⟨_, _, r | r⟩ := hfe <;> omega
    obtain ⟨f1, f2, f3⟩ := fail2 hc hr 3
    rw [if_neg q, if_neg q', c_wrong hc, z_bI_mk, if_pos (Or.inl rfl), r_wrong hr, z_bI_mk, if_pos (Or.inl rfl)]
    exact Or.inr ⟨_, _, rfl, rfl, f1, f2, f3⟩
  have q' : Mr 106 (3 + e) ≤ 0 := by obtain ⟨_, _, r | r⟩ := hfe <;> omega
  have qN : U f 0 = 0 := by have := hfe.1; omega
  obtain ⟨c1, e1, h1, f1⟩ := hc.step hT n1 (by omega)
  obtain ⟨r1, e1', h1', f1'⟩ := r_take hT hN hr hp.1 hp.2 (by omega)
  have c2 := (((h1.w1 (k := 6) (v := 0) (by omega) (by omega)).w1 (k := 7) (v := 0) (by omega) (by omega)).w1 (k := 8) (v := 1) (by omega) (by omega)).w1 (k := 9) (v := 1) (by omega) (by omega)
  have w1 := ((((h1'.pw.wr (a := 84) (k := 52) (v := 0) (by omega)).wr (a := 84) (k := 53) (v := 0) (by omega)).wr (a := 84) (k := 54) (v := 0) (by omega)).wr (a := 84) (k := 56) (v := 1) (by omega)).wr (a := 84) (k := 57) (v := 1) (by omega)
  have h20 : r1 84 20 = U 0 8 := h1'.2.2.1.1
  have h55 : r1 84 55 = U 0 8 := h1'.2.2.1.2.1
  have hk8 : 0 ≤ U 0 8 ∧ U 0 8 ≤ 64 := ⟨h1'.2.2.1.2.2.1, h1'.2.2.1.2.2.2.1⟩
  have w2 := w1.wr (a := 105) (k := 3 + e) (v := U 0 8) (by omega)
  rw [if_pos q, lo_1_0 hc.o, e1, z_bV_mk, z_lt_eq, z_lt_eq, z_lt_eq, z_lt_eq, if_pos q', e1', z_bV_mk, z_lt_eq, z_lt_eq, z_lt_eq, z_lt_eq, z_lt_eq, lr_39 w1.1, la_105, if_pos h36, z_wr_ne (a := 84) (i := 57) (b := 84) (j := 20) (by omega), z_wr_ne (a := 84) (i := 56) (b := 84) (j := 20) (by omega), z_wr_ne (a := 84) (i := 54) (b := 84) (j := 20) (by omega), z_wr_ne (a := 84) (i := 53) (b := 84) (j := 20) (by omega), z_wr_ne (a := 84) (i := 52) (b := 84) (j := 20) (by omega), h20, z_lt_eq]
  have frS : ∀ a k, ¬ (a = 84 ∧ (52 ≤ k ∧ k ≤ 57)) → ¬ (a = 105 ∧ k = 3 + e) → z_wr (z_wr (z_wr (z_wr (z_wr (z_wr r1 84 52 0) 84 53 0) 84 54 0) 84 56 1) 84 57 1) 105 (3 + e) (U 0 8) a k = r1 a k := fun a k q1 q2 => by rw [z_wr_ne (by omega), z_wr_ne (by omega), z_wr_ne (by omega), z_wr_ne (by omega), z_wr_ne (by omega), z_wr_ne (by omega)]
  have s52 : z_wr (z_wr (z_wr (z_wr (z_wr (z_wr r1 84 52 0) 84 53 0) 84 54 0) 84 56 1) 84 57 1) 105 (3 + e) (U 0 8) 84 52 = 0 := by rw [z_wr_ne (by omega), z_wr_ne (by omega), z_wr_ne (by omega), z_wr_ne (by omega), z_wr_ne (by omega), z_wr_eq]
  have s53 : z_wr (z_wr (z_wr (z_wr (z_wr (z_wr r1 84 52 0) 84 53 0) 84 54 0) 84 56 1) 84 57 1) 105 (3 + e) (U 0 8) 84 53 = 0 := by rw [z_wr_ne (by omega), z_wr_ne (by omega), z_wr_ne (by omega), z_wr_ne (by omega), z_wr_eq]
  have s54 : z_wr (z_wr (z_wr (z_wr (z_wr (z_wr r1 84 52 0) 84 53 0) 84 54 0) 84 56 1) 84 57 1) 105 (3 + e) (U 0 8) 84 54 = 0 := by rw [z_wr_ne (by omega), z_wr_ne (by omega), z_wr_ne (by omega), z_wr_eq]
  have s56 : z_wr (z_wr (z_wr (z_wr (z_wr (z_wr r1 84 52 0) 84 53 0) 84 54 0) 84 56 1) 84 57 1) 105 (3 + e) (U 0 8) 84 56 = 1 := by rw [z_wr_ne (by omega), z_wr_ne (by omega), z_wr_eq]
  have s57 : z_wr (z_wr (z_wr (z_wr (z_wr (z_wr r1 84 52 0) 84 53 0) 84 54 0) 84 56 1) 84 57 1) 105 (3 + e) (U 0 8) 84 57 = 1 := by rw [z_wr_ne (by omega), z_wr_eq]
  have s105 : z_wr (z_wr (z_wr (z_wr (z_wr (z_wr r1 84 52 0) 84 53 0) 84 54 0) 84 56 1) 84 57 1) 105 (3 + e) (U 0 8) 105 (3 + e) = U 0 8 := z_wr_eq _ _ _ _
  have s55 : z_wr (z_wr (z_wr (z_wr (z_wr (z_wr r1 84 52 0) 84 53 0) 84 54 0) 84 56 1) 84 57 1) 105 (3 + e) (U 0 8) 84 55 = U 0 8 := by rw [z_wr_ne (by omega), z_wr_ne (by omega), z_wr_ne (by omega), z_wr_ne (by omega), z_wr_ne (by omega), z_wr_ne (by omega)]; exact h55
  have gS : gR r1 (z_wr (z_wr (z_wr (z_wr (z_wr (z_wr r1 84 52 0) 84 53 0) 84 54 0) 84 56 1) 84 57 1) 105 (3 + e) (U 0 8)) := fun a k q => frS a k (fun r => q (by unfold wRd; omega)) (fun r => q (by unfold wRd; omega))
  generalize z_wr (z_wr (z_wr (z_wr (z_wr (z_wr r1 84 52 0) 84 53 0) 84 54 0) 84 56 1) 84 57 1) 105 (3 + e) (U 0 8) = R0 at w2 frS s52 s53 s54 s55 s56 s57 s105 gS ⊢
  have t6 : z_wr (z_wr (z_wr (z_wr c1 1 6 0) 1 7 0) 1 8 1) 1 9 1 1 6 = 0 := by rw [z_wr_ne (by omega), z_wr_ne (by omega), z_wr_ne (by omega), z_wr_eq]
  have t7 : z_wr (z_wr (z_wr (z_wr c1 1 6 0) 1 7 0) 1 8 1) 1 9 1 1 7 = 0 := by rw [z_wr_ne (by omega), z_wr_ne (by omega), z_wr_eq]
  have t8 : z_wr (z_wr (z_wr (z_wr c1 1 6 0) 1 7 0) 1 8 1) 1 9 1 1 8 = 1 := by rw [z_wr_ne (by omega), z_wr_eq]
  have t9 : z_wr (z_wr (z_wr (z_wr c1 1 6 0) 1 7 0) 1 8 1) 1 9 1 1 9 = 1 := z_wr_eq _ _ _ _
  have gC0 : gC c c1 (z_wr (z_wr (z_wr (z_wr c1 1 6 0) 1 7 0) 1 8 1) 1 9 1) := (((gC.wr (by omega)).tr (gC.wr (by omega))).tr (gC.wr (by omega))).tr (gC.wr (by omega))
  generalize z_wr (z_wr (z_wr (z_wr c1 1 6 0) 1 7 0) 1 8 1) 1 9 1 = C0 at c2 t6 t7 t8 t9 gC0 ⊢
  have hFI : FI B K A P Q n N c f (U 0 8) U C0 R0 (p + 1) C0 R0 [] [] 0 1 1 := ⟨U, U 0 8, c2, w2, fun _ _ _ _ _ => rfl, qN, rfl, ⟨⟨t6, t7, t8, t9⟩, trivial⟩, ⟨⟨s52, s54, s56, s57, s53, by rw [frS _ _ (by omega) (by omega), h20]; omega, s55⟩, trivial, trivial⟩, ⟨⟨by show U 0 8 + 0 + (0 - 0) = U 0 8; omega, hk8.2, hk8.1, by decide, by show (0:Int) ≤ 8; decide, by show (0:Int) = 0 + (1 - 1); decide, Or.inr rfl⟩, fun r => by omega, fun y hy => by cases hy⟩, rfl, gC.rf c C0, gW.rf _ R0⟩
  have hL := l_loop hT n1 hf (p1 := p + 1) (by omega) (N - (p + 1)).toNat (p + 1) C0 R0 [] [] 0 1 1 (by omega) (by omega) hFI
  rw [(by omega : p + 1 - (p + 1) = 0)] at hL
  refine LK.pre (f1.gc.tr gC0) (f1'.gr.tr gS) ?_
  rcases hL with ⟨mc, mr, ex, ey, g1, g2, p', Mr1, s, i, nm, hpp, hF, hmr⟩ | hL
  case inr => exact Or.inr hL
  refine Or.inl ⟨mc, mr, ex, ey, g1, g2, ?_⟩
  obtain ⟨U', kn, hcE, hPE, hU, k1, k2, haE, hbE, hpE, hwE, gcE, gwE⟩ := hF
  obtain ⟨⟨b1, b2, b3, b4, b5, b6, b7⟩, bw, bs⟩ := hbE
  obtain ⟨⟨p1, p2, p3, p4, p5, p6, -⟩, p8, p9⟩ := hpE
  have p1' : U 0 8 + i = kn := by have : U 0 8 + i + (0 - 0) = kn := p1; omega
  obtain ⟨t, et⟩ := p8 rfl
  have ht : t = [] := by
    subst et
    have hl := len_c (i - 1) t
    have hp6 : (((i - 1) :: t).length : Int) = 0 + (1 - 0) := p6
    cases t with
    | nil => rfl
    | cons a b => exfalso; have := len_c a b; omega
  subst ht
  subst et
  have i1 : 1 ≤ i := by
    rcases (by omega : i = 0 ∨ 1 ≤ i) with r | r
    · exfalso
      subst r
      have hh : ([] : List Int) = [0 - 1] := hwE
      cases hh
    · exact r
  have hfn : 25 ≤ f ∧ f + 1 ≤ 30 := by unfold hFe at hf; omega
  have hUr : ∀ o k, 1 ≤ o → o ≤ 22 → U' o k = U o k := fun o k a b => hU o k (by omega) (by omega) (by omega)
  have hU0 : ∀ k, k ≠ 8 → U' 0 k = U 0 k := fun k a => hU 0 k (by omega) (by omega) (by omega)
  have hPm := hPE.wr (a := 106) (k := 3 + e) (v := U 0 8 + i) (by omega)
  subst hmr
  have fr : ∀ a k, ¬ wW (U 0 8) a k → ¬ (a = 84 ∧ (52 ≤ k ∧ k ≤ 57)) → ¬ (a = 105 ∧ k = 3 + e) → ¬ (a = 106 ∧ k = 3 + e) → z_wr Mr1 106 (3 + e) (U 0 8 + i) a k = r1 a k := fun a k q1 q2 q3 q4 => by rw [z_wr_ne (by omega), gwE a k q1, frS a k q2 q3]
  have m84 : ∀ k, z_wr Mr1 106 (3 + e) (U 0 8 + i) 84 k = Mr1 84 k := fun k => z_wr_ne (by omega)
  have m105 : z_wr Mr1 106 (3 + e) (U 0 8 + i) 105 (3 + e) = U 0 8 := by rw [z_wr_ne (by omega), gwE _ _ (by unfold wW; omega)]; exact s105
  have m106 : z_wr Mr1 106 (3 + e) (U 0 8 + i) 106 (3 + e) = U 0 8 + i := z_wr_eq _ _ _ _
  have mk : ∀ a k, 107 ≤ a → a ≤ 109 → z_wr Mr1 106 (3 + e) (U 0 8 + i) a k = Mr1 a k := fun a k x y => z_wr_ne (by omega)
  have oth : ∀ f' e' : Int, hFe f' e' → e' ≠ e → fRe r1 (U f' 0) (U (f' + 1)) e' → fRe (z_wr Mr1 106 (3 + e) (U 0 8 + i)) (U' f' 0) (U' (f' + 1)) e' := fun f' e' hf' hne ho => by
    have hne' : f' ≠ f ∧ f' ≠ f + 1 ∧ f' + 1 ≠ f ∧ f' + 1 ≠ f + 1 ∧ 0 ≤ e' ∧ e' ≤ 2 ∧ f' ≠ 0 ∧ f' + 1 ≠ 0 := by unfold hFe at hf hf'; omega
    obtain ⟨o1, o2, o3⟩ := ho
    have u1 : U' f' 0 = U f' 0 := hU f' 0 (by omega) (by omega) (by omega)
    have u2 : U' (f' + 1) = U (f' + 1) := funext (fun k => hU (f' + 1) k (by omega) (by omega) (by omega))
    rw [u1, u2]
    refine ⟨o1, o2, ?_⟩
    rw [fr 105 (3 + e') (by unfold wW; omega) (by omega) (by omega) (by omega), fr 106 (3 + e') (by unfold wW; omega) (by omega) (by omega) (by omega), m84, b6]
    rcases o3 with o3 | ⟨d1, d2, d3, d4, d5⟩
    · exact Or.inl o3
    · rw [h20] at d4
      refine Or.inr ⟨d1, d2, d3, by omega, wfF_cg _ _ _ (fun j x y => ⟨⟨?_, ?_, ?_⟩, rfl⟩) d5⟩
      · exact fr 107 (64 + (r1 105 (3 + e') + j)) (by unfold wW; omega) (by omega) (by omega) (by omega)
      · exact fr 108 (64 + (r1 105 (3 + e') + j)) (by unfold wW; omega) (by omega) (by omega) (by omega)
      · exact fr 109 (64 + (r1 105 (3 + e') + j)) (by unfold wW; omega) (by omega) (by omega) (by omega)
  have own : fRe (z_wr Mr1 106 (3 + e) (U 0 8 + i)) (U' f 0) (U' (f + 1)) e := by
    refine ⟨by omega, by omega, Or.inr ⟨by omega, by rw [m105]; omega, by rw [m105, m106, k1], by rw [m106, m84, b6]; omega, ?_⟩⟩
    rw [m105, k1]
    have hwE' : wfS (fun j => Mr1 107 (64 + j)) (fun j => Mr1 108 (64 + j)) (fun j => Mr1 109 (64 + j)) (U' (f + 1)) (U 0 8) i.toNat 0 [] [0 + (i.toNat : Int) - 1] := by rw [(by omega : (0 : Int) + (i.toNat : Int) - 1 = i - 1)]; exact hwE
    exact wfF_cg _ _ _ (fun j x y => ⟨⟨mk _ _ (by decide) (by decide), mk _ _ (by decide) (by decide), mk _ _ (by decide) (by decide)⟩, rfl⟩) (wfS_F _ _ _ hwE')
  have hall : fRe (z_wr Mr1 106 (3 + e) (U 0 8 + i)) (U' 25 0) (U' 26) 0 ∧ fRe (z_wr Mr1 106 (3 + e) (U 0 8 + i)) (U' 27 0) (U' 28) 1 ∧ fRe (z_wr Mr1 106 (3 + e) (U 0 8 + i)) (U' 29 0) (U' 30) 2 := by
    have o0 := fun r => oth 25 0 (Or.inl ⟨rfl, rfl⟩) r h1'.2.2.1.2.2.2.2.1
    have o1 := fun r => oth 27 1 (Or.inr (Or.inl ⟨rfl, rfl⟩)) r h1'.2.2.1.2.2.2.2.2.1
    have o2 := fun r => oth 29 2 (Or.inr (Or.inr ⟨rfl, rfl⟩)) r h1'.2.2.1.2.2.2.2.2.2
    rcases hf with ⟨r1, r2⟩ | ⟨r1, r2⟩ | ⟨r1, r2⟩ <;> subst r1 <;> subst r2
    · exact ⟨own, o1 (by decide), o2 (by decide)⟩
    · exact ⟨o0 (by decide), own, o2 (by decide)⟩
    · exact ⟨o0 (by decide), o1 (by decide), own⟩
  refine ⟨U', p', hcE, ⟨hPm.1, ?_, ⟨by rw [m84, b6, k2]; exact p1', by rw [m84, b7, k2], by omega, by omega, hall.1, hall.2.1, hall.2.2⟩, hPm.2.1, hPm.2.2⟩, hv.cg hUr (hU0 9 (by decide)), hU0, hUr 13 1 (by decide) (by decide), by omega, fun h => by rw [hUr 13 0 (by decide) (by decide)]; exact h⟩
  exact mRd.u hUr (mRd.ag hN (fun a k qq => fr a k (by unfold wW; omega) (by omega) (by omega) (by omega)) h1'.2.1)
end
end
