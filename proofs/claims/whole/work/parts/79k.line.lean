section
/-! ===== a LINE and its ';' ===== -/
def LL (B K A P Q : Int → Int) (n N c p : Int) (U Mc Mr : zM) (x y : Option (List zV × zM)) : Prop := (∃ m1 mc mr, x = some ([zI 1], m1) ∧ zm_X7_take zLa [zA 7 1, zI 1010] m1 = some ([zI 1], mc) ∧ y = some ([zI 1], mr) ∧ gC c Mc mc ∧ gR Mr mr ∧ SK B K A P Q n N c p U mc mr) ∨ ∃ mc mr, (x = some ([zI 0], mc) ∨ ∃ m1, x = some ([zI 1], m1) ∧ zm_X7_take zLa [zA 7 1, zI 1010] m1 = some ([zI 0], mc)) ∧ y = some ([zI 0], mr) ∧ hC c Mc mc ∧ hR Mr mr ∧ FC mc mr c
theorem rk_bg : ∀ i : Fin 13, 14 ≤ rk (1114 + ((i.val : Nat) : Int)) := by decide +kernel
theorem rk_big {K : Int} (h0 : 1114 ≤ K) (h1 : K ≤ 1126) : 14 ≤ rk K := by
  have := rk_bg ⟨(K - 1114).toNat, by omega⟩
  dsimp only at this
  rw [(by omega : (1114 : Int) + ((K - 1114).toNat : Int) = K)] at this
  exact this
section
variable {B K A P Q : Int → Int} {n N : Int} {Mc Mr U : zM} {c p : Int}
theorem l_fin (hT : TS B n 0 N K A P Q) (n1 : n ≤ 800) {x y : Option (List zV × zM)} (h : LK x y c Mc Mr (SK B K A P Q n N c p U)) : LL B K A P Q n N c p U Mc Mr (z_out (z_bI x (fun r M => if r = 0 ∨ r = 1 then some (.inl ([zI r], M)) else none))) (z_out (z_bI y (fun r M => z_ev (zcd_X12_lineRead zLa) 1 [zA 12 84, zI r] [] M))) := by
  rcases h with ⟨mc, mr, ex, ey, g1, g2, U', p', hc, hr, hv, u1, u2, u3, u4⟩ | ⟨mc, mr, ex, ey, g1, g2, hF⟩
  · rw [ex, z_bI_mk, if_pos (Or.inr rfl), ey, z_bI_mk, zb_X12_lineRead_1, if_neg nz10, ← s59, hr.s1 (by decide) (by decide), z_bI_mk]
    have hp := hc.p0
    by_cases q : K p' = 1010
    · obtain ⟨m, em, hm, -, gm⟩ := c_take_ok hT n1 hc (y := 1010) (by decide) q
      obtain ⟨m', em', hm', fm'⟩ := r_take hT hv.1 hr hp.1 hp.2 (by omega)
      rw [b2i_pos q, if_neg nz10, em', z_bV_mk]
      exact Or.inl ⟨mc, m, m', rfl, em, rfl, g1.tr gm, g2.tr fm'.gr, U', p' + 1, hm, hm', hv, u1, u2, by omega, u4⟩
    · obtain ⟨f1, f2, f3⟩ := fail2 hc hr 1
      rw [b2i_neg q, if_pos rfl, r_wrong hr, z_bI_mk, if_pos (Or.inl rfl)]
      exact Or.inr ⟨_, _, Or.inr ⟨mc, rfl, c_take_no hc q⟩, rfl, g1.th f1, g2.th f2, f3⟩
  · rw [ex, z_bI_mk, if_pos (Or.inl rfl), ey, z_bI_mk, zb_X12_lineRead_1, if_pos rfl]
    exact Or.inr ⟨mc, mr, Or.inl rfl, rfl, g1, g2, hF⟩
theorem l_line (hT : TS B n 0 N K A P Q) (n1 : n ≤ 800) (hv : vOk U) (h40 : U 13 0 ≤ 40) (hc : PC N K A P Mc c U p) (hr : PR B K A P Q n Mr U p) : LL B K A P Q n N c p U Mc Mr (zm_X7_readLine zLa [zA 7 1] Mc) (zm_X12_lineRead zLa [zA 12 84] Mr) := by
  have bad : ∀ x : Option zRs, x = z_bI (zm_X7_wrong zLa [zA 7 1, zI 1] Mc) (fun r M => if r = 0 ∨ r = 1 then some (.inl ([zI r], M)) else none) → z_ev (zcd_X12_lineRead zLa) 0 [zA 12 84, zU] [] Mr = z_bI (zm_X12_wrong zLa [zA 12 84, zI 1] Mr) (fun r M => if r = 0 ∨ r = 1 then some (.inl ([zI r], M)) else none) → LL B K A P Q n N c p U Mc Mr (z_out x) (z_out (z_ev (zcd_X12_lineRead zLa) 0 [zA 12 84, zU] [] Mr)) := fun x e1 e2 => by
    obtain ⟨f1, f2, f3⟩ := fail2 hc hr 1
    rw [e1, e2, c_wrong hc, z_bI_mk, if_pos (Or.inl rfl), r_wrong hr, z_bI_mk, if_pos (Or.inl rfl)]
    exact Or.inr ⟨_, _, Or.inl rfl, rfl, f1, f2, f3⟩
  have badR : (¬ (Mr 84 8 = 1 ∧ Mr 84 9 ≤ 7)) → z_ev (zcd_X12_lineRead zLa) 0 [zA 12 84, zU] [] Mr = z_bI (zm_X12_wrong zLa [zA 12 84, zI 1] Mr) (fun r M => if r = 0 ∨ r = 1 then some (.inl ([zI r], M)) else none) := fun q => by
    rw [zb_X12_lineRead_0]
    by_cases q1 : Mr 84 8 = 1
    · rw [if_pos q1, if_neg (fun r => q ⟨q1, r⟩)]
    · rw [if_neg q1]
  rw [zr_X7_readLine, zr_X12_lineRead]
  by_cases q1100 : K p = 1100
  · have hk := (eR_key hr.e (κ := 1100) (by decide) (by decide)).1 q1100
    have hw : Mr 84 9 = 0 := hk.2.trans (by decide)
    rw [zb_X7_readLine_0, lo_1_0 hc.o, hc.k, q1100, if_pos rfl, zb_X12_lineRead_0, if_pos hk.1, hw, if_pos (by decide), if_pos rfl]
    exact l_fin hT n1 (l_thing hT n1 hv hc hr q1100)
  by_cases q1101 : K p = 1101
  · have hk := (eR_key hr.e (κ := 1101) (by decide) (by decide)).1 q1101
    refine bad _ ?_ (badR (fun r => absurd r.2 (by rw [hk.2]; decide)))
    rw [zb_X7_readLine_0, lo_1_0 hc.o, hc.k, q1101, if_neg (by decide), if_pos rfl]
  by_cases q1102 : K p = 1102
  · have hk := (eR_key hr.e (κ := 1102) (by decide) (by decide)).1 q1102
    refine bad _ ?_ (badR (fun r => absurd r.2 (by rw [hk.2]; decide)))
    rw [zb_X7_readLine_0, lo_1_0 hc.o, hc.k, q1102, if_neg (by decide), if_neg (by decide), if_pos rfl]
  by_cases q1103 : K p = 1103
  · have hk := (eR_key hr.e (κ := 1103) (by decide) (by decide)).1 q1103
    refine bad _ ?_ (badR (fun r => absurd r.2 (by rw [hk.2]; decide)))
    rw [zb_X7_readLine_0, lo_1_0 hc.o, hc.k, q1103, if_neg (by decide), if_neg (by decide), if_neg (by decide), if_pos rfl]
  by_cases q1104 : K p = 1104
  · have hk := (eR_key hr.e (κ := 1104) (by decide) (by decide)).1 q1104
    have hw : Mr 84 9 = 1 := hk.2.trans (by decide)
    rw [zb_X7_readLine_0, lo_1_0 hc.o, hc.k, q1104, if_neg (by decide), if_neg (by decide), if_neg (by decide), if_neg (by decide), if_pos rfl, zb_X12_lineRead_0, if_pos hk.1, hw, if_pos (by decide), if_neg (by decide), if_pos rfl]
    exact l_fin hT n1 (l_teller hT n1 hv hc hr q1104)
  by_cases q1105 : K p = 1105
  · have hk := (eR_key hr.e (κ := 1105) (by decide) (by decide)).1 q1105
    refine bad _ ?_ (badR (fun r => absurd r.2 (by rw [hk.2]; decide)))
    rw [zb_X7_readLine_0, lo_1_0 hc.o, hc.k, q1105, if_neg (by decide), if_neg (by decide), if_neg (by decide), if_neg (by decide), if_neg (by decide), if_pos rfl]
  by_cases q1106 : K p = 1106
  · have hk := (eR_key hr.e (κ := 1106) (by decide) (by decide)).1 q1106
    refine bad _ ?_ (badR (fun r => absurd r.2 (by rw [hk.2]; decide)))
    rw [zb_X7_readLine_0, lo_1_0 hc.o, hc.k, q1106, if_neg (by decide), if_neg (by decide), if_neg (by decide), if_neg (by decide), if_neg (by decide), if_neg (by decide), if_pos rfl]
  by_cases q1107 : K p = 1107
  · have hk := (eR_key hr.e (κ := 1107) (by decide) (by decide)).1 q1107
    refine bad _ ?_ (badR (fun r => absurd r.2 (by rw [hk.2]; decide)))
    rw [zb_X7_readLine_0, lo_1_0 hc.o, hc.k, q1107, if_neg (by decide), if_neg (by decide), if_neg (by decide), if_neg (by decide), if_neg (by decide), if_neg (by decide), if_neg (by decide), if_pos rfl]
  by_cases q1108 : K p = 1108
  · have hk := (eR_key hr.e (κ := 1108) (by decide) (by decide)).1 q1108
    have hw : Mr 84 9 = 2 := hk.2.trans (by decide)
    rw [zb_X7_readLine_0, lo_1_0 hc.o, hc.k, q1108, if_neg (by decide), if_neg (by decide), if_neg (by decide), if_neg (by decide), if_neg (by decide), if_neg (by decide), if_neg (by decide), if_neg (by decide), if_pos rfl, zb_X12_lineRead_0, if_pos hk.1, hw, if_pos (by decide), if_neg (by decide), if_neg (by decide), if_pos rfl]
    exact l_fin hT n1 (l_talk hT n1 hv hc hr h40 (Or.inl ⟨rfl, q1108⟩))
  by_cases q1109 : K p = 1109
  · have hk := (eR_key hr.e (κ := 1109) (by decide) (by decide)).1 q1109
    have hw : Mr 84 9 = 3 := hk.2.trans (by decide)
    rw [zb_X7_readLine_0, lo_1_0 hc.o, hc.k, q1109, if_neg (by decide), if_neg (by decide), if_neg (by decide), if_neg (by decide), if_neg (by decide), if_neg (by decide), if_neg (by decide), if_neg (by decide), if_neg (by decide), if_pos rfl, zb_X12_lineRead_0, if_pos hk.1, hw, if_pos (by decide), if_neg (by decide), if_neg (by decide), if_neg (by decide), if_pos rfl]
    exact l_fin hT n1 (l_talk hT n1 hv hc hr h40 (Or.inr ⟨rfl, q1109⟩))
  by_cases q1110 : K p = 1110
  · have hk := (eR_key hr.e (κ := 1110) (by decide) (by decide)).1 q1110
    have hw : Mr 84 9 = 4 := hk.2.trans (by decide)
    rw [zb_X7_readLine_0, lo_1_0 hc.o, hc.k, q1110, if_neg (by decide), if_neg (by decide), if_neg (by decide), if_neg (by decide), if_neg (by decide), if_neg (by decide), if_neg (by decide), if_neg (by decide), if_neg (by decide), if_neg (by decide), if_pos rfl, zb_X12_lineRead_0, if_pos hk.1, hw, if_pos (by decide), if_neg (by decide), if_neg (by decide), if_neg (by decide), if_neg (by decide), if_pos rfl]
    exact l_fin hT n1 (l_page hT n1 hv hc hr q1110)
  by_cases q1111 : K p = 1111
  · have hk := (eR_key hr.e (κ := 1111) (by decide) (by decide)).1 q1111
    have hw : Mr 84 9 = 5 := hk.2.trans (by decide)
    rw [zb_X7_readLine_0, lo_1_0 hc.o, hc.k, q1111, if_neg (by decide), if_neg (by decide), if_neg (by decide), if_neg (by decide), if_neg (by decide), if_neg (by decide), if_neg (by decide), if_neg (by decide), if_neg (by decide), if_neg (by decide), if_neg (by decide), if_pos rfl, hc.2.1, lc_0_4 hc.y, zb_X12_lineRead_0, if_pos hk.1, hw, if_pos (by decide), if_neg (by decide), if_neg (by decide), if_neg (by decide), if_neg (by decide), if_neg (by decide)]
    exact l_fin hT n1 (l_form (f := 25) (e := 0) hT n1 hv hc hr (Or.inl ⟨rfl, rfl⟩) (by rw [q1111]; rfl))
  by_cases q1112 : K p = 1112
  · have hk := (eR_key hr.e (κ := 1112) (by decide) (by decide)).1 q1112
    have hw : Mr 84 9 = 6 := hk.2.trans (by decide)
    rw [zb_X7_readLine_0, lo_1_0 hc.o, hc.k, q1112, if_neg (by decide), if_neg (by decide), if_neg (by decide), if_neg (by decide), if_neg (by decide), if_neg (by decide), if_neg (by decide), if_neg (by decide), if_neg (by decide), if_neg (by decide), if_neg (by decide), if_neg (by decide), if_pos rfl, hc.2.1, lc_0_5 hc.y, zb_X12_lineRead_0, if_pos hk.1, hw, if_pos (by decide), if_neg (by decide), if_neg (by decide), if_neg (by decide), if_neg (by decide), if_neg (by decide)]
    exact l_fin hT n1 (l_form (f := 27) (e := 1) hT n1 hv hc hr (Or.inr (Or.inl ⟨rfl, rfl⟩)) (by rw [q1112]; rfl))
  by_cases q1113 : K p = 1113
  · have hk := (eR_key hr.e (κ := 1113) (by decide) (by decide)).1 q1113
    have hw : Mr 84 9 = 7 := hk.2.trans (by decide)
    rw [zb_X7_readLine_0, lo_1_0 hc.o, hc.k, q1113, if_neg (by decide), if_neg (by decide), if_neg (by decide), if_neg (by decide), if_neg (by decide), if_neg (by decide), if_neg (by decide), if_neg (by decide), if_neg (by decide), if_neg (by decide), if_neg (by decide), if_neg (by decide), if_neg (by decide), if_pos rfl, hc.2.1, lc_0_6 hc.y, zb_X12_lineRead_0, if_pos hk.1, hw, if_pos (by decide), if_neg (by decide), if_neg (by decide), if_neg (by decide), if_neg (by decide), if_neg (by decide)]
    exact l_fin hT n1 (l_form (f := 29) (e := 2) hT n1 hv hc hr (Or.inr (Or.inr ⟨rfl, rfl⟩)) (by rw [q1113]; rfl))
  have he := hr.e
  refine bad _ ?_ (badR (fun r => ?_))
  · rw [zb_X7_readLine_0, lo_1_0 hc.o, hc.k, if_neg q1100, if_neg q1101, if_neg q1102, if_neg q1103, if_neg q1104, if_neg q1105, if_neg q1106, if_neg q1107, if_neg q1108, if_neg q1109, if_neg q1110, if_neg q1111, if_neg q1112, if_neg q1113]
  · unfold eR at he
    rcases he with h | h | h | h | h | h | h
    · omega
    · omega
    · omega
    · omega
    · omega
    · omega
    · have h14 : 1114 ≤ K p := by omega
      have := rk_big h14 h.2.1
      omega
end
end
