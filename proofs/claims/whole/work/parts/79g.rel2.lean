section
/-! ===== reading an E: release and bind, alike ===== -/
section
variable {B K A P Q : Int → Int} {n N : Int} {Mc Mr Mc0 Mr0 U U' : zM} {c p f e F : Int}
/-- one sign of the class has what it works on -/
theorem c_rel1 (hf : hFe f e) {r1 : Int} (hc : PC N K A P Mc c U' p) {y i nm : Int} {r : List Int} (ha : FA Mc (y :: r) 0 nm) (hl : (r.length : Int) < 72) (hi : U' f 0 = i) (i0 : 0 ≤ i) (i1 : i < 64) (hq : ¬ rnk y < r1) (hy : oneO y = 0) : ∃ m, z_ev (zcd_X7_release zLa) 1 [zA 7 1, zA 2 (c + f), zI r1] [] Mc = z_ev (zcd_X7_release zLa) 1 [zA 7 1, zA 2 (c + f), zI r1] [] m ∧ PC N K A P m c (z_wr (z_wr U' (f + 1) i y) f 0 (i + 1)) p ∧ FA m r 0 nm ∧ gC c Mc m := by
  obtain ⟨⟨a1, a2, a3, a4⟩, a5, a6⟩ := ha
  have hcc : c = 8 ∨ c = 42 := hc.1
  have hfr : f = 25 ∨ f = 27 ∨ f = 29 := by unfold hFe at hf; omega
  rw [len_c] at a1
  have no : nOp (y :: r) = nOp r := by show oneO y + nOp r = nOp r; omega
  have h3 := hc.w1 (k := 6) (v := (r.length : Int)) (by omega) (by omega)
  have e6 : z_wr Mc 1 6 r.length 1 6 = r.length := z_wr_eq _ _ _ _
  have e41 : z_wr Mc 1 6 r.length 41 r.length = y := (z_wr_ne (by omega)).trans a5
  obtain ⟨ea, hpa⟩ := c_fadd hf h3 hi i0 i1 y
  refine ⟨_, ?_, hpa, ⟨⟨?_, ?_, ?_, ?_⟩, ?_⟩, ((gC.wr (by omega)).tr (gC.wr (by omega))).tr (gC.wr (by omega))⟩
  · rw [zb_X7_release_1, a1, if_neg (by omega), z_sub_id (by omega) (by omega), (by omega : (r.length : Int) + 1 - 1 = r.length), lo_1_5 hc.o, la_41, if_pos ⟨by omega, by omega⟩, a5, c_rank, z_bI_mk, if_neg hq, a1, z_sub_id (by omega) (by omega), (by omega : (r.length : Int) + 1 - 1 = r.length), z_lt_eq, e6, lo_1_5 h3.o, la_41, if_pos ⟨by omega, by omega⟩, e41, ea, z_bV_mk]
  · rw [z_wr_ne (by omega), z_wr_ne (by omega)]; exact e6
  · rw [z_wr_ne (by omega), z_wr_ne (by omega), z_wr_ne (by omega)]; exact a2.trans no
  · rw [z_wr_ne (by omega), z_wr_ne (by omega), z_wr_ne (by omega)]; exact a3
  · rw [z_wr_ne (by omega), z_wr_ne (by omega), z_wr_ne (by omega)]; exact a4
  · exact stk_cg r (fun j _ _ => by rw [z_wr_ne (by omega), z_wr_ne (by omega), z_wr_ne (by omega)]) a6
theorem rel (hf : hFe f e) {r1 : Int} (hr1 : 1 ≤ r1) {nm : Int} : ∀ (W s : List Int) (i : Int) (Mc Mr : zM) (w2 w3 w4 : zV), FI B K A P Q n N c f F U Mc0 Mr0 p Mc Mr W s i 0 nm → ∃ W' s' i' mc mr, z_ev (zcd_X7_release zLa) 1 [zA 7 1, zA 2 (c + f), zI r1] [] Mc = some (.inl ([], mc)) ∧ z_ev (zcd_X12_bind zLa) 1 [zA 12 84, zI r1, w2, w3, w4] [] Mr = some (.inl ([], mr)) ∧ FI B K A P Q n N c f F U Mc0 Mr0 p mc mr W' s' i' 0 nm ∧ nOp W' = nOp W ∧ (W' = [] ∨ ∃ y r, W' = y :: r ∧ rnk y < r1) := by
  intro W
  induction W with
  | nil =>
    intro s i Mc Mr w2 w3 w4 h
    obtain ⟨U', kn, hc, hP, hU, h1, h2, ha, hb, hp, hw, g1, g2⟩ := h
    refine ⟨[], s, i, Mc, Mr, ?_, ?_, ⟨U', kn, hc, hP, hU, h1, h2, ha, hb, hp, hw, g1, g2⟩, rfl, Or.inl rfl⟩
    · have a1 : Mc 1 6 = 0 := ha.1.1
      rw [zb_X7_release_1, a1, if_pos (by omega)]
    · have b1 : Mr 84 52 = 0 := hb.1.1
      rw [zb_X12_bind_1, b1, if_pos (by omega)]
  | cons y r ih =>
    intro s i Mc Mr w2 w3 w4 h
    obtain ⟨U', kn, hc, hP, hU, h1, h2, ha, hb, hp, hw, g1, g2⟩ := h
    have hlr := len_c y r
    have a1 := ha.1.1
    have b1 := hb.1.1
    obtain ⟨⟨p1, p2, p3, p4, p5, p6, -⟩, p8, p9⟩ := hp
    have hsg : isSg y := p9 y List.mem_cons_self
    have rg1 := nOp_rng r
    have rg2 := nBi_rng r
    have rg4 := nBi_rng (y :: r)
    have hlen : (r.length : Int) < 72 := by omega
    by_cases hq : rnk y < r1
    · refine ⟨y :: r, s, i, Mc, Mr, ?_, ?_, ⟨U', kn, hc, hP, hU, h1, h2, ha, hb, ⟨⟨p1, p2, p3, p4, p5, p6, Or.inl rfl⟩, p8, p9⟩, hw, g1, g2⟩, rfl, Or.inr ⟨y, r, rfl, hq⟩⟩
      · rw [zb_X7_release_1, a1, if_neg (by omega), z_sub_id (by omega) (by omega), hlr, (by omega : (r.length : Int) + 1 - 1 = r.length), lo_1_5 hc.o, la_41, if_pos ⟨by omega, by omega⟩, ha.2.1, c_rank, z_bI_mk, if_pos hq]
      · rw [zb_X12_bind_1, b1, if_neg (by omega), z_sub_id (by omega) (by omega), hlr, (by omega : (r.length : Int) + 1 - 1 = r.length), lr_50 hP.1, la_110, if_pos ⟨by omega, by omega⟩, hb.2.1.1, r_weight, z_bI_mk, wgt_kK hsg, if_pos hq]
    · have ny : y ≠ 1011 := fun q => hq (by rw [q]; show (0 : Int) < r1; omega)
      have ho : oneO y = 0 := by unfold oneO; rw [if_neg ny]
      have no : nOp (y :: r) = nOp r := by show oneO y + nOp r = nOp r; omega
      have i1 : i < 64 := by omega
      obtain ⟨m, ec, hcm, ham, gcm⟩ := c_rel1 hf hc ha hlen h1 p4 i1 hq ho
      obtain ⟨m', t, v2, v3, v4, er, hPm, hbm, hlt, hnd, gwm, hfr⟩ := r_bind1 hP hb ⟨⟨p1, p2, p3, p4, p5, p6, Or.inl rfl⟩, p8, p9⟩ hq hr1 w2 w3 w4
      have hfn : f ≠ 0 ∧ f + 1 ≠ 0 ∧ f ≠ f + 1 := by unfold hFe at hf; omega
      have ecd : z_wr (z_wr U' (f + 1) i y) f 0 (i + 1) (f + 1) i = y := by rw [z_wr_ne (by omega), z_wr_eq]
      have hw' : wfS (fun j => m' 107 (64 + j)) (fun j => m' 108 (64 + j)) (fun j => m' 109 (64 + j)) (z_wr (z_wr U' (f + 1) i y) f 0 (i + 1) (f + 1)) F (i + 1).toNat 0 [] (i :: t) := by
        rw [(by omega : (i + 1).toNat = i.toNat + 1)]
        refine wfS_snoc _ _ _ s _ (wfS_cg _ _ _ _ (fun j j0 j1 => ⟨⟨?_, ?_, ?_⟩, ?_⟩) hw) ?_
        · exact hfr _ _ (by omega) (by omega) (by omega)
        · exact hfr _ _ (by omega) (by omega) (by omega)
        · exact hfr _ _ (by omega) (by omega) (by omega)
        · rw [z_wr_ne (by omega), z_wr_ne (by omega)]
        · rw [(by omega : (0 : Int) + (i.toNat : Int) = i)]
          exact hnd _ ecd
      obtain ⟨W', s', i', mc, mr, e1, e2, hFI, hn, hcs⟩ := ih (i :: t) (i + 1) m m' v2 v3 v4 ⟨_, kn, hcm, hPm, fun o k q1 q2 q3 => by rw [z_wr_ne (by omega), z_wr_ne (by omega)]; exact hU o k q1 q2 q3, z_wr_eq _ _ _ _, by rw [z_wr_ne (by omega), z_wr_ne (by omega)]; exact h2, ham, hbm, ⟨⟨by omega, p2, p3, by omega, by omega, by omega, Or.inl rfl⟩, fun _ => ⟨t, by rw [(by omega : i + 1 - 1 = i)]⟩, fun z hz => p9 z (List.mem_cons_of_mem _ hz)⟩, hw', g1.tr gcm, g2.tr gwm⟩
      exact ⟨W', s', i', mc, mr, ec.trans e1, er.trans e2, hFI, hn.trans no.symm, hcs⟩
/-- what is held is given up, whatever it is: the FAULT stays -/
theorem rel_any (hf : hFe f e) (hcc : zCc c) {r1 : Int} : ∀ (d : Nat) (Mc : zM), Mc 1 6 = d → d ≤ 72 → 0 ≤ Mc (c + f) 0 → Mc (c + f) 0 ≤ 64 → Mc 1 1 = c → LyO Mc → LyC Mc c → ∃ m, z_ev (zcd_X7_release zLa) 1 [zA 7 1, zA 2 (c + f), zI r1] [] Mc = some (.inl ([], m)) ∧ gC c Mc m ∧ m 1 1 = c ∧ LyO m ∧ LyC m c ∧ m 1 2 = Mc 1 2 ∧ m 1 3 = Mc 1 3 := by
  have h8 : c = 8 ∨ c = 42 := hcc
  have hfr : f = 25 ∨ f = 27 ∨ f = 29 := by unfold hFe at hf; omega
  intro d
  induction d with
  | zero =>
    intro Mc h6 _ _ _ h11 hO hL
    refine ⟨Mc, ?_, gC.rf c Mc, h11, hO, hL, rfl, rfl⟩
    rw [zb_X7_release_1, h6, if_pos (by omega)]
  | succ d ih =>
    intro Mc h6 hd n0 n1 h11 hO hL
    have h6' : Mc 1 6 = (d : Int) + 1 := by rw [h6]; rfl
    have l1 : Mc (c + f) 1 = c + f + 1 := by
      rcases hf with ⟨r, -⟩ | ⟨r, -⟩ | ⟨r, -⟩
      · subst r; rw [lc_25_1 hL]; omega
      · subst r; rw [lc_27_1 hL]; omega
      · subst r; rw [lc_29_1 hL]; omega
    have l2 : zLa (c + f + 1) = 64 := by
      rcases hf with ⟨r, -⟩ | ⟨r, -⟩ | ⟨r, -⟩
      · subst r; rw [(by omega : c + 25 + 1 = c + 26)]; exact la_c26 hcc
      · subst r; rw [(by omega : c + 27 + 1 = c + 28)]; exact la_c28 hcc
      · subst r; rw [(by omega : c + 29 + 1 = c + 30)]; exact la_c30 hcc
    by_cases hq : rnk (Mc 41 d) < r1
    · refine ⟨Mc, ?_, gC.rf c Mc, h11, hO, hL, rfl, rfl⟩
      rw [zb_X7_release_1, h6', if_neg (by omega), z_sub_id (by omega) (by omega), (by omega : (d : Int) + 1 - 1 = d), lo_1_5 hO, la_41, if_pos ⟨by omega, by omega⟩, c_rank, z_bI_mk, if_pos hq]
    · have e6 : z_wr Mc 1 6 d 1 6 = d := z_wr_eq _ _ _ _
      have e5 : z_wr Mc 1 6 d 1 5 = 41 := (z_wr_ne (by omega)).trans (lo_1_5 hO)
      have ef : ∀ k, z_wr Mc 1 6 d (c + f) k = Mc (c + f) k := fun k => z_wr_ne (by omega)
      have hadd : ∃ m1, zm_X2_add zLa [zA 2 (c + f), zI (z_wr Mc 1 6 d 41 d)] (z_wr Mc 1 6 d) = some ([], m1) ∧ 0 ≤ m1 (c + f) 0 ∧ m1 (c + f) 0 ≤ 64 ∧ ∀ a k, ¬ (a = c + f ∧ k = 0) → a ≠ c + f + 1 → m1 a k = z_wr Mc 1 6 d a k := by
        by_cases q : Mc (c + f) 0 < 64
        · refine ⟨z_wr (z_wr (z_wr Mc 1 6 d) (c + f + 1) (Mc (c + f) 0) (z_wr Mc 1 6 d 41 d)) (c + f) 0 (Mc (c + f) 0 + 1), ?_, ?_, ?_, fun a k q1 q2 => ?_⟩
          · rw [zr_X2_add]
            refine z_out_some ?_
            rw [zb_X2_add_0, ef, if_pos q, ef, l1, l2, if_pos ⟨n0, q⟩, z_lt_eq, z_wr_ne (a := c + f + 1) (b := c + f) (by omega), ef, z_add_id (by omega) (by omega), z_lt_eq]
          · rw [z_wr_eq]; omega
          · rw [z_wr_eq]; omega
          · rw [z_wr_ne (by omega), z_wr_ne (by omega)]
        · refine ⟨z_wr Mc 1 6 d, ?_, by rw [ef]; exact n0, by rw [ef]; exact n1, fun a k _ _ => rfl⟩
          rw [zr_X2_add]
          refine z_out_some ?_
          rw [zb_X2_add_0, ef, if_neg q]
      obtain ⟨m1, ea, k0, k1, hfa⟩ := hadd
      have hfb : ∀ a k, ¬ (a = 1 ∧ k = 6) → ¬ (a = c + f ∧ k = 0) → a ≠ c + f + 1 → m1 a k = Mc a k := fun a k q0 q1 q2 => (hfa a k q1 q2).trans (z_wr_ne (by omega))
      obtain ⟨m, em, gm, j1, j2, j3, j4, j5⟩ := ih m1 ((hfa 1 6 (by omega) (by omega)).trans e6) (by omega) k0 k1 ((hfb 1 1 (by omega) (by omega) (by omega)).trans h11) (hO.ag (fun a k q => hfb a k (by unfold pO at q; omega) (by unfold pO at q; omega) (by unfold pO at q; omega))) (hL.ag (fun a k q => hfb a k (by unfold pC at q; omega) (by unfold pC at q; omega) (by unfold pC at q; omega)))
      have gm1 : gC c Mc m1 := fun a k q1 q2 q3 q4 => hfb a k (by omega) (by omega) (by omega)
      refine ⟨m, ?_, gm1.tr gm, j1, j2, j3, j4.trans (hfb 1 2 (by omega) (by omega) (by omega)), j5.trans (hfb 1 3 (by omega) (by omega) (by omega))⟩
      rw [zb_X7_release_1, h6', if_neg (by omega), z_sub_id (by omega) (by omega), (by omega : (d : Int) + 1 - 1 = d), lo_1_5 hO, la_41, if_pos ⟨by omega, by omega⟩, c_rank, z_bI_mk, if_neg hq, h6', z_sub_id (by omega) (by omega), (by omega : (d : Int) + 1 - 1 = d), z_lt_eq, e6, e5, la_41, if_pos ⟨by omega, by omega⟩, ea, z_bV_mk]
      exact em
end
end
