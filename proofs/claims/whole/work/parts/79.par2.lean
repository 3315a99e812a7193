/-! ===== lines of THINGS ===== -/
def aT (U U' : zM) (nm w s pa po : Int) : Prop := U' 1 0 = U 1 0 + 1 ∧ (∀ o k, (o < 1 ∨ 6 < o ∨ (o = 1 ∧ k ≠ 0) ∨ (2 ≤ o ∧ o ≤ 6 ∧ k ≠ U 1 0)) → U' o k = U o k) ∧ U' 2 (U 1 0) = nm ∧ U' 3 (U 1 0) = w ∧ U' 4 (U 1 0) = s ∧ U' 5 (U 1 0) = pa ∧ U' 6 (U 1 0) = po
theorem vOk_aT {U U' : zM} {nm w s pa po : Int} (h : aT U U' nm w s pa po) (hv : vOk U) (n8 : U 1 0 < 8) (w0 : 2 ≤ w) (w1 : w ≤ 9) (s0 : 0 ≤ s) (s1 : s < w) (a0 : -1 ≤ pa) (a1 : pa ≤ 199) (b0 : -1 ≤ po) (b1 : po ≤ 199) : vOk U' := by
  obtain ⟨h0, ho, h2, h3, h4, h5, h6⟩ := h
  obtain ⟨hN, hT, hS, hL, hm, hp⟩ := hv
  have e : ∀ o k, 6 < o → U' o k = U o k := fun o k q => ho o k (by omega)
  refine ⟨?_, ?_, ?_, ?_, ?_, ?_⟩
  · unfold vOkN
    rw [h0, e _ _ (by decide), e _ _ (by decide), e _ _ (by decide), e _ _ (by decide), ho 0 9 (by omega)]
    omega
  · intro k k0 k1
    rw [h0] at k1
    by_cases q : k = U 1 0
    · rw [q, h3, h4, h5, h6]; omega
    · rw [ho 3 k (by omega), ho 4 k (by omega), ho 5 k (by omega), ho 6 k (by omega)]
      exact hT k k0 (by omega)
  · intro k k0 k1
    rw [e _ _ (by decide)] at k1
    rw [e _ _ (by decide), e _ _ (by decide), e _ _ (by decide), e _ _ (by decide)]
    exact hS k k0 k1
  · intro k k0 k1
    rw [e _ _ (by decide)] at k1
    have := hL k k0 k1
    rw [e 14 k (by decide), e 15 k (by decide), e 16 k (by decide), e 17 k (by decide), e 18 k (by decide), e 7 0 (by decide), e 10 _ (by decide), e 11 _ (by decide), h0, ho 3 (U 17 k) (by omega)]
    omega
  · intro i j i0 ij j1
    rw [e _ _ (by decide)] at j1
    rw [e 15 i (by decide), e 15 j (by decide), e 16 i (by decide), e 16 j (by decide)]
    exact hm i j i0 ij j1
  · intro k k0 k1
    rw [e _ _ (by decide)] at k1
    have := hp k k0 k1
    rw [e 20 k (by decide), e 21 k (by decide), e 22 k (by decide), e 7 0 (by decide), h0, ho 3 (U 21 k) (by omega)]
    omega
section
variable {M V : zM} {c : Int}
theorem e_X9_add (hc : zCc c) (hL : LyC M c) (hV : cEq M c V) (n0 : 0 ≤ V 1 0) (n1 : V 1 0 < 8) (nm w s : Int) : ∃ M' U', zm_X9_add zLa [zA 9 (c + 1), zI nm, zI w, zI s] M = some ([], M') ∧ LyC M' c ∧ cEq M' c U' ∧ aT V U' nm w s (-1) (-1) ∧ ∀ a k, ¬ (c + 1 ≤ a ∧ a ≤ c + 6) → M' a k = M a k := by
  have lay : ∀ {m : zM} {o k y : Int}, (2 ≤ o ∧ o ≤ 6) ∨ (o = 1 ∧ k = 0) → LyC m c → LyC (z_wr m (c + o) k y) c := fun ho h => h.ag (wr_ag (by unfold pC; omega))
  have hL1 := lay (o := 2) (k := V 1 0) (y := nm) (by omega) hL
  have hV1 := cEq.wr 2 (V 1 0) nm hV
  have hL2 := lay (o := 3) (k := V 1 0) (y := w) (by omega) hL1
  have hV2 := cEq.wr 3 (V 1 0) w hV1
  have hL3 := lay (o := 4) (k := V 1 0) (y := s) (by omega) hL2
  have hV3 := cEq.wr 4 (V 1 0) s hV2
  have hL4 := lay (o := 5) (k := V 1 0) (y := -1) (by omega) hL3
  have hV4 := cEq.wr 5 (V 1 0) (-1) hV3
  have hL5 := lay (o := 6) (k := V 1 0) (y := -1) (by omega) hL4
  have hV5 := cEq.wr 6 (V 1 0) (-1) hV4
  have a0 : M (c + 1) 0 = V 1 0 := cv_1 hV 0
  have a1 := cv_1 hV1 0
  have a2 := cv_1 hV2 0
  have a3 := cv_1 hV3 0
  have a4 := cv_1 hV4 0
  have a5 := cv_1 hV5 0
  rw [z_wr_ne (M := V) (by omega)] at a1
  rw [z_wr_ne (a := 3) (by omega), z_wr_ne (M := V) (by omega)] at a2
  rw [z_wr_ne (a := 4) (by omega), z_wr_ne (a := 3) (by omega), z_wr_ne (M := V) (by omega)] at a3
  rw [z_wr_ne (a := 5) (by omega), z_wr_ne (a := 4) (by omega), z_wr_ne (a := 3) (by omega), z_wr_ne (M := V) (by omega)] at a4
  rw [z_wr_ne (a := 6) (by omega), z_wr_ne (a := 5) (by omega), z_wr_ne (a := 4) (by omega), z_wr_ne (a := 3) (by omega), z_wr_ne (M := V) (by omega)] at a5
  refine ⟨_, _, ?_, lay (o := 1) (k := 0) (y := V 1 0 + 1) (by omega) hL5, cEq.wr 1 0 (V 1 0 + 1) hV5, ⟨z_wr_eq _ _ _ _, fun o k q => ?_, ?_, ?_, ?_, ?_, ?_⟩, fun a k q => ?_⟩
  · rw [zr_X9_add]
    refine z_out_some ?_
    rw [zb_X9_add_0, a0, if_pos n1, lc_1_1 hL, la_c2 hc, if_pos ⟨n0, n1⟩, z_lt_eq, a1, lc_1_2 hL1, la_c3 hc, if_pos ⟨n0, n1⟩, z_lt_eq, a2, lc_1_3 hL2, la_c4 hc, if_pos ⟨n0, n1⟩, z_lt_eq, a3, lc_1_4 hL3, la_c5 hc, if_pos ⟨n0, n1⟩, z_lt_eq, a4, lc_1_5 hL4, la_c6 hc, if_pos ⟨n0, n1⟩, z_lt_eq, a5, z_add_id (by omega) (by omega), z_lt_eq]
  · rw [z_wr_ne (by omega), z_wr_ne (by omega), z_wr_ne (by omega), z_wr_ne (by omega), z_wr_ne (by omega), z_wr_ne (by omega)]
  · rw [z_wr_ne (by omega), z_wr_ne (by omega), z_wr_ne (by omega), z_wr_ne (by omega), z_wr_ne (by omega), z_wr_eq]
  · rw [z_wr_ne (by omega), z_wr_ne (by omega), z_wr_ne (by omega), z_wr_ne (by omega), z_wr_eq]
  · rw [z_wr_ne (by omega), z_wr_ne (by omega), z_wr_ne (by omega), z_wr_eq]
  · rw [z_wr_ne (by omega), z_wr_ne (by omega), z_wr_eq]
  · rw [z_wr_ne (by omega), z_wr_eq]
  · rw [z_wr_ne (by omega), z_wr_ne (by omega), z_wr_ne (by omega), z_wr_ne (by omega), z_wr_ne (by omega), z_wr_ne (by omega)]
end
/-- what a line read leaves -/
def SK (B K A P Q : Int → Int) (n N : Int) (c p : Int) (U : zM) (mc mr : zM) : Prop := ∃ U' p', PC N K A P mc c U' p' ∧ PR B K A P Q n mr U' p' ∧ vOk U' ∧ (∀ k, k ≠ 8 → U' 0 k = U 0 k) ∧ U' 13 1 = U 13 1 ∧ p < p' ∧ (U 13 0 ≤ 40 → U' 13 0 ≤ 40)
theorem fRe.u {M : zM} {e Ne Ne' : Int} {cd cd' : Int → Int} (h0 : Ne' = Ne) (h1 : ∀ k, cd' k = cd k) (h : fRe M Ne cd e) : fRe M Ne' cd' e := by
  have : cd' = cd := funext h1
  rw [h0, this]; exact h
theorem fRd.u {M U U' : zM} (hu : ∀ o k, (o = 0 ∧ k = 8) ∨ 25 ≤ o → U' o k = U o k) (h : fRd M U) : fRd M U' := by
  have e := hu 0 8 (by omega)
  refine ⟨by rw [e]; exact h.1, by rw [e]; exact h.2.1, by rw [e]; exact h.2.2.1, by rw [e]; exact h.2.2.2.1, h.2.2.2.2.1.u (hu _ _ (by omega)) (fun k => hu _ _ (by omega)), h.2.2.2.2.2.1.u (hu _ _ (by omega)) (fun k => hu _ _ (by omega)), h.2.2.2.2.2.2.u (hu _ _ (by omega)) (fun k => hu _ _ (by omega))⟩
section
variable {B K A P Q : Int → Int} {n N : Int} {Mc Mr U U' : zM} {c p : Int}
/-- the reference's THING is told -/
theorem PR.aT {nm w s pa po : Int} (hv : vOkN U) (n8 : U 1 0 < 8) (h : PR B K A P Q n Mr U p) (ha : aT U U' nm w s pa po) (g3 : Mr 88 (8 + U 1 0) = w) (g4 : Mr 89 (8 + U 1 0) = s) (g5 : Mr 90 (8 + U 1 0) = pa) (g6 : Mr 91 (8 + U 1 0) = po) : PR B K A P Q n (z_wr (z_wr Mr 87 (8 + U 1 0) nm) 84 16 (U 1 0 + 1)) U' p := by
  obtain ⟨h0, ho, h2, h3, h4, h5, h6⟩ := ha
  have e : ∀ o k, 6 < o → U' o k = U o k := fun o k q => ho o k (by omega)
  have fr : ∀ a k, ¬ (a = 87 ∧ k = 8 + U 1 0) → ¬ (a = 84 ∧ k = 16) → z_wr (z_wr Mr 87 (8 + U 1 0) nm) 84 16 (U 1 0 + 1) a k = Mr a k := fun a k q1 q2 => by rw [z_wr_ne (by omega), z_wr_ne (by omega)]
  have e16 : z_wr (z_wr Mr 87 (8 + U 1 0) nm) 84 16 (U 1 0 + 1) 84 16 = U 1 0 + 1 := z_wr_eq _ _ _ _
  have e87 : z_wr (z_wr Mr 87 (8 + U 1 0) nm) 84 16 (U 1 0 + 1) 87 (8 + U 1 0) = nm := by rw [z_wr_ne (by omega), z_wr_eq]
  generalize z_wr (z_wr Mr 87 (8 + U 1 0) nm) 84 16 (U 1 0 + 1) = R at fr e16 e87 ⊢
  have t := h.tk
  have hm := h.2.1
  refine ⟨h.1.ag (fun a k q => fr a k (by unfold pR at q; omega) (by unfold pR at q; omega)), ⟨⟨by rw [e16, h0], ?_, ?_, ?_⟩, fun k x y => ?_, fun k x y => ?_, fun k x y => ?_, fun k x y => ?_⟩, fRd.u (fun o k q => ho o k (by omega)) (fRd.ag (fr _ _ (by omega) (by omega)) (fr _ _ (by omega) (by omega)) (fun j _ _ => ⟨fr _ _ (by omega) (by omega), fr _ _ (by omega) (by omega)⟩) (fun j _ _ => ⟨fr _ _ (by omega) (by omega), fr _ _ (by omega) (by omega), fr _ _ (by omega) (by omega)⟩) h.2.2.1), ⟨⟨(fr _ _ (by omega) (by omega)).trans t.1.1, (fr _ _ (by omega) (by omega)).trans t.1.2.1, (fr _ _ (by omega) (by omega)).trans t.1.2.2.1, fun j x y => (fr _ _ (by omega) (by omega)).trans (t.1.2.2.2.1 j x y), fun j x y => (fr _ _ (by omega) (by omega)).trans (t.1.2.2.2.2 j x y)⟩, (fr _ _ (by omega) (by omega)).trans t.2.1, (fr _ _ (by omega) (by omega)).trans t.2.2.1, by rw [fr _ _ (by omega) (by omega), fr _ _ (by omega) (by omega)]; exact t.2.2.2⟩, bR.ag (fun k => fr _ _ (by omega) (by omega)) h.2.2.2.2⟩
  · rw [e _ _ (by decide), fr _ _ (by omega) (by omega)]; exact hm.1.2.1
  · rw [e _ _ (by decide), fr _ _ (by omega) (by omega)]; exact hm.1.2.2.1
  · rw [e _ _ (by decide), fr _ _ (by omega) (by omega)]; exact hm.1.2.2.2
  · rw [h0] at y
    by_cases q : k = U 1 0
    · rw [q, e87, h2, h3, h4, h5, h6, fr _ _ (by omega) (by omega), fr _ _ (by omega) (by omega), fr _ _ (by omega) (by omega), fr _ _ (by omega) (by omega)]
      exact ⟨rfl, g3, g4, g5, g6⟩
    · have := hm.2.1 k x (by omega)
      rw [ho 2 k (by omega), ho 3 k (by omega), ho 4 k (by omega), ho 5 k (by omega), ho 6 k (by omega), fr _ _ (by omega) (by omega), fr _ _ (by omega) (by omega), fr _ _ (by omega) (by omega), fr _ _ (by omega) (by omega), fr _ _ (by omega) (by omega)]
      exact this
  · rw [e _ _ (by decide)] at y
    have := hm.2.2.1 k x y
    rw [e 8 k (by decide), e 9 k (by decide), e 10 k (by decide), e 11 k (by decide), e 12 k (by decide), fr _ _ (by omega) (by omega), fr _ _ (by omega) (by omega), fr _ _ (by omega) (by omega), fr _ _ (by omega) (by omega), fr _ _ (by omega) (by omega)]
    exact this
  · rw [e _ _ (by decide)] at y
    have := hm.2.2.2.1 k x y
    rw [e 14 k (by decide), e 15 k (by decide), e 16 k (by decide), e 17 k (by decide), e 18 k (by decide), fr _ _ (by omega) (by omega), fr _ _ (by omega) (by omega), fr _ _ (by omega) (by omega), fr _ _ (by omega) (by omega), fr _ _ (by omega) (by omega)]
    exact this
  · rw [e _ _ (by decide)] at y
    have := hm.2.2.2.2 k x y
    rw [e 20 k (by decide), e 21 k (by decide), e 22 k (by decide), fr _ _ (by omega) (by omega), fr _ _ (by omega) (by omega), fr _ _ (by omega) (by omega)]
    exact this
/-- since when the paper or the police had it: one round -/
abbrev cn (pa po i : Int) : Prop := (pa = -1 ∧ po = -1 ∧ i = 0) ∨ (pa = -1 ∧ po ≠ -1 ∧ i = 1) ∨ (pa ≠ -1 ∧ po = -1 ∧ i = 1) ∨ (pa ≠ -1 ∧ po ≠ -1 ∧ i = 2)
theorem rk9 : rk 1102 = 9 := by decide
theorem rk10 : rk 1103 = 10 := by decide
/-- a number into the row of the THING told last -/
theorem c_since (hT : TS B n 0 N K A P Q) (n1 : n ≤ 800) (hv : vOk U) (n8 : U 1 0 < 8) {nm w s pa po : Int} (ha : aT U U' nm w s pa po) (hN' : vOk U') (hc : PC N K A P Mc c U' p) (hr : PR B K A P Q n Mr U p) (hk : K p = 1102 ∨ K p = 1103) {o old : Int} (ho : (o = 5 ∧ old = pa) ∨ (o = 6 ∧ old = po)) : ((old ≠ -1 ∧ LN (zm_X7_takeSince zLa [zA 7 1, zA 13 (c + o)] Mc) (z_bI (zm_X12_wrong zLa [zA 12 84, zI (3:Int)] Mr) (fun r9 M8 => if r9 = 0 ∨ r9 = 1 then some (.inl ([zI r9], M8)) else none) |> z_out) c Mc Mr) ∨ (old = -1 ∧ ∃ r1, zm_X12_take zLa [zA 12 84] Mr = some ([], r1) ∧ PR B K A P Q n r1 U (p + 1) ∧ fU Mr r1 ∧ (LN (zm_X7_takeSince zLa [zA 7 1, zA 13 (c + o)] Mc) (zm_X12_numberRead zLa [zA 12 84, zI (0:Int), zI (199:Int)] r1) c Mc r1 ∨ (K (p + 1) = 1002 ∧ 0 ≤ A (p + 1) ∧ A (p + 1) ≤ 199 ∧ zm_X12_numberRead zLa [zA 12 84, zI (0:Int), zI (199:Int)] r1 = some ([zI 1], r1) ∧ r1 84 9 = A (p + 1) ∧ ∃ m, zm_X7_takeSince zLa [zA 7 1, zA 13 (c + o)] Mc = some ([zI 1], m) ∧ PC N K A P m c (z_wr U' o (U 1 0) (A (p + 1))) (p + 2) ∧ gC c Mc m)))) := by
  have hN := hv.1
  have hp := hc.p0
  have hcc : c = 8 ∨ c = 42 := hc.1
  have h0 : U' 1 0 = U 1 0 + 1 := ha.1
  have hold : Mc (c + o) (U 1 0) = old := by
    rcases ho with ⟨r1, r2⟩ | ⟨r1, r2⟩
    · rw [r1, r2, cv_5 hc.v]; exact ha.2.2.2.2.2.1
    · rw [r1, r2, cv_6 hc.v]; exact ha.2.2.2.2.2.2
  have hla : zLa (c + o) = 8 := by
    rcases ho with ⟨r1, -⟩ | ⟨r1, -⟩
    · rw [r1]; exact la_c5 hc.1
    · rw [r1]; exact la_c6 hc.1
  rw [zr_X7_takeSince, zb_X7_takeSince_0, hc.2.1, lc_0_0 hc.y, cv_1 hc.v, h0, z_sub_id (by omega) (by omega), (by omega : U 1 0 + 1 - 1 = U 1 0), e_X9_has (hc.co hN'), z_bI_mk, b2i_pos (by omega), if_neg (by decide), hla, if_pos ⟨by omega, n8⟩, hold]
  by_cases q : old = -1
  case neg =>
    obtain ⟨f1, f2, f3⟩ := fail2 hc hr 3
    rw [if_neg q, c_wrong hc, z_bI_mk, if_pos (Or.inl rfl), r_wrong hr, z_bI_mk, if_pos (Or.inl rfl)]
    exact Or.inl ⟨q, _, _, rfl, rfl, f1, f2, f3⟩
  obtain ⟨c1, e1, h1, f1⟩ := hc.step hT n1 (by omega)
  obtain ⟨r1, e1', h1', f1'⟩ := r_take hT hN hr hp.1 hp.2 (by omega)
  rw [if_pos q, lo_1_0 hc.o, e1, z_bV_mk]
  refine Or.inr ⟨q, r1, e1', h1', f1', ?_⟩
  rcases ck_num hT n1 h1 h1' 0 199 (by decide) with ⟨q1, q2, q3, ⟨c2, e2, h2, t2, g2⟩, e2', w2'⟩ | ⟨mc, mr, e2, e2', a1, a2, a3⟩
  · right
    refine ⟨q1, q2, q3, e2', w2', z_wr c2 (c + o) (U 1 0) (A (p + 1)), ?_, ?_, (f1.gc.tr g2).tr (gC.wr (by omega))⟩
    · rw [e2, z_bI_mk, if_neg (by decide), if_pos ⟨by omega, n8⟩, t2, z_lt_eq]; rfl
    · have t := h2.t
      have e : ∀ a k, a < 8 → z_wr c2 (c + o) (U 1 0) (A (p + 1)) a k = c2 a k := fun a k q => z_wr_ne (by omega)
      rw [(by omega : p + 2 = p + 1 + 1)]
      refine ⟨h2.1, (e _ _ (by decide)).trans h2.2.1, h2.o.ag (wr_ag (by unfold pO; omega)), h2.y.ag (wr_ag (by unfold pC; omega)), cEq.wr o (U 1 0) (A (p + 1)) h2.v, (e _ _ (by decide)).trans t.1, (e _ _ (by decide)).trans t.2.1, (e _ _ (by decide)).trans t.2.2.1, (e _ _ (by decide)).trans t.2.2.2.1, t.2.2.2.2.1, t.2.2.2.2.2.1, (e _ _ (by decide)).trans t.2.2.2.2.2.2.1, fun j x y => ?_⟩
      have := t.2.2.2.2.2.2.2 j x y
      rw [e _ _ (by decide), e _ _ (by decide), e _ _ (by decide)]; exact this
  · left
    refine ⟨mc, mr, ?_, e2', f1.gc.th a1, a2, a3⟩
    rw [e2, z_bI_mk, if_pos rfl]; rfl
end
