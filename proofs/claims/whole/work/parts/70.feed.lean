/-! ===== feed ===== -/
def bw (y r : Int) : Int := z_and (z_shr y (24 - 8 * r)) 255
def bwd (y1 y2 y3 y4 y5 i : Int) : Int := bw (if i < 4 then y1 else if i < 8 then y2 else if i < 12 then y3 else if i < 16 then y4 else y5) (i % 4)
section
variable {M V : zM} {c : Int}
theorem kb1 {y s n : Int} (h1 : M 2 1 = 4) (h2 : M 2 2 = n) (n0 : 0 ≤ n) (n1 : n < 800) (s0 : 0 ≤ s) (s1 : s < 100) : z_ev (zcd_X10_keepBytes zLa) 1 [zA 10 2, zI y, zI s] [] M = z_ev (zcd_X10_keepBytes zLa) 1 [zA 10 2, zI y, zI (s - 8)] [] (z_wr (z_wr M 4 n (z_and (z_shr y s) 255)) 2 2 (n + 1)) := by
  rw [zb_X10_keepBytes_1, if_neg (by omega), h2, if_pos n1, h1, if_pos ⟨n0, by show n < 800; exact n1⟩, z_lt_eq, z_wr_ne (Or.inl (by decide)), h2, z_add_id (by omega) (by omega), z_lt_eq, z_w32_id (by omega) (by omega), (by omega : s + -8 = s - 8)]
theorem e_X10_keepBytes {y n : Int} (h1 : M 2 1 = 4) (h2 : M 2 2 = n) (n0 : 0 ≤ n) (n1 : n + 4 ≤ 800) : ∃ M', zm_X10_keepBytes zLa [zA 10 2, zI y] M = some ([], M') ∧ M' 2 2 = n + 4 ∧ (∀ i, 0 ≤ i → i < 4 → M' 4 (n + i) = bw y i) ∧ ∀ a k, ¬ (a = 2 ∧ k = 2) → ¬ (a = 4 ∧ n ≤ k ∧ k < n + 4) → M' a k = M a k := by
  have g1 : ∀ {m : zM} {k v w : Int}, m 2 1 = 4 → z_wr (z_wr m 4 k v) 2 2 w 2 1 = 4 := fun h => (z_wr_ne (Or.inr (by decide))).trans ((z_wr_ne (Or.inl (by decide))).trans h)
  refine ⟨z_wr (z_wr (z_wr (z_wr (z_wr (z_wr (z_wr (z_wr M 4 n (z_and (z_shr y 24) 255)) 2 2 (n + 1)) 4 (n + 1) (z_and (z_shr y (24 - 8)) 255)) 2 2 (n + 1 + 1)) 4 (n + 1 + 1) (z_and (z_shr y (24 - 8 - 8)) 255)) 2 2 (n + 1 + 1 + 1)) 4 (n + 1 + 1 + 1) (z_and (z_shr y (24 - 8 - 8 - 8)) 255)) 2 2 (n + 1 + 1 + 1 + 1), ?_, ?_, ?_, ?_⟩
  · rw [zr_X10_keepBytes]
    refine z_out_some ?_
    rw [zb_X10_keepBytes_0, kb1 h1 h2 n0 (by omega) (by decide) (by decide), kb1 (g1 h1) (z_wr_eq _ _ _ _) (by omega) (by omega) (by decide) (by decide), kb1 (g1 (g1 h1)) (z_wr_eq _ _ _ _) (by omega) (by omega) (by decide) (by decide), kb1 (g1 (g1 (g1 h1))) (z_wr_eq _ _ _ _) (by omega) (by omega) (by decide) (by decide), zb_X10_keepBytes_1, if_pos (by decide)]
  · rw [z_wr_eq]; omega
  · intro i i0 i1
    unfold bw
    rcases (by omega : i = 0 ∨ i = 1 ∨ i = 2 ∨ i = 3) with r | r | r | r <;> subst r
    · rw [z_wr_ne (by omega), z_wr_ne (by omega), z_wr_ne (by omega), z_wr_ne (by omega), z_wr_ne (by omega), z_wr_ne (by omega), z_wr_ne (by omega), (by omega : n + 0 = n), z_wr_eq]; rfl
    · rw [z_wr_ne (by omega), z_wr_ne (by omega), z_wr_ne (by omega), z_wr_ne (by omega), z_wr_ne (by omega), z_wr_eq]; rfl
    · rw [z_wr_ne (by omega), z_wr_ne (by omega), z_wr_ne (by omega), (by omega : n + 2 = n + 1 + 1), z_wr_eq]; rfl
    · rw [z_wr_ne (by omega), (by omega : n + 3 = n + 1 + 1 + 1), z_wr_eq]; rfl
  · intro a k q1 q2
    rw [z_wr_ne (by omega), z_wr_ne (by omega), z_wr_ne (by omega), z_wr_ne (by omega), z_wr_ne (by omega), z_wr_ne (by omega), z_wr_ne (by omega), z_wr_ne (by omega)]
theorem feedC {n : Int} (h0 : M 0 0 = 1) (h10 : M 1 0 = 2) (h1 : M 2 1 = 4) (h2 : M 2 2 = n) (n0 : 0 ≤ n) (n1 : n + 20 ≤ 800) (y1 y2 y3 y4 y5 : Int) : ∃ M', zm_X11_feed zLa [zA 11 0, zI y1, zI y2, zI y3, zI y4, zI y5] M = some ([zI (n + 20)], M') ∧ M' 2 2 = n + 20 ∧ (∀ i, 0 ≤ i → i < 20 → M' 4 (n + i) = bwd y1 y2 y3 y4 y5 i) ∧ ∀ a k, ¬ (a = 2 ∧ k = 2) → ¬ (a = 4 ∧ n ≤ k ∧ k < n + 20) → M' a k = M a k := by
  obtain ⟨A, eA, nA, bA, fA⟩ := e_X10_keepBytes (y := y1) h1 h2 n0 (by omega)
  obtain ⟨B, eB, nB, bB, fB⟩ := e_X10_keepBytes (M := A) (y := y2) ((fA 2 1 (by omega) (by omega)).trans h1) nA (by omega) (by omega)
  obtain ⟨C, eC, nC, bC, fC⟩ := e_X10_keepBytes (M := B) (y := y3) ((fB 2 1 (by omega) (by omega)).trans ((fA 2 1 (by omega) (by omega)).trans h1)) nB (by omega) (by omega)
  obtain ⟨D, eD, nD, bD, fD⟩ := e_X10_keepBytes (M := C) (y := y4) ((fC 2 1 (by omega) (by omega)).trans ((fB 2 1 (by omega) (by omega)).trans ((fA 2 1 (by omega) (by omega)).trans h1))) nC (by omega) (by omega)
  obtain ⟨E, eE, nE, bE, fE⟩ := e_X10_keepBytes (M := D) (y := y5) ((fD 2 1 (by omega) (by omega)).trans ((fC 2 1 (by omega) (by omega)).trans ((fB 2 1 (by omega) (by omega)).trans ((fA 2 1 (by omega) (by omega)).trans h1)))) nD (by omega) (by omega)
  refine ⟨E, ?_, by omega, fun i i0 i1 => ?_, fun a k q1 q2 => ?_⟩
  · rw [zr_X11_feed]
    refine z_out_some ?_
    rw [zb_X11_feed_0, h0, h10, h2, z_add_id (by omega) (by omega), if_pos n1, eA, z_bV_mk, eB, z_bV_mk, eC, z_bV_mk, eD, z_bV_mk, eE, z_bV_mk, nE, (by omega : n + 4 + 4 + 4 + 4 + 4 = n + 20)]
  · unfold bwd
    rcases (by omega : i < 4 ∨ (4 ≤ i ∧ i < 8) ∨ (8 ≤ i ∧ i < 12) ∨ (12 ≤ i ∧ i < 16) ∨ 16 ≤ i) with r | r | r | r | r
    · rw [if_pos r, fE _ _ (by omega) (by omega), fD _ _ (by omega) (by omega), fC _ _ (by omega) (by omega), fB _ _ (by omega) (by omega), bA i i0 r, (by omega : i % 4 = i)]
    · rw [if_neg (by omega), if_pos r.2, fE _ _ (by omega) (by omega), fD _ _ (by omega) (by omega), fC _ _ (by omega) (by omega), (by omega : n + i = n + 4 + (i - 4)), bB (i - 4) (by omega) (by omega), (by omega : i % 4 = i - 4)]
    · rw [if_neg (by omega), if_neg (by omega), if_pos r.2, fE _ _ (by omega) (by omega), fD _ _ (by omega) (by omega), (by omega : n + i = n + 4 + 4 + (i - 8)), bC (i - 8) (by omega) (by omega), (by omega : i % 4 = i - 8)]
    · rw [if_neg (by omega), if_neg (by omega), if_neg (by omega), if_pos r.2, fE _ _ (by omega) (by omega), (by omega : n + i = n + 4 + 4 + 4 + (i - 12)), bD (i - 12) (by omega) (by omega), (by omega : i % 4 = i - 12)]
    · rw [if_neg (by omega), if_neg (by omega), if_neg (by omega), if_neg (by omega), (by omega : n + i = n + 4 + 4 + 4 + 4 + (i - 16)), bE (i - 16) (by omega) (by omega), (by omega : i % 4 = i - 16)]
  · rw [fE a k q1 (by omega), fD a k q1 (by omega), fC a k q1 (by omega), fB a k q1 (by omega), fA a k q1 (by omega)]
theorem feedR {n : Int} (hR : LyR M) (h1 : M 84 1 = n) (n0 : 0 ≤ n) (n1 : n + 20 ≤ 800) (y1 y2 y3 y4 y5 : Int) : ∃ M', zm_X12_feed zLa [zA 12 84, zI y1, zI y2, zI y3, zI y4, zI y5] M = some ([zI (n + 20)], M') ∧ M' 84 1 = n + 20 ∧ (∀ i, 0 ≤ i → i < 20 → M' 85 (n + i) = bwd y1 y2 y3 y4 y5 i) ∧ ∀ a k, ¬ (a = 84 ∧ (k = 1 ∨ k = 2)) → ¬ (a = 85 ∧ n ≤ k ∧ k < n + 20) → M' a k = M a k := by
  obtain ⟨⟨w7, m1⟩, e, hb, hf⟩ := lp_ex (fun i (s : zV × zM) => z_ev (zcd_X12_feed zLa) 1 [zA 12 84, zI y1, zI y2, zI y3, zI y4, zI y5, zI i, s.1] [] s.2) (fun i s => (∀ j, 0 ≤ j → j < i → s.2 85 (n + j) = bwd y1 y2 y3 y4 y5 j) ∧ ∀ a k, ¬ (a = 84 ∧ k = 2) → ¬ (a = 85 ∧ n ≤ k ∧ k < n + 20) → s.2 a k = M a k) (n := 20) 0 (fun i s hi0 hi1 ⟨hb, hf⟩ => by
    obtain ⟨w7, m⟩ := s
    dsimp only at hb hf ⊢
    have g0 : m 84 0 = 85 := (hf 84 0 (by omega) (by omega)).trans (lr_0 hR)
    have g1 : m 84 1 = n := (hf 84 1 (by omega) (by omega)).trans h1
    have st : ∀ y : Int, (if i < 4 then y1 else if i < 8 then y2 else if i < 12 then y3 else if i < 16 then y4 else y5) = y → ∃ s' : zV × zM, z_ev (zcd_X12_feed zLa) 2 [zA 12 84, zI y1, zI y2, zI y3, zI y4, zI y5, zI i, w7] [zI y] m = z_ev (zcd_X12_feed zLa) 1 [zA 12 84, zI y1, zI y2, zI y3, zI y4, zI y5, zI (i + 1), s'.1] [] s'.2 ∧ (∀ j, 0 ≤ j → j < i + 1 → s'.2 85 (n + j) = bwd y1 y2 y3 y4 y5 j) ∧ ∀ a k, ¬ (a = 84 ∧ k = 2) → ¬ (a = 85 ∧ n ≤ k ∧ k < n + 20) → s'.2 a k = M a k := by
      intro y hy
      have er : z_rem i 4 = i % 4 := by
        unfold z_rem
        exact Int.tmod_eq_emod_of_nonneg hi0
      refine ⟨(zI y, z_wr m 85 (n + i) (bw y (i % 4))), ?_, fun j j0 j1 => ?_, fun a k q1 q2 => ?_⟩
      · rw [zb_X12_feed_2, if_neg (by decide), g0, g1, z_add_id (by omega) (by omega), if_pos ⟨by omega, by show n + i < 800; omega⟩, er, z_mul_id (by omega) (by omega), z_sub_id (by omega) (by omega), z_lt_eq, z_w32_id (by omega) (by omega)]
        rfl
      · rcases (by omega : j < i ∨ j = i) with r | r
        · dsimp only
          rw [z_wr_ne (by omega)]; exact hb j j0 r
        · subst r
          dsimp only
          rw [z_wr_eq]
          unfold bwd
          rw [hy]
      · dsimp only
        rw [z_wr_ne (by omega)]; exact hf a k q1 q2
    rw [zb_X12_feed_1, if_pos hi1]
    by_cases r1 : i < 4
    · rw [if_pos r1]; exact st y1 (by rw [if_pos r1])
    rw [if_neg r1]
    by_cases r2 : i < 8
    · rw [if_pos r2]; exact st y2 (by rw [if_neg r1, if_pos r2])
    rw [if_neg r2]
    by_cases r3 : i < 12
    · rw [if_pos r3]; exact st y3 (by rw [if_neg r1, if_neg r2, if_pos r3])
    rw [if_neg r3]
    by_cases r4 : i < 16
    · rw [if_pos r4]; exact st y4 (by rw [if_neg r1, if_neg r2, if_neg r3, if_pos r4])
    rw [if_neg r4]
    exact st y5 (by rw [if_neg r1, if_neg r2, if_neg r3, if_neg r4])) (s := (zU, z_wr M 84 2 0)) (by decide) ⟨fun j a b => absurd b (by omega), fun a k q1 q2 => z_wr_ne (by omega)⟩
  dsimp only at e hb hf
  have g1 : m1 84 1 = n := (hf 84 1 (by omega) (by omega)).trans h1
  have g1' : z_wr M 84 2 0 84 1 = n := (z_wr_ne (by omega)).trans h1
  refine ⟨z_wr m1 84 1 (n + 20), ?_, z_wr_eq _ _ _ _, fun i i0 i1 => (z_wr_ne (by omega)).trans (hb i i0 i1), fun a k q1 q2 => (z_wr_ne (by omega)).trans (hf a k (by omega) q2)⟩
  rw [zr_X12_feed]
  refine z_out_some ?_
  rw [zb_X12_feed_0, z_lt_eq, g1', z_add_id (by omega) (by omega), if_pos n1, e, zb_X12_feed_1, if_neg (by decide), g1, z_add_id (by omega) (by omega), z_lt_eq, z_wr_eq]
def fV (V : zM) (n : Int) (f : Int → Int) : zM := fun o j => if o = 101 then (if j < n then V 101 j else f (j - n)) else if o = 100 ∧ j = 5 then n + 20 else V o j
theorem i_feed (hI : gI M) (y1 y2 y3 y4 y5 : Int) : PrI zm_X11_feed zm_X12_feed [zI y1, zI y2, zI y3, zI y4, zI y5] M := by
  obtain ⟨c, V, hC, hR, hv, hx⟩ := hI
  have hc : c = 8 ∨ c = 42 := hC.1
  have hO := hC.2.2.2.1
  have h8 := hC.2.2.2.2.2.2.2.1
  by_cases q : V 100 5 + 20 ≤ 800
  · obtain ⟨M1, e1, n1, b1, f1⟩ := feedC (lo_0_0 hO) (lo_1_0 hO) (lo_2_1 hO) h8.2.2.2.2.2.1 hx.2.2.2.1 q y1 y2 y3 y4 y5
    have hC1 : CS M1 c (fV V (V 100 5) (bwd y1 y2 y3 y4 y5)) := by
      obtain ⟨g1, g2, g3, g4, g5, g6, g7, g8, g9⟩ := hC
      refine ⟨g1, (f1 _ _ (by omega) (by omega)).trans g2, (f1 _ _ (by omega) (by omega)).trans g3, g4.ag (fun a k q => f1 a k (by unfold pO at q; omega) (by unfold pO at q; omega)), g5.ag (fun a k q => f1 a k (by unfold pC at q; omega) (by unfold pC at q; omega)), g6.ag (fun a k q => f1 a k (by unfold pC at q; omega) (by unfold pC at q; omega)), ?_, ?_, fun j a b => (f1 _ _ (by omega) (by omega)).trans (g9 j a b)⟩
      · have : cEq M1 c V := cEq.ag (fun a k q => f1 a k (by unfold pV at q; omega) (by unfold pV at q; omega)) g7
        exact this
      · refine ⟨(f1 _ _ (by omega) (by omega)).trans g8.1, (f1 _ _ (by omega) (by omega)).trans g8.2.1, (f1 _ _ (by omega) (by omega)).trans g8.2.2.1, (f1 _ _ (by omega) (by omega)).trans g8.2.2.2.1, (f1 _ _ (by omega) (by omega)).trans g8.2.2.2.2.1, n1, fun j a b => ?_⟩
        have b' : j < V 100 5 + 20 := b
        show M1 4 j = if j < V 100 5 then V 101 j else bwd y1 y2 y3 y4 y5 (j - V 100 5)
        by_cases r : j < V 100 5
        · rw [if_pos r, f1 _ _ (by omega) (by omega)]; exact g8.2.2.2.2.2.2 j a r
        · rw [if_neg r, ← b1 (j - V 100 5) (by omega) (by omega), (by omega : V 100 5 + (j - V 100 5) = j)]
    refine PrI.mk (M1 := M1) (c' := c) (V' := fV V (V 100 5) (bwd y1 y2 y3 y4 y5)) (r := [zI (V 100 5 + 20)]) hR hv e1 (fun a k r => f1 a k (by omega) (by omega)) hC1 (fun h => ?_) hv ⟨hx.1, hx.2.1, hx.2.2.1, by show 0 ≤ V 100 5 + 20; omega, q⟩
    obtain ⟨g1, g2, g3, g8, g9⟩ := h
    obtain ⟨M2, e2, n2, b2, f2⟩ := feedR g1 g8.2.2.2.2.2.1 hx.2.2.2.1 q y1 y2 y3 y4 y5
    refine ⟨M2, e2, fun a k r => f2 a k (by omega) (by omega), g1.ag (fun a k q => f2 a k (by unfold pR at q; omega) (by unfold pR at q; omega)), ?_, ?_, ?_, fun j a b => (f2 _ _ (by omega) (by omega)).trans (g9.1 j a b), bR.ag (fun k => f2 _ _ (by omega) (by omega)) g9.2⟩
    · have : mEq M2 V := mEq.ag hv.1 (fun a k q => f2 a k (by unfold pM at q; omega) (by unfold pM at q; omega)) g2
      exact this
    · have : gF M2 V := gF.ag (fun a k q => f2 a k (by unfold pF at q; omega) (by unfold pF at q; omega)) g3
      exact this
    · refine ⟨(f2 _ _ (by omega) (by omega)).trans g8.1, (f2 _ _ (by omega) (by omega)).trans g8.2.1, (f2 _ _ (by omega) (by omega)).trans g8.2.2.1, (f2 _ _ (by omega) (by omega)).trans g8.2.2.2.1, (f2 _ _ (by omega) (by omega)).trans g8.2.2.2.2.1, n2, fun j a b => ?_⟩
      have b' : j < V 100 5 + 20 := b
      show M2 85 j = if j < V 100 5 then V 101 j else bwd y1 y2 y3 y4 y5 (j - V 100 5)
      by_cases r : j < V 100 5
      · rw [if_pos r, f2 _ _ (by omega) (by omega)]; exact g8.2.2.2.2.2.2 j a r
      · rw [if_neg r, ← b2 (j - V 100 5) (by omega) (by omega), (by omega : V 100 5 + (j - V 100 5) = j)]
  · refine PrI.mk (M1 := M) (c' := c) (V' := V) (r := [zI (-1)]) hR hv ?_ (frC.rf M) hC (fun h => ⟨z_wr M 84 2 0, ?_, fw2 _, h.w2⟩) hv hx
    · rw [zr_X11_feed]
      refine z_out_some ?_
      rw [zb_X11_feed_0, lo_0_0 hO, lo_1_0 hO, h8.2.2.2.2.2.1, z_add_id (by omega) (by omega), if_neg q]
    · have g1 := h.w2.2.2.2.1.2.2.2.2.2.1
      rw [zr_X12_feed]
      refine z_out_some ?_
      rw [zb_X12_feed_0, z_lt_eq, g1, z_add_id (by omega) (by omega), if_neg q]
end
