section
/-! ===== a case emptied; the reference's copy of what was read ===== -/
def clV (V : zM) : zM := z_wr (z_wr (z_wr (z_wr (z_wr (z_wr (z_wr (z_wr (z_wr (z_wr (z_wr (z_wr V 1 0 0) 7 0 0) 13 0 0) 13 1 0) 19 0 0) 25 0 0) 27 0 0) 29 0 0) 0 7 0) 0 8 0) 0 9 199) 0 10 0
theorem clV_at (V : zM) : clV V 1 0 = 0 ∧ clV V 7 0 = 0 ∧ clV V 13 0 = 0 ∧ clV V 13 1 = 0 ∧ clV V 19 0 = 0 ∧ clV V 25 0 = 0 ∧ clV V 27 0 = 0 ∧ clV V 29 0 = 0 ∧ clV V 0 7 = 0 ∧ clV V 0 8 = 0 ∧ clV V 0 9 = 199 ∧ clV V 0 10 = 0 := by
  refine ⟨?_, ?_, ?_, ?_, ?_, ?_, ?_, ?_, ?_, ?_, ?_, ?_⟩ <;> simp [clV, z_wr]
theorem vOk_cl (V : zM) : vOk (clV V) := by
  obtain ⟨h1, h7, h13, h131, h19, -, -, -, -, -, h9, -⟩ := clV_at V
  refine ⟨?_, ?_, ?_, ?_, ?_, ?_⟩
  · unfold vOkN; omega
  · intro k a b; omega
  · intro k a b; omega
  · intro k a b; omega
  · intro i j a b d; omega
  · intro k a b; omega
section
variable {M V : zM} {c : Int}
theorem cEq.w0 (k y : Int) (h : cEq M c V) : cEq (z_wr M c k y) c (z_wr V 0 k y) := by
  have := cEq.wr 0 k y h
  rw [Int.add_zero] at this
  exact this
theorem e_clear (hL : LyC M c) (hV : cEq M c V) : ∃ m, zm_X0_clear zLa [zA 0 c] M = some ([], m) ∧ LyC m c ∧ cEq m c (clV V) ∧ ∀ a k, ¬ (c ≤ a ∧ a ≤ c + 30) → m a k = M a k := by
  have lay : ∀ {m : zM} {a k y : Int}, ¬ pC c a k → LyC m c → LyC (z_wr m a k y) c := fun ho h => h.ag (wr_ag ho)
  have hL1 := lay (a := c + 1) (k := 0) (y := 0) (by unfold pC; omega) hL
  have hL2 := lay (a := c + 7) (k := 0) (y := 0) (by unfold pC; omega) hL1
  have hL3 := lay (a := c + 13) (k := 0) (y := 0) (by unfold pC; omega) hL2
  have hL4 := lay (a := c + 13) (k := 1) (y := 0) (by unfold pC; omega) hL3
  have hL5 := lay (a := c + 19) (k := 0) (y := 0) (by unfold pC; omega) hL4
  have hL6 := lay (a := c + 25) (k := 0) (y := 0) (by unfold pC; omega) hL5
  have hL7 := lay (a := c + 27) (k := 0) (y := 0) (by unfold pC; omega) hL6
  have hL8 := lay (a := c + 29) (k := 0) (y := 0) (by unfold pC; omega) hL7
  have hL9 := lay (a := c) (k := 7) (y := 0) (by unfold pC; omega) hL8
  have hL10 := lay (a := c) (k := 8) (y := 0) (by unfold pC; omega) hL9
  have hL11 := lay (a := c) (k := 9) (y := 199) (by unfold pC; omega) hL10
  have hL12 := lay (a := c) (k := 10) (y := 0) (by unfold pC; omega) hL11
  have hV8 := cEq.wr 29 0 0 (cEq.wr 27 0 0 (cEq.wr 25 0 0 (cEq.wr 19 0 0 (cEq.wr 13 1 0 (cEq.wr 13 0 0 (cEq.wr 7 0 0 (cEq.wr 1 0 0 hV)))))))
  have hV12 := cEq.w0 10 0 (cEq.w0 9 199 (cEq.w0 8 0 (cEq.w0 7 0 hV8)))
  refine ⟨_, ?_, hL12, hV12, fun a k q => ?_⟩
  · rw [zr_X0_clear]
    refine z_out_some ?_
    rw [zb_X0_clear_0, lc_0_0 hL, z_lt_eq, lc_0_1 hL1, z_lt_eq, lc_0_2 hL2, z_lt_eq, lc_0_2 hL3, z_lt_eq, lc_0_3 hL4, z_lt_eq, lc_0_4 hL5, z_lt_eq, lc_0_5 hL6, z_lt_eq, lc_0_6 hL7, z_lt_eq, z_lt_eq, z_lt_eq, z_lt_eq, z_lt_eq]
  · rw [z_wr_ne (by omega), z_wr_ne (by omega), z_wr_ne (by omega), z_wr_ne (by omega), z_wr_ne (by omega), z_wr_ne (by omega), z_wr_ne (by omega), z_wr_ne (by omega), z_wr_ne (by omega), z_wr_ne (by omega), z_wr_ne (by omega), z_wr_ne (by omega)]
end
/-! the reference's plain -/
theorem r_plain {M : zM} (hR : LyR M) : ∃ m, zm_X12_plain zLa [zA 12 84] M = some ([], m) ∧ LyR m ∧ (m 84 16 = 0 ∧ m 84 17 = 0 ∧ m 84 18 = 0 ∧ m 84 19 = 0 ∧ m 84 20 = 0 ∧ m 84 55 = 0) ∧ (∀ k, 3 ≤ k → k < 6 → m 105 k = 0 ∧ m 106 k = 0) ∧ ∀ a k, ¬ (a = 84 ∧ ((16 ≤ k ∧ k ≤ 20) ∨ k = 55)) → ¬ (105 ≤ a ∧ a ≤ 106 ∧ 3 ≤ k ∧ k < 6) → m a k = M a k := by
  let M0 := z_wr (z_wr (z_wr (z_wr (z_wr (z_wr M 84 16 0) 84 17 0) 84 18 0) 84 19 0) 84 20 0) 84 55 0
  have f0 : ∀ a k, ¬ (a = 84 ∧ ((16 ≤ k ∧ k ≤ 20) ∨ k = 55)) → M0 a k = M a k := fun a k q => by
    show z_wr (z_wr (z_wr (z_wr (z_wr (z_wr M 84 16 0) 84 17 0) 84 18 0) 84 19 0) 84 20 0) 84 55 0 a k = M a k
    rw [z_wr_ne (by omega), z_wr_ne (by omega), z_wr_ne (by omega), z_wr_ne (by omega), z_wr_ne (by omega), z_wr_ne (by omega)]
  have v0 : M0 84 16 = 0 ∧ M0 84 17 = 0 ∧ M0 84 18 = 0 ∧ M0 84 19 = 0 ∧ M0 84 20 = 0 ∧ M0 84 55 = 0 := by
    refine ⟨?_, ?_, ?_, ?_, ?_, ?_⟩ <;> simp [M0, z_wr]
  obtain ⟨m, e, hI, hF⟩ := lp_ex (fun i (m : zM) => z_ev (zcd_X12_plain zLa) 1 [zA 12 84, zI i] [] m) (fun i m => (∀ k, 3 ≤ k → k < i → m 105 k = 0 ∧ m 106 k = 0) ∧ ∀ a k, ¬ (105 ≤ a ∧ a ≤ 106 ∧ 3 ≤ k ∧ k < 6) → m a k = M0 a k) (n := 6) 3 (fun i m hi0 hi1 ⟨hI, hF⟩ => by
    have hr : LyR m := hR.ag (fun a k q => by rw [hF a k (by unfold pR at q; omega), f0 a k (by unfold pR at q; omega)])
    have hr2 : LyR (z_wr m 105 i 0) := hr.ag (wr_ag (by unfold pR; omega))
    refine ⟨z_wr (z_wr m 105 i 0) 106 i 0, ?_, fun k k0 k1 => ?_, fun a k q => ?_⟩
    · rw [zb_X12_plain_1, if_pos hi1, lr_39 hr, la_105, if_pos ⟨by omega, by omega⟩, z_lt_eq, lr_40 hr2, la_106, if_pos ⟨by omega, by omega⟩, z_lt_eq, z_w32_id (by omega) (by omega)]
    · by_cases q : k = i
      · subst q
        exact ⟨by rw [z_wr_ne (by omega), z_wr_eq], z_wr_eq _ _ _ _⟩
      · rw [z_wr_ne (by omega), z_wr_ne (by omega), z_wr_ne (by omega), z_wr_ne (by omega)]
        exact hI k k0 (by omega)
    · rw [z_wr_ne (by omega), z_wr_ne (by omega)]; exact hF a k q) (s := M0) (by decide) ⟨fun k a b => by omega, fun _ _ _ => rfl⟩
  try dsimp only at e
  have hr : LyR m := hR.ag (fun a k q => by rw [hF a k (by unfold pR at q; omega), f0 a k (by unfold pR at q; omega)])
  refine ⟨m, ?_, hr, ?_, hI, fun a k q1 q2 => by rw [hF a k q2, f0 a k q1]⟩
  · rw [zr_X12_plain]
    refine z_out_some ?_
    rw [zb_X12_plain_0, z_lt_eq, z_lt_eq, z_lt_eq, z_lt_eq, z_lt_eq, z_lt_eq]
    exact e.trans (by rw [zb_X12_plain_1, if_neg (by decide)])
  · rw [hF _ _ (by omega), hF _ _ (by omega), hF _ _ (by omega), hF _ _ (by omega), hF _ _ (by omega), hF _ _ (by omega)]
    exact v0
/-! rows copied from their second half to their first -/
def cpd (o : Int) (f : Int → Int) (M m : zM) : Prop := ∀ a k, m a k = if 0 ≤ k ∧ k < f a then M a (o + k) else M a k
theorem cpd.rf (o : Int) (M : zM) : cpd o (fun _ => 0) M M := fun a k => by
  show M a k = if 0 ≤ k ∧ k < 0 then M a (o + k) else M a k
  rw [if_neg (by omega)]
theorem cpd.cg {o : Int} {f g : Int → Int} {M m : zM} (h : cpd o f M m) (hf : ∀ a, g a = f a) : cpd o g M m := fun a k => by rw [hf a]; exact h a k
theorem cpd.wr {o : Int} {f : Int → Int} {M m : zM} (h : cpd o f M m) {a0 i : Int} (hi : f a0 = i) (i0 : 0 ≤ i) (i1 : i < o) : cpd o (fun a => if a = a0 then i + 1 else f a) M (z_wr m a0 i (m a0 (o + i))) := by
  intro a k
  show z_wr m a0 i (m a0 (o + i)) a k = if 0 ≤ k ∧ k < (if a = a0 then i + 1 else f a) then M a (o + k) else M a k
  by_cases q : a = a0
  · subst q
    rw [if_pos rfl]
    by_cases r : k = i
    · subst r
      rw [z_wr_eq, h a (o + k), if_neg (by omega), if_pos (by omega)]
    · rw [z_wr_ne (by omega), h a k, hi]
      by_cases s : 0 ≤ k ∧ k < i
      · rw [if_pos s, if_pos (by omega)]
      · rw [if_neg s, if_neg (by omega)]
  · rw [if_neg q, z_wr_ne (by omega)]
    exact h a k
theorem cpd.ly {o : Int} {f : Int → Int} {M m : zM} (h : cpd o f M m) (h0 : f 84 ≤ 0) (hR : LyR M) : LyR m := hR.ag (fun a k q => by
  have e : a = 84 := by unfold pR at q; omega
  rw [e, h 84 k, if_neg (by omega)])
/-- so many of the arrays from l to u -/
def cnt5 (l u i : Int) (a : Int) : Int := if l ≤ a ∧ a ≤ u then i else 0
theorem k_1 {M : zM} (hR : LyR M) : ∃ m, z_ev (zcd_X12_keep zLa) 1 [zA 12 84, zI 0] [] M = z_ev (zcd_X12_keep zLa) 1 [zA 12 84, zI 8] [] m ∧ cpd 8 (cnt5 87 91 8) M m := by
  obtain ⟨m, e, hI⟩ := lp_ex (fun i (m : zM) => z_ev (zcd_X12_keep zLa) 1 [zA 12 84, zI i] [] m) (fun i m => cpd 8 (cnt5 87 91 i) M m) (n := 8) 0 (fun i m hi0 hi1 hI => by
    have bo : 0 ≤ 8 + i ∧ 8 + i < 16 := ⟨by omega, by omega⟩
    have bi : 0 ≤ i ∧ i < 16 := ⟨by omega, by omega⟩
    have z0 : (cnt5 87 91 i) 84 ≤ 0 := by show cnt5 87 91 i 84 ≤ 0; unfold cnt5; rw [if_neg (by omega)]; exact Int.le_refl _
    have y0 : (cnt5 87 91 i) 87 = i := by show cnt5 87 91 i 87 = i; unfold cnt5; rw [if_pos (by omega)]
    have l0 := hI.ly z0 hR
    have h0 := hI.wr (a0 := 87) y0 hi0 (by omega)
    have z1 : (fun a : Int => if a = 87 then i + 1 else (cnt5 87 91 i) a) 84 ≤ 0 := by dsimp only; rw [if_neg (by decide)]; unfold cnt5; rw [if_neg (by omega)]; exact Int.le_refl _
    have y1 : (fun a : Int => if a = 87 then i + 1 else (cnt5 87 91 i) a) 88 = i := by dsimp only; rw [if_neg (by decide)]; unfold cnt5; rw [if_pos (by omega)]
    have l1 := h0.ly z1 hR
    have h1 := h0.wr (a0 := 88) y1 hi0 (by omega)
    have z2 : (fun a : Int => if a = 88 then i + 1 else (fun a : Int => if a = 87 then i + 1 else (cnt5 87 91 i) a) a) 84 ≤ 0 := by dsimp only; rw [if_neg (by decide)]; rw [if_neg (by decide)]; unfold cnt5; rw [if_neg (by omega)]; exact Int.le_refl _
    have y2 : (fun a : Int => if a = 88 then i + 1 else (fun a : Int => if a = 87 then i + 1 else (cnt5 87 91 i) a) a) 89 = i := by dsimp only; rw [if_neg (by decide)]; rw [if_neg (by decide)]; unfold cnt5; rw [if_pos (by omega)]
    have l2 := h1.ly z2 hR
    have h2 := h1.wr (a0 := 89) y2 hi0 (by omega)
    have z3 : (fun a : Int => if a = 89 then i + 1 else (fun a : Int => if a = 88 then i + 1 else (fun a : Int => if a = 87 then i + 1 else (cnt5 87 91 i) a) a) a) 84 ≤ 0 := by dsimp only; rw [if_neg (by decide)]; rw [if_neg (by decide)]; rw [if_neg (by decide)]; unfold cnt5; rw [if_neg (by omega)]; exact Int.le_refl _
    have y3 : (fun a : Int => if a = 89 then i + 1 else (fun a : Int => if a = 88 then i + 1 else (fun a : Int => if a = 87 then i + 1 else (cnt5 87 91 i) a) a) a) 90 = i := by dsimp only; rw [if_neg (by decide)]; rw [if_neg (by decide)]; rw [if_neg (by decide)]; unfold cnt5; rw [if_pos (by omega)]
    have l3 := h2.ly z3 hR
    have h3 := h2.wr (a0 := 90) y3 hi0 (by omega)
    have z4 : (fun a : Int => if a = 90 then i + 1 else (fun a : Int => if a = 89 then i + 1 else (fun a : Int => if a = 88 then i + 1 else (fun a : Int => if a = 87 then i + 1 else (cnt5 87 91 i) a) a) a) a) 84 ≤ 0 := by dsimp only; rw [if_neg (by decide)]; rw [if_neg (by decide)]; rw [if_neg (by decide)]; rw [if_neg (by decide)]; unfold cnt5; rw [if_neg (by omega)]; exact Int.le_refl _
    have y4 : (fun a : Int => if a = 90 then i + 1 else (fun a : Int => if a = 89 then i + 1 else (fun a : Int => if a = 88 then i + 1 else (fun a : Int => if a = 87 then i + 1 else (cnt5 87 91 i) a) a) a) a) 91 = i := by dsimp only; rw [if_neg (by decide)]; rw [if_neg (by decide)]; rw [if_neg (by decide)]; rw [if_neg (by decide)]; unfold cnt5; rw [if_pos (by omega)]
    have l4 := h3.ly z4 hR
    have h4 := h3.wr (a0 := 91) y4 hi0 (by omega)
    refine ⟨_, ?_, h4.cg (fun a => ?_)⟩
    · rw [zb_X12_keep_1, if_pos hi1, z_add_id (a := 8) (b := i) (by omega) (by omega), lr_21 l0, la_87, if_pos bo, if_pos bi, z_lt_eq, lr_22 l1, la_88, if_pos bo, if_pos bi, z_lt_eq, lr_23 l2, la_89, if_pos bo, if_pos bi, z_lt_eq, lr_24 l3, la_90, if_pos bo, if_pos bi, z_lt_eq, lr_25 l4, la_91, if_pos bo, if_pos bi, z_lt_eq, z_w32_id (by omega) (by omega)]
    · unfold cnt5
      (repeat' split) <;> omega) (s := M) (by decide) ((cpd.rf 8 M).cg (fun a => by unfold cnt5; split <;> rfl))
  exact ⟨m, e, hI⟩
theorem k_2 {M : zM} (hR : LyR M) : ∃ m, z_ev (zcd_X12_keep zLa) 2 [zA 12 84, zI 0] [] M = z_ev (zcd_X12_keep zLa) 2 [zA 12 84, zI 5] [] m ∧ cpd 5 (cnt5 92 96 5) M m := by
  obtain ⟨m, e, hI⟩ := lp_ex (fun i (m : zM) => z_ev (zcd_X12_keep zLa) 2 [zA 12 84, zI i] [] m) (fun i m => cpd 5 (cnt5 92 96 i) M m) (n := 5) 0 (fun i m hi0 hi1 hI => by
    have bo : 0 ≤ 5 + i ∧ 5 + i < 10 := ⟨by omega, by omega⟩
    have bi : 0 ≤ i ∧ i < 10 := ⟨by omega, by omega⟩
    have z0 : (cnt5 92 96 i) 84 ≤ 0 := by show cnt5 92 96 i 84 ≤ 0; unfold cnt5; rw [if_neg (by omega)]; exact Int.le_refl _
    have y0 : (cnt5 92 96 i) 92 = i := by show cnt5 92 96 i 92 = i; unfold cnt5; rw [if_pos (by omega)]
    have l0 := hI.ly z0 hR
    have h0 := hI.wr (a0 := 92) y0 hi0 (by omega)
    have z1 : (fun a : Int => if a = 92 then i + 1 else (cnt5 92 96 i) a) 84 ≤ 0 := by dsimp only; rw [if_neg (by decide)]; unfold cnt5; rw [if_neg (by omega)]; exact Int.le_refl _
    have y1 : (fun a : Int => if a = 92 then i + 1 else (cnt5 92 96 i) a) 93 = i := by dsimp only; rw [if_neg (by decide)]; unfold cnt5; rw [if_pos (by omega)]
    have l1 := h0.ly z1 hR
    have h1 := h0.wr (a0 := 93) y1 hi0 (by omega)
    have z2 : (fun a : Int => if a = 93 then i + 1 else (fun a : Int => if a = 92 then i + 1 else (cnt5 92 96 i) a) a) 84 ≤ 0 := by dsimp only; rw [if_neg (by decide)]; rw [if_neg (by decide)]; unfold cnt5; rw [if_neg (by omega)]; exact Int.le_refl _
    have y2 : (fun a : Int => if a = 93 then i + 1 else (fun a : Int => if a = 92 then i + 1 else (cnt5 92 96 i) a) a) 94 = i := by dsimp only; rw [if_neg (by decide)]; rw [if_neg (by decide)]; unfold cnt5; rw [if_pos (by omega)]
    have l2 := h1.ly z2 hR
    have h2 := h1.wr (a0 := 94) y2 hi0 (by omega)
    have z3 : (fun a : Int => if a = 94 then i + 1 else (fun a : Int => if a = 93 then i + 1 else (fun a : Int => if a = 92 then i + 1 else (cnt5 92 96 i) a) a) a) 84 ≤ 0 := by dsimp only; rw [if_neg (by decide)]; rw [if_neg (by decide)]; rw [if_neg (by decide)]; unfold cnt5; rw [if_neg (by omega)]; exact Int.le_refl _
    have y3 : (fun a : Int => if a = 94 then i + 1 else (fun a : Int => if a = 93 then i + 1 else (fun a : Int => if a = 92 then i + 1 else (cnt5 92 96 i) a) a) a) 95 = i := by dsimp only; rw [if_neg (by decide)]; rw [if_neg (by decide)]; rw [if_neg (by decide)]; unfold cnt5; rw [if_pos (by omega)]
    have l3 := h2.ly z3 hR
    have h3 := h2.wr (a0 := 95) y3 hi0 (by omega)
    have z4 : (fun a : Int => if a = 95 then i + 1 else (fun a : Int => if a = 94 then i + 1 else (fun a : Int => if a = 93 then i + 1 else (fun a : Int => if a = 92 then i + 1 else (cnt5 92 96 i) a) a) a) a) 84 ≤ 0 := by dsimp only; rw [if_neg (by decide)]; rw [if_neg (by decide)]; rw [if_neg (by decide)]; rw [if_neg (by decide)]; unfold cnt5; rw [if_neg (by omega)]; exact Int.le_refl _
    have y4 : (fun a : Int => if a = 95 then i + 1 else (fun a : Int => if a = 94 then i + 1 else (fun a : Int => if a = 93 then i + 1 else (fun a : Int => if a = 92 then i + 1 else (cnt5 92 96 i) a) a) a) a) 96 = i := by dsimp only; rw [if_neg (by decide)]; rw [if_neg (by decide)]; rw [if_neg (by decide)]; rw [if_neg (by decide)]; unfold cnt5; rw [if_pos (by omega)]
    have l4 := h3.ly z4 hR
    have h4 := h3.wr (a0 := 96) y4 hi0 (by omega)
    refine ⟨_, ?_, h4.cg (fun a => ?_)⟩
    · rw [zb_X12_keep_2, if_pos hi1, z_add_id (a := 5) (b := i) (by omega) (by omega), lr_26 l0, la_92, if_pos bo, if_pos bi, z_lt_eq, lr_27 l1, la_93, if_pos bo, if_pos bi, z_lt_eq, lr_28 l2, la_94, if_pos bo, if_pos bi, z_lt_eq, lr_29 l3, la_95, if_pos bo, if_pos bi, z_lt_eq, lr_30 l4, la_96, if_pos bo, if_pos bi, z_lt_eq, z_w32_id (by omega) (by omega)]
    · unfold cnt5
      (repeat' split) <;> omega) (s := M) (by decide) ((cpd.rf 5 M).cg (fun a => by unfold cnt5; split <;> rfl))
  exact ⟨m, e, hI⟩
theorem k_4 {M : zM} (hR : LyR M) : ∃ m, z_ev (zcd_X12_keep zLa) 4 [zA 12 84, zI 0] [] M = z_ev (zcd_X12_keep zLa) 4 [zA 12 84, zI 20] [] m ∧ cpd 20 (cnt5 102 104 20) M m := by
  obtain ⟨m, e, hI⟩ := lp_ex (fun i (m : zM) => z_ev (zcd_X12_keep zLa) 4 [zA 12 84, zI i] [] m) (fun i m => cpd 20 (cnt5 102 104 i) M m) (n := 20) 0 (fun i m hi0 hi1 hI => by
    have bo : 0 ≤ 20 + i ∧ 20 + i < 40 := ⟨by omega, by omega⟩
    have bi : 0 ≤ i ∧ i < 40 := ⟨by omega, by omega⟩
    have z0 : (cnt5 102 104 i) 84 ≤ 0 := by show cnt5 102 104 i 84 ≤ 0; unfold cnt5; rw [if_neg (by omega)]; exact Int.le_refl _
    have y0 : (cnt5 102 104 i) 102 = i := by show cnt5 102 104 i 102 = i; unfold cnt5; rw [if_pos (by omega)]
    have l0 := hI.ly z0 hR
    have h0 := hI.wr (a0 := 102) y0 hi0 (by omega)
    have z1 : (fun a : Int => if a = 102 then i + 1 else (cnt5 102 104 i) a) 84 ≤ 0 := by dsimp only; rw [if_neg (by decide)]; unfold cnt5; rw [if_neg (by omega)]; exact Int.le_refl _
    have y1 : (fun a : Int => if a = 102 then i + 1 else (cnt5 102 104 i) a) 103 = i := by dsimp only; rw [if_neg (by decide)]; unfold cnt5; rw [if_pos (by omega)]
    have l1 := h0.ly z1 hR
    have h1 := h0.wr (a0 := 103) y1 hi0 (by omega)
    have z2 : (fun a : Int => if a = 103 then i + 1 else (fun a : Int => if a = 102 then i + 1 else (cnt5 102 104 i) a) a) 84 ≤ 0 := by dsimp only; rw [if_neg (by decide)]; rw [if_neg (by decide)]; unfold cnt5; rw [if_neg (by omega)]; exact Int.le_refl _
    have y2 : (fun a : Int => if a = 103 then i + 1 else (fun a : Int => if a = 102 then i + 1 else (cnt5 102 104 i) a) a) 104 = i := by dsimp only; rw [if_neg (by decide)]; rw [if_neg (by decide)]; unfold cnt5; rw [if_pos (by omega)]
    have l2 := h1.ly z2 hR
    have h2 := h1.wr (a0 := 104) y2 hi0 (by omega)
    refine ⟨_, ?_, h2.cg (fun a => ?_)⟩
    · rw [zb_X12_keep_4, if_pos hi1, z_add_id (a := 20) (b := i) (by omega) (by omega), lr_36 l0, la_102, if_pos bo, if_pos bi, z_lt_eq, lr_37 l1, la_103, if_pos bo, if_pos bi, z_lt_eq, lr_38 l2, la_104, if_pos bo, if_pos bi, z_lt_eq, z_w32_id (by omega) (by omega)]
    · unfold cnt5
      (repeat' split) <;> omega) (s := M) (by decide) ((cpd.rf 20 M).cg (fun a => by unfold cnt5; split <;> rfl))
  exact ⟨m, e, hI⟩
theorem k_5 {M : zM} (hR : LyR M) : ∃ m, z_ev (zcd_X12_keep zLa) 5 [zA 12 84, zI 0] [] M = z_ev (zcd_X12_keep zLa) 5 [zA 12 84, zI 3] [] m ∧ cpd 3 (cnt5 105 106 3) M m := by
  obtain ⟨m, e, hI⟩ := lp_ex (fun i (m : zM) => z_ev (zcd_X12_keep zLa) 5 [zA 12 84, zI i] [] m) (fun i m => cpd 3 (cnt5 105 106 i) M m) (n := 3) 0 (fun i m hi0 hi1 hI => by
    have bo : 0 ≤ 3 + i ∧ 3 + i < 6 := ⟨by omega, by omega⟩
    have bi : 0 ≤ i ∧ i < 6 := ⟨by omega, by omega⟩
    have z0 : (cnt5 105 106 i) 84 ≤ 0 := by show cnt5 105 106 i 84 ≤ 0; unfold cnt5; rw [if_neg (by omega)]; exact Int.le_refl _
    have y0 : (cnt5 105 106 i) 105 = i := by show cnt5 105 106 i 105 = i; unfold cnt5; rw [if_pos (by omega)]
    have l0 := hI.ly z0 hR
    have h0 := hI.wr (a0 := 105) y0 hi0 (by omega)
    have z1 : (fun a : Int => if a = 105 then i + 1 else (cnt5 105 106 i) a) 84 ≤ 0 := by dsimp only; rw [if_neg (by decide)]; unfold cnt5; rw [if_neg (by omega)]; exact Int.le_refl _
    have y1 : (fun a : Int => if a = 105 then i + 1 else (cnt5 105 106 i) a) 106 = i := by dsimp only; rw [if_neg (by decide)]; unfold cnt5; rw [if_pos (by omega)]
    have l1 := h0.ly z1 hR
    have h1 := h0.wr (a0 := 106) y1 hi0 (by omega)
    refine ⟨_, ?_, h1.cg (fun a => ?_)⟩
    · rw [zb_X12_keep_5, if_pos hi1, z_add_id (a := 3) (b := i) (by omega) (by omega), lr_39 l0, la_105, if_pos bo, if_pos bi, z_lt_eq, lr_40 l1, la_106, if_pos bo, if_pos bi, z_lt_eq, z_w32_id (by omega) (by omega)]
    · unfold cnt5
      (repeat' split) <;> omega) (s := M) (by decide) ((cpd.rf 3 M).cg (fun a => by unfold cnt5; split <;> rfl))
  exact ⟨m, e, hI⟩
theorem k_6 {M : zM} (hR : LyR M) : ∃ m, z_ev (zcd_X12_keep zLa) 6 [zA 12 84, zI 0] [] M = z_ev (zcd_X12_keep zLa) 6 [zA 12 84, zI 64] [] m ∧ cpd 64 (cnt5 107 109 64) M m := by
  obtain ⟨m, e, hI⟩ := lp_ex (fun i (m : zM) => z_ev (zcd_X12_keep zLa) 6 [zA 12 84, zI i] [] m) (fun i m => cpd 64 (cnt5 107 109 i) M m) (n := 64) 0 (fun i m hi0 hi1 hI => by
    have bo : 0 ≤ 64 + i ∧ 64 + i < 128 := ⟨by omega, by omega⟩
    have bi : 0 ≤ i ∧ i < 128 := ⟨by omega, by omega⟩
    have z0 : (cnt5 107 109 i) 84 ≤ 0 := by show cnt5 107 109 i 84 ≤ 0; unfold cnt5; rw [if_neg (by omega)]; exact Int.le_refl _
    have y0 : (cnt5 107 109 i) 107 = i := by show cnt5 107 109 i 107 = i; unfold cnt5; rw [if_pos (by omega)]
    have l0 := hI.ly z0 hR
    have h0 := hI.wr (a0 := 107) y0 hi0 (by omega)
    have z1 : (fun a : Int => if a = 107 then i + 1 else (cnt5 107 109 i) a) 84 ≤ 0 := by dsimp only; rw [if_neg (by decide)]; unfold cnt5; rw [if_neg (by omega)]; exact Int.le_refl _
    have y1 : (fun a : Int => if a = 107 then i + 1 else (cnt5 107 109 i) a) 108 = i := by dsimp only; rw [if_neg (by decide)]; unfold cnt5; rw [if_pos (by omega)]
    have l1 := h0.ly z1 hR
    have h1 := h0.wr (a0 := 108) y1 hi0 (by omega)
    have z2 : (fun a : Int => if a = 108 then i + 1 else (fun a : Int => if a = 107 then i + 1 else (cnt5 107 109 i) a) a) 84 ≤ 0 := by dsimp only; rw [if_neg (by decide)]; rw [if_neg (by decide)]; unfold cnt5; rw [if_neg (by omega)]; exact Int.le_refl _
    have y2 : (fun a : Int => if a = 108 then i + 1 else (fun a : Int => if a = 107 then i + 1 else (cnt5 107 109 i) a) a) 109 = i := by dsimp only; rw [if_neg (by decide)]; rw [if_neg (by decide)]; unfold cnt5; rw [if_pos (by omega)]
    have l2 := h1.ly z2 hR
    have h2 := h1.wr (a0 := 109) y2 hi0 (by omega)
    refine ⟨_, ?_, h2.cg (fun a => ?_)⟩
    · rw [zb_X12_keep_6, if_pos hi1, z_add_id (a := 64) (b := i) (by omega) (by omega), lr_41 l0, la_107, if_pos bo, if_pos bi, z_lt_eq, lr_42 l1, la_108, if_pos bo, if_pos bi, z_lt_eq, lr_43 l2, la_109, if_pos bo, if_pos bi, z_lt_eq, z_w32_id (by omega) (by omega)]
    · unfold cnt5
      (repeat' split) <;> omega) (s := M) (by decide) ((cpd.rf 64 M).cg (fun a => by unfold cnt5; split <;> rfl))
  exact ⟨m, e, hI⟩
theorem k_3 {M : zM} (hR : LyR M) (hb : bR M) : ∃ m, z_ev (zcd_X12_keep zLa) 3 [zA 12 84, zI 0] [] M = z_ev (zcd_X12_keep zLa) 3 [zA 12 84, zI 40] [] m ∧ cpd 60 (cnt5 97 101 40) M m := by
  obtain ⟨m, e, hI⟩ := lp_ex (fun i (m : zM) => z_ev (zcd_X12_keep zLa) 3 [zA 12 84, zI i] [] m) (fun i m => cpd 60 (cnt5 97 101 i) M m) (n := 40) 0 (fun i m hi0 hi1 hI => by
    have bo : 0 ≤ 60 + i ∧ 60 + i < 120 := ⟨by omega, by omega⟩
    have bi : 0 ≤ i ∧ i < 120 := ⟨by omega, by omega⟩
    have b97 : m 97 (60 + i) = 0 ∨ m 97 (60 + i) = 1 := by rw [hI 97 (60 + i), if_neg (by unfold cnt5; rw [if_pos (by omega)]; omega)]; exact hb _ (by omega) (by omega)
    have z0 : (cnt5 97 101 i) 84 ≤ 0 := by show cnt5 97 101 i 84 ≤ 0; unfold cnt5; rw [if_neg (by omega)]; exact Int.le_refl _
    have y0 : (cnt5 97 101 i) 97 = i := by show cnt5 97 101 i 97 = i; unfold cnt5; rw [if_pos (by omega)]
    have l0 := hI.ly z0 hR
    have h0 := hI.wr (a0 := 97) y0 hi0 (by omega)
    have z1 : (fun a : Int => if a = 97 then i + 1 else (cnt5 97 101 i) a) 84 ≤ 0 := by dsimp only; rw [if_neg (by decide)]; unfold cnt5; rw [if_neg (by omega)]; exact Int.le_refl _
    have y1 : (fun a : Int => if a = 97 then i + 1 else (cnt5 97 101 i) a) 98 = i := by dsimp only; rw [if_neg (by decide)]; unfold cnt5; rw [if_pos (by omega)]
    have l1 := h0.ly z1 hR
    have h1 := h0.wr (a0 := 98) y1 hi0 (by omega)
    have z2 : (fun a : Int => if a = 98 then i + 1 else (fun a : Int => if a = 97 then i + 1 else (cnt5 97 101 i) a) a) 84 ≤ 0 := by dsimp only; rw [if_neg (by decide)]; rw [if_neg (by decide)]; unfold cnt5; rw [if_neg (by omega)]; exact Int.le_refl _
    have y2 : (fun a : Int => if a = 98 then i + 1 else (fun a : Int => if a = 97 then i + 1 else (cnt5 97 101 i) a) a) 99 = i := by dsimp only; rw [if_neg (by decide)]; rw [if_neg (by decide)]; unfold cnt5; rw [if_pos (by omega)]
    have l2 := h1.ly z2 hR
    have h2 := h1.wr (a0 := 99) y2 hi0 (by omega)
    have z3 : (fun a : Int => if a = 99 then i + 1 else (fun a : Int => if a = 98 then i + 1 else (fun a : Int => if a = 97 then i + 1 else (cnt5 97 101 i) a) a) a) 84 ≤ 0 := by dsimp only; rw [if_neg (by decide)]; rw [if_neg (by decide)]; rw [if_neg (by decide)]; unfold cnt5; rw [if_neg (by omega)]; exact Int.le_refl _
    have y3 : (fun a : Int => if a = 99 then i + 1 else (fun a : Int => if a = 98 then i + 1 else (fun a : Int => if a = 97 then i + 1 else (cnt5 97 101 i) a) a) a) 100 = i := by dsimp only; rw [if_neg (by decide)]; rw [if_neg (by decide)]; rw [if_neg (by decide)]; unfold cnt5; rw [if_pos (by omega)]
    have l3 := h2.ly z3 hR
    have h3 := h2.wr (a0 := 100) y3 hi0 (by omega)
    have z4 : (fun a : Int => if a = 100 then i + 1 else (fun a : Int => if a = 99 then i + 1 else (fun a : Int => if a = 98 then i + 1 else (fun a : Int => if a = 97 then i + 1 else (cnt5 97 101 i) a) a) a) a) 84 ≤ 0 := by dsimp only; rw [if_neg (by decide)]; rw [if_neg (by decide)]; rw [if_neg (by decide)]; rw [if_neg (by decide)]; unfold cnt5; rw [if_neg (by omega)]; exact Int.le_refl _
    have y4 : (fun a : Int => if a = 100 then i + 1 else (fun a : Int => if a = 99 then i + 1 else (fun a : Int => if a = 98 then i + 1 else (fun a : Int => if a = 97 then i + 1 else (cnt5 97 101 i) a) a) a) a) 101 = i := by dsimp only; rw [if_neg (by decide)]; rw [if_neg (by decide)]; rw [if_neg (by decide)]; rw [if_neg (by decide)]; unfold cnt5; rw [if_pos (by omega)]
    have l4 := h3.ly z4 hR
    have h4 := h3.wr (a0 := 101) y4 hi0 (by omega)
    refine ⟨_, ?_, h4.cg (fun a => ?_)⟩
    · rw [zb_X12_keep_3, if_pos hi1, z_add_id (a := 60) (b := i) (by omega) (by omega), zr_X12_copies, zb_X12_copies_0, lr_31 l0, la_97, if_pos bo, if_pos ⟨bi, b97⟩, z_lt_eq, lr_32 l1, la_98, if_pos bo, if_pos bi, z_lt_eq, lr_33 l2, la_99, if_pos bo, if_pos bi, z_lt_eq, lr_34 l3, la_100, if_pos bo, if_pos bi, z_lt_eq, lr_35 l4, la_101, if_pos bo, if_pos bi, z_lt_eq, z_out_some rfl, z_bV_mk, z_w32_id (by omega) (by omega)]
    · unfold cnt5
      (repeat' split) <;> omega) (s := M) (by decide) ((cpd.rf 60 M).cg (fun a => by unfold cnt5; split <;> rfl))
  exact ⟨m, e, hI⟩
/-- keep: what was read is what there is -/
theorem r_keep {M : zM} (hR : LyR M) (hb : bR M) : ∃ m, zm_X12_keep zLa [zA 12 84] M = some ([], m) ∧ (m 84 11 = M 84 16 ∧ m 84 12 = M 84 17 ∧ m 84 13 = M 84 18 ∧ m 84 14 = M 84 19 ∧ m 84 15 = M 84 20 ∧ m 84 44 = 0 ∧ m 84 45 = 199 ∧ m 84 46 = 0) ∧ (∀ a k, 87 ≤ a → a ≤ 91 → 0 ≤ k → k < 8 → m a k = M a (8 + k)) ∧ (∀ a k, 92 ≤ a → a ≤ 96 → 0 ≤ k → k < 5 → m a k = M a (5 + k)) ∧ (∀ a k, 97 ≤ a → a ≤ 101 → 0 ≤ k → k < 40 → m a k = M a (60 + k)) ∧ (∀ a k, 102 ≤ a → a ≤ 104 → 0 ≤ k → k < 20 → m a k = M a (20 + k)) ∧ (∀ a k, 105 ≤ a → a ≤ 106 → 0 ≤ k → k < 3 → m a k = M a (3 + k)) ∧ (∀ a k, 107 ≤ a → a ≤ 109 → 0 ≤ k → k < 64 → m a k = M a (64 + k)) ∧ ∀ a k, ¬ (a = 84 ∧ ((11 ≤ k ∧ k ≤ 15) ∨ (44 ≤ k ∧ k ≤ 46))) → ¬ (87 ≤ a ∧ a ≤ 91 ∧ 0 ≤ k ∧ k < 8) → ¬ (92 ≤ a ∧ a ≤ 96 ∧ 0 ≤ k ∧ k < 5) → ¬ (97 ≤ a ∧ a ≤ 101 ∧ 0 ≤ k ∧ k < 40) → ¬ (102 ≤ a ∧ a ≤ 104 ∧ 0 ≤ k ∧ k < 20) → ¬ (105 ≤ a ∧ a ≤ 106 ∧ 0 ≤ k ∧ k < 3) → ¬ (107 ≤ a ∧ a ≤ 109 ∧ 0 ≤ k ∧ k < 64) → m a k = M a k := by
  have a1 : ∀ (x : zM) (k v : Int), (11 ≤ k ∧ k ≤ 15) ∨ (44 ≤ k ∧ k ≤ 46) → LyR x → LyR (z_wr x 84 k v) := fun x k v hk h => h.ag (wr_ag (by unfold pR; omega))
  let M0 := z_wr (z_wr (z_wr (z_wr (z_wr M 84 11 (M 84 16)) 84 12 (M 84 17)) 84 13 (M 84 18)) 84 14 (M 84 19)) 84 15 (M 84 20)
  have f0 : ∀ a k, ¬ (a = 84 ∧ 11 ≤ k ∧ k ≤ 15) → M0 a k = M a k := fun a k q => by
    show z_wr (z_wr (z_wr (z_wr (z_wr M 84 11 (M 84 16)) 84 12 (M 84 17)) 84 13 (M 84 18)) 84 14 (M 84 19)) 84 15 (M 84 20) a k = M a k
    rw [z_wr_ne (by omega), z_wr_ne (by omega), z_wr_ne (by omega), z_wr_ne (by omega), z_wr_ne (by omega)]
  have v0 : M0 84 11 = M 84 16 ∧ M0 84 12 = M 84 17 ∧ M0 84 13 = M 84 18 ∧ M0 84 14 = M 84 19 ∧ M0 84 15 = M 84 20 := by
    refine ⟨?_, ?_, ?_, ?_, ?_⟩ <;> simp [M0, z_wr]
  have l0 : LyR M0 := a1 _ _ _ (by omega) (a1 _ _ _ (by omega) (a1 _ _ _ (by omega) (a1 _ _ _ (by omega) (a1 _ _ _ (by omega) hR))))
  have nz : ∀ l u i : Int, 84 < l → cnt5 l u i 84 ≤ 0 := fun l u i h => by unfold cnt5; rw [if_neg (by omega)]; exact Int.le_refl _
  have b0 : bR M0 := bR.ag (fun k => f0 _ _ (by omega)) hb
  obtain ⟨m1, e1, c1⟩ := k_1 l0
  have l1 := c1.ly (nz _ _ _ (by decide)) l0
  obtain ⟨m2, e2, c2⟩ := k_2 l1
  have l2 := c2.ly (nz _ _ _ (by decide)) l1
  have b2 : bR m2 := bR.ag (fun k => by rw [c2 97 k, if_neg (by unfold cnt5; rw [if_neg (by decide)]; omega), c1 97 k, if_neg (by unfold cnt5; rw [if_neg (by decide)]; omega)]) b0
  obtain ⟨m3, e3, c3⟩ := k_3 l2 b2
  have l3 := c3.ly (nz _ _ _ (by decide)) l2
  obtain ⟨m4, e4, c4⟩ := k_4 l3
  have l4 := c4.ly (nz _ _ _ (by decide)) l3
  obtain ⟨m5, e5, c5⟩ := k_5 l4
  have l5 := c5.ly (nz _ _ _ (by decide)) l4
  obtain ⟨m6, e6, c6⟩ := k_6 l5
  have run : z_ev (zcd_X12_keep zLa) 0 [zA 12 84, zU] [] M = some (.inl ([], z_wr (z_wr (z_wr m6 84 44 0) 84 45 199) 84 46 0)) := by
    have w1 : z_wr M 84 11 (M 84 16) 84 17 = M 84 17 := z_wr_ne (by omega)
    have w2 : z_wr (z_wr M 84 11 (M 84 16)) 84 12 (M 84 17) 84 18 = M 84 18 := by rw [z_wr_ne (by omega), z_wr_ne (by omega)]
    have w3 : z_wr (z_wr (z_wr M 84 11 (M 84 16)) 84 12 (M 84 17)) 84 13 (M 84 18) 84 19 = M 84 19 := by rw [z_wr_ne (by omega), z_wr_ne (by omega), z_wr_ne (by omega)]
    have w4 : z_wr (z_wr (z_wr (z_wr M 84 11 (M 84 16)) 84 12 (M 84 17)) 84 13 (M 84 18)) 84 14 (M 84 19) 84 20 = M 84 20 := by rw [z_wr_ne (by omega), z_wr_ne (by omega), z_wr_ne (by omega), z_wr_ne (by omega)]
    rw [zb_X12_keep_0, z_lt_eq, w1, z_lt_eq, w2, z_lt_eq, w3, z_lt_eq, w4, z_lt_eq]
    refine Eq.trans e1 ?_
    rw [zb_X12_keep_1, if_neg (by decide), e2, zb_X12_keep_2, if_neg (by decide), e3, zb_X12_keep_3, if_neg (by decide), e4, zb_X12_keep_4, if_neg (by decide), e5, zb_X12_keep_5, if_neg (by decide), e6, zb_X12_keep_6, if_neg (by decide), z_lt_eq, z_lt_eq, z_lt_eq]
  have no : ∀ {o l u i : Int} {x y : zM}, cpd o (cnt5 l u i) x y → ∀ a k, ¬ (l ≤ a ∧ a ≤ u ∧ 0 ≤ k ∧ k < i) → y a k = x a k := fun {o l u i x y} h a k q => by
    rw [h a k]
    by_cases r : l ≤ a ∧ a ≤ u
    · rw [if_neg (by unfold cnt5; rw [if_pos r]; omega)]
    · rw [if_neg (by unfold cnt5; rw [if_neg r]; omega)]
  have ye : ∀ {o l u i : Int} {x y : zM}, cpd o (cnt5 l u i) x y → ∀ a k, l ≤ a → a ≤ u → 0 ≤ k → k < i → y a k = x a (o + k) := fun {o l u i x y} h a k q1 q2 q3 q4 => by
    rw [h a k, if_pos (by unfold cnt5; rw [if_pos ⟨q1, q2⟩]; exact ⟨q3, q4⟩)]
  have fE : ∀ a k, a ≠ 84 → z_wr (z_wr (z_wr m6 84 44 0) 84 45 199) 84 46 0 a k = m6 a k := fun a k q => by rw [z_wr_ne (by omega), z_wr_ne (by omega), z_wr_ne (by omega)]
  have g84 : ∀ k, m6 84 k = M0 84 k := fun k => by rw [no c6 84 k (by omega), no c5 84 k (by omega), no c4 84 k (by omega), no c3 84 k (by omega), no c2 84 k (by omega), no c1 84 k (by omega)]
  refine ⟨_, z_out_some run, ⟨?_, ?_, ?_, ?_, ?_, ?_, ?_, ?_⟩, fun a k x y z w => ?_, fun a k x y z w => ?_, fun a k x y z w => ?_, fun a k x y z w => ?_, fun a k x y z w => ?_, fun a k x y z w => ?_, fun a k q0 q1 q2 q3 q4 q5 q6 => ?_⟩
  · rw [z_wr_ne (by omega), z_wr_ne (by omega), z_wr_ne (by omega), g84]; exact v0.1
  · rw [z_wr_ne (by omega), z_wr_ne (by omega), z_wr_ne (by omega), g84]; exact v0.2.1
  · rw [z_wr_ne (by omega), z_wr_ne (by omega), z_wr_ne (by omega), g84]; exact v0.2.2.1
  · rw [z_wr_ne (by omega), z_wr_ne (by omega), z_wr_ne (by omega), g84]; exact v0.2.2.2.1
  · rw [z_wr_ne (by omega), z_wr_ne (by omega), z_wr_ne (by omega), g84]; exact v0.2.2.2.2
  · rw [z_wr_ne (by omega), z_wr_ne (by omega), z_wr_eq]
  · rw [z_wr_ne (by omega), z_wr_eq]
  · rw [z_wr_eq]
  · rw [fE _ _ (by omega), no c6 _ _ (by omega), no c5 _ _ (by omega), no c4 _ _ (by omega), no c3 _ _ (by omega), no c2 _ _ (by omega), ye c1 a k x y z w, f0 _ _ (by omega)]
  · rw [fE _ _ (by omega), no c6 _ _ (by omega), no c5 _ _ (by omega), no c4 _ _ (by omega), no c3 _ _ (by omega), ye c2 a k x y z w, no c1 _ _ (by omega), f0 _ _ (by omega)]
  · rw [fE _ _ (by omega), no c6 _ _ (by omega), no c5 _ _ (by omega), no c4 _ _ (by omega), ye c3 a k x y z w, no c2 _ _ (by omega), no c1 _ _ (by omega), f0 _ _ (by omega)]
  · rw [fE _ _ (by omega), no c6 _ _ (by omega), no c5 _ _ (by omega), ye c4 a k x y z w, no c3 _ _ (by omega), no c2 _ _ (by omega), no c1 _ _ (by omega), f0 _ _ (by omega)]
  · rw [fE _ _ (by omega), no c6 _ _ (by omega), ye c5 a k x y z w, no c4 _ _ (by omega), no c3 _ _ (by omega), no c2 _ _ (by omega), no c1 _ _ (by omega), f0 _ _ (by omega)]
  · rw [fE _ _ (by omega), ye c6 a k x y z w, no c5 _ _ (by omega), no c4 _ _ (by omega), no c3 _ _ (by omega), no c2 _ _ (by omega), no c1 _ _ (by omega), f0 _ _ (by omega)]
  · by_cases r : a = 84
    · subst r
      rw [z_wr_ne (by omega), z_wr_ne (by omega), z_wr_ne (by omega), g84, f0 _ _ (by omega)]
    · rw [fE _ _ r, no c6 _ _ (by omega), no c5 _ _ (by omega), no c4 _ _ (by omega), no c3 _ _ (by omega), no c2 _ _ (by omega), no c1 _ _ (by omega), f0 _ _ (by omega)]
end
