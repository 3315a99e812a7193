/-! ===== the view of a case, what it keeps, and the class's small readings of it ===== -/
section
variable (V : zM)
/-- a LINE is HEARD; a WORD; a WORD of a TELLER -/
abbrev sHe (k : Int) : Prop := 0 ≤ k ∧ k < V 13 0 ∧ V 16 k ≤ V 0 9
abbrev sHw (k : Int) : Prop := 0 ≤ k ∧ k < V 13 0 ∧ V 16 k ≤ V 0 9 ∧ V 14 k ≠ 0
abbrev sHt (k t : Int) : Prop := 0 ≤ k ∧ k < V 13 0 ∧ V 16 k ≤ V 0 9 ∧ V 14 k ≠ 0 ∧ V 15 k = t
abbrev sRi (k : Int) : Prop := V 18 k = V 4 (V 17 k)
/-- an ask or a word of the same TELLER and THING -/
abbrev sSt (a b : Int) : Prop := V 15 a = V 15 b ∧ V 17 a = V 17 b
/-- what a case keeps -/
abbrev vOkN : Prop := 0 ≤ V 1 0 ∧ V 1 0 ≤ 8 ∧ 0 ≤ V 7 0 ∧ V 7 0 ≤ 5 ∧ 0 ≤ V 13 0 ∧ V 13 0 ≤ 60 ∧ 0 ≤ V 19 0 ∧ V 19 0 ≤ 20 ∧ 0 ≤ V 13 1 ∧ V 13 1 ≤ V 13 0 ∧ 0 ≤ V 0 9 ∧ V 0 9 ≤ 199
abbrev vOkT : Prop := ∀ k, 0 ≤ k → k < V 1 0 → 2 ≤ V 3 k ∧ V 3 k ≤ 9 ∧ 0 ≤ V 4 k ∧ V 4 k < V 3 k ∧ -1 ≤ V 5 k ∧ V 5 k ≤ 199 ∧ -1 ≤ V 6 k ∧ V 6 k ≤ 199
abbrev vOkS : Prop := ∀ k, 0 ≤ k → k < V 7 0 → 1 ≤ V 9 k ∧ V 9 k ≤ 99 ∧ 0 ≤ V 10 k ∧ V 10 k ≤ V 11 k ∧ V 11 k ≤ 199 ∧ (V 12 k = -1 ∨ (V 10 k ≤ V 12 k ∧ V 12 k ≤ V 11 k))
abbrev vOkL : Prop := ∀ k, 0 ≤ k → k < V 13 0 → (V 14 k = 0 ∨ V 14 k = 1) ∧ 0 ≤ V 15 k ∧ V 15 k < V 7 0 ∧ V 10 (V 15 k) ≤ V 16 k ∧ V 16 k ≤ V 11 (V 15 k) ∧ 0 ≤ V 17 k ∧ V 17 k < V 1 0 ∧ -1 ≤ V 18 k ∧ V 18 k < V 3 (V 17 k) ∧ (V 14 k ≠ 0 → 0 ≤ V 18 k)
abbrev vOkM : Prop := ∀ i j, 0 ≤ i → i < j → j < V 13 0 → V 15 i = V 15 j → V 16 i ≤ V 16 j
abbrev vOkP : Prop := ∀ k, 0 ≤ k → k < V 19 0 → 0 ≤ V 20 k ∧ V 20 k < V 7 0 ∧ 0 ≤ V 21 k ∧ V 21 k < V 1 0 ∧ 0 ≤ V 22 k ∧ V 22 k < V 3 (V 21 k)
abbrev vOk : Prop := vOkN V ∧ vOkT V ∧ vOkS V ∧ vOkL V ∧ vOkM V ∧ vOkP V
end
/-- a class's case at c -/
abbrev cOk (M : zM) (c : Int) (V : zM) : Prop := zCc c ∧ LayC M c ∧ cEq M c V ∧ vOk V
section
variable {M V : zM} {c : Int}
theorem e_X0_isHeard (h : cOk M c V) (k : Int) : zm_X0_isHeard zLa [zA 0 c, zI k] M = some ([zI (b2i (sHe V k))], M) := by
  obtain ⟨hc, hL, hV, hN, hT, hS, hl, hm, hp⟩ := h
  have hΛ := zLc_of hc
  rw [zr_X0_isHeard]
  refine z_out_some ?_
  rw [zb_X0_isHeard_0]
  simp only [hL, hΛ]
  simp only [hV]
  repeat' split
  all_goals first | (rw [b2i_pos (by omega)]; done) | (rw [b2i_neg (by omega)]; done) | (exfalso; omega)
theorem e_X0_isHeardWord (h : cOk M c V) (k : Int) : zm_X0_isHeardWord zLa [zA 0 c, zI k] M = some ([zI (b2i (sHw V k))], M) := by
  have h0 := e_X0_isHeard h k
  obtain ⟨hc, hL, hV, hN, hT, hS, hl, hm, hp⟩ := h
  have hΛ := zLc_of hc
  rw [zr_X0_isHeardWord]
  refine z_out_some ?_
  rw [zb_X0_isHeardWord_0, z_bI_some h0]
  simp only [hL, hΛ]
  simp only [hV, b2i_eq0]
  repeat' split
  all_goals first | (rw [b2i_pos (by omega)]; done) | (rw [b2i_neg (by omega)]; done) | (exfalso; omega)
theorem e_X0_isHeardWordOf (h : cOk M c V) (k t : Int) : zm_X0_isHeardWordOf zLa [zA 0 c, zI k, zI t] M = some ([zI (b2i (sHt V k t))], M) := by
  have h0 := e_X0_isHeard h k
  obtain ⟨hc, hL, hV, hN, hT, hS, hl, hm, hp⟩ := h
  have hΛ := zLc_of hc
  rw [zr_X0_isHeardWordOf]
  refine z_out_some ?_
  rw [zb_X0_isHeardWordOf_0, z_bI_some h0]
  simp only [hL, hΛ]
  simp only [hV, b2i_eq0]
  repeat' split
  all_goals first | (rw [b2i_pos (by omega)]; done) | (rw [b2i_neg (by omega)]; done) | (exfalso; omega)
theorem e_X0_isRight (h : cOk M c V) {k : Int} (h0 : 0 ≤ k) (h1 : k < V 13 0) : zm_X0_isRight zLa [zA 0 c, zI k] M = some ([zI (b2i (sRi V k))], M) := by
  obtain ⟨hc, hL, hV, hN, hT, hS, hl, hm, hp⟩ := h
  have hΛ := zLc_of hc
  have hk := hl k h0 h1
  rw [zr_X0_isRight]
  refine z_out_some ?_
  rw [zb_X0_isRight_0]
  simp only [hL, hΛ]
  simp only [hV]
  repeat' split
  all_goals first | (rw [b2i_pos (by omega)]; done) | (rw [b2i_neg (by omega)]; done) | (exfalso; omega)
theorem e_X0_heardLines (h : cOk M c V) : zm_X0_heardLines zLa [zA 0 c] M = some ([zI (cnt (sHe V) (V 13 0))], M) := by
  have h0 := e_X0_isHeard h
  obtain ⟨hc, hL, hV, hN, hT, hS, hl, hm, hp⟩ := h
  have hΛ := zLc_of hc
  rw [zr_X0_heardLines]
  refine z_out_some ?_
  rw [zb_X0_heardLines_0]
  obtain ⟨s', e, hI⟩ := lp_up (fun i (a : Int) => z_ev (zcd_X0_heardLines zLa) 1 [zA 0 c, zI a, zI i] [] M) (fun i a => a + b2i (sHe V i)) (fun i a => a = cnt (sHe V) i) (n := V 13 0) (fun i a hi0 hi1 hI => by
    refine ⟨?_, by rw [hI, cnt_s _ hi0]⟩
    have hr := cnt_rng (sHe V) hi0
    rw [zb_X0_heardLines_1, z_bI_some (h0 i)]
    simp only [hL, hΛ]
    simp only [hV, b2i_eq0]
    rw [if_pos hi1, z_w32_id (by omega) (by omega)]
    split
    · rename_i hn; rw [b2i_neg hn, Int.add_zero]
    · rename_i hn; rw [b2i_pos (Classical.not_not.mp hn), z_w32_id (by omega) (by omega)]) (V 13 0).toNat 0 0 (by omega) (by omega) rfl
  try dsimp only at e
  rw [e, zb_X0_heardLines_1]
  simp only [hL, hΛ]
  simp only [hV]
  rw [if_neg (by omega), hI]
end
