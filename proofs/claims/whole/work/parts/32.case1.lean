/-! ===== the view of a case, what it keeps, and the class's small readings of it ===== -/
section
variable (V : zM)
abbrev vnT : Int := V 1 0
abbrev vnS : Int := V 7 0
abbrev vnL : Int := V 13 0
abbrev vnP : Int := V 19 0
abbrev vH : Int := V 0 9
/-- a LINE is HEARD; a WORD; a WORD of a TELLER -/
abbrev sHe (k : Int) : Prop := 0 ≤ k ∧ k < V 13 0 ∧ V 16 k ≤ V 0 9
abbrev sHw (k : Int) : Prop := sHe V k ∧ V 14 k ≠ 0
abbrev sHt (k t : Int) : Prop := sHe V k ∧ V 14 k ≠ 0 ∧ V 15 k = t
abbrev sRi (k : Int) : Prop := V 18 k = V 4 (V 17 k)
/-- an ask or a word of the same TELLER and THING -/
abbrev sSt (a b : Int) : Prop := V 15 a = V 15 b ∧ V 17 a = V 17 b
/-- what a case keeps -/
def vOkN : Prop := (0 ≤ V 1 0 ∧ V 1 0 ≤ 8) ∧ (0 ≤ V 7 0 ∧ V 7 0 ≤ 5) ∧ (0 ≤ V 13 0 ∧ V 13 0 ≤ 60) ∧ (0 ≤ V 19 0 ∧ V 19 0 ≤ 20) ∧ (0 ≤ V 13 1 ∧ V 13 1 ≤ V 13 0) ∧ (0 ≤ V 0 9 ∧ V 0 9 ≤ 199)
def vOkT : Prop := ∀ k, 0 ≤ k → k < V 1 0 → (2 ≤ V 3 k ∧ V 3 k ≤ 9) ∧ (0 ≤ V 4 k ∧ V 4 k < V 3 k) ∧ (-1 ≤ V 5 k ∧ V 5 k ≤ 199) ∧ (-1 ≤ V 6 k ∧ V 6 k ≤ 199)
def vOkS : Prop := ∀ k, 0 ≤ k → k < V 7 0 → (1 ≤ V 9 k ∧ V 9 k ≤ 99) ∧ (0 ≤ V 10 k ∧ V 10 k ≤ V 11 k ∧ V 11 k ≤ 199) ∧ (V 12 k = -1 ∨ (V 10 k ≤ V 12 k ∧ V 12 k ≤ V 11 k))
def vOkL : Prop := ∀ k, 0 ≤ k → k < V 13 0 → (V 14 k = 0 ∨ V 14 k = 1) ∧ (0 ≤ V 15 k ∧ V 15 k < V 7 0) ∧ (V 10 (V 15 k) ≤ V 16 k ∧ V 16 k ≤ V 11 (V 15 k)) ∧ (0 ≤ V 17 k ∧ V 17 k < V 1 0) ∧ (-1 ≤ V 18 k ∧ V 18 k < V 3 (V 17 k)) ∧ (V 14 k ≠ 0 → 0 ≤ V 18 k)
def vOkM : Prop := ∀ i j, 0 ≤ i → i < j → j < V 13 0 → V 15 i = V 15 j → V 16 i ≤ V 16 j
def vOkP : Prop := ∀ k, 0 ≤ k → k < V 19 0 → (0 ≤ V 20 k ∧ V 20 k < V 7 0) ∧ (0 ≤ V 21 k ∧ V 21 k < V 1 0) ∧ (0 ≤ V 22 k ∧ V 22 k < V 3 (V 21 k))
def vOk : Prop := vOkN V ∧ vOkT V ∧ vOkS V ∧ vOkL V ∧ vOkM V ∧ vOkP V
end
/-- a class's case at c -/
def cOk (M : zM) (c : Int) : Prop := zCc c ∧ LayC M c ∧ vOk (Vc M c)
section
variable {M : zM} {c : Int}
theorem e_X0_isHeard (h : cOk M c) (k : Int) : zm_X0_isHeard zLa [zA 0 c, zI k] M = some ([zI (b2i (sHe (Vc M c) k))], M) := by
  obtain ⟨hc, hL, hN, -⟩ := h
  have hn := hN.2.2.1
  rw [zr_X0_isHeard]
  refine z_out_some ?_
  rw [zb_X0_isHeard_0]
  simp only [lc_0_2 hL, lc_13_4 hL, la_c16 hc]
  refine z_b2i (fun hp => ?_) (fun hp => ?_)
  · obtain ⟨h1, h2, h3⟩ := hp
    rw [if_neg (by omega), if_pos h2, if_pos (by simp only [Vc] at *; omega), if_pos (by simpa using h3)]
  · by_cases h1 : k < 0
    · rw [if_pos h1]
    · rw [if_neg h1]
      by_cases h2 : k < M (c + 13) 0
      · rw [if_pos h2, if_pos (by simp only [Vc] at *; omega), if_neg (fun q => hp ⟨by omega, h2, by simpa using q⟩)]
      · rw [if_neg h2]
theorem e_X0_isHeardWord (h : cOk M c) (k : Int) : zm_X0_isHeardWord zLa [zA 0 c, zI k] M = some ([zI (b2i (sHw (Vc M c) k))], M) := by
  have h0 := h
  obtain ⟨hc, hL, hN, -, -, hl, -⟩ := h
  have hn := hN.2.2.1
  rw [zr_X0_isHeardWord]
  refine z_out_some ?_
  rw [zb_X0_isHeardWord_0, z_bI_some (e_X0_isHeard h0 k)]
  simp only [lc_0_2 hL, lc_13_2 hL, la_c14 hc]
  refine z_b2i (fun hp => ?_) (fun hp => ?_)
  · rw [b2i_pos hp.1, if_neg (by decide), if_pos (by have := hp.1; simp only [Vc] at *; omega)]
    have h1 := (hl k hp.1.1 hp.1.2.1).1
    rw [if_neg hp.2]
  · by_cases h1 : sHe (Vc M c) k
    · rw [b2i_pos h1, if_neg (by decide), if_pos (by simp only [Vc] at *; omega), if_pos (Classical.not_not.mp fun q => hp ⟨h1, q⟩)]
    · rw [b2i_neg h1, if_pos rfl]
end
