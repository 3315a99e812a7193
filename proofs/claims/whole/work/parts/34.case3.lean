/-! ===== the class: bits of a WORD, page, left out, clashes, supposed ===== -/
section
variable {M V : zM} {c : Int}
abbrev sFst (V : zM) (k : Int) : Prop := ∀ i, 0 ≤ i → i < k → ¬ (V 14 i ≠ 0 ∧ sSt V i k)
noncomputable abbrev sLed (V : zM) (k : Int) : Int := lst (fun i => V 14 i = 0 ∧ sSt V i k ∧ V 18 i = V 18 k) k
abbrev sPub (V : zM) (k : Int) : Prop := sRi V k ∧ sHad (V 5 (V 17 k)) (V 16 k)
noncomputable def sBits (V : zM) (k : Int) : Int := b2i (sRi V k) + 2 * b2i (sFst V k) + 4 * b2i (¬ sLed V k = -1) + 8 * b2i (sPub V k) + 16 * b2i (sOff V k) + 32 * b2i (sNew V k) + 64 * b2i (sFst V k ∧ sLed V k = -1 ∧ ¬ sPub V k ∧ ¬ sOff V k)
theorem b2i_and (p q : Prop) : b2i (p ∧ q) = b2i p * b2i q := by
  rcases Classical.em p with a | a
  · rw [b2i_pos a, b2i_congr (q := q) ⟨fun r => r.2, fun r => ⟨a, r⟩⟩, Int.one_mul]
  · rw [b2i_neg a, b2i_neg (fun r => a r.1), Int.zero_mul]
theorem b2i_not (p : Prop) : b2i (¬ p) = 1 - b2i p := by
  rcases Classical.em p with a | a
  · rw [b2i_pos a, b2i_neg (fun r => r a)]; rfl
  · rw [b2i_neg a, b2i_pos a]; rfl
theorem sBits_eq (V : zM) (k : Int) : sBits V k = b2i (sRi V k) + 2 * b2i (sFst V k) + 4 * (1 - b2i (sLed V k = -1)) + 8 * (b2i (sRi V k) * b2i (sHad (V 5 (V 17 k)) (V 16 k))) + 16 * b2i (sOff V k) + 32 * b2i (sNew V k) + 64 * (b2i (sFst V k) * (b2i (sLed V k = -1) * ((1 - b2i (sRi V k) * b2i (sHad (V 5 (V 17 k)) (V 16 k))) * (1 - b2i (sOff V k))))) := by
  have e1 : b2i (sPub V k) = b2i (sRi V k) * b2i (sHad (V 5 (V 17 k)) (V 16 k)) := b2i_and _ _
  have e2 : b2i (¬ sLed V k = -1) = 1 - b2i (sLed V k = -1) := b2i_not _
  have e3 : b2i (sFst V k ∧ sLed V k = -1 ∧ ¬ sPub V k ∧ ¬ sOff V k) = b2i (sFst V k) * (b2i (sLed V k = -1) * ((1 - b2i (sPub V k)) * (1 - b2i (sOff V k)))) := by rw [b2i_and (sFst V k), b2i_and (sLed V k = -1), b2i_and (¬ sPub V k), b2i_not (sPub V k), b2i_not (sOff V k)]
  unfold sBits
  rw [e3, e2, e1]
theorem e_first0 (h : cOk M c V) {k : Int} (h0 : 0 ≤ k) (h1 : k < V 13 0) : zm_X0_isFirst zLa [zA 0 c, zI k, zI 0] M = some ([zI (b2i (sFst V k))], M) := by
  rw [e_X0_isFirst h h0 h1 0]
  obtain ⟨hc, hL, hV, hN, hT, hS, hl, hm, hp⟩ := h
  rw [b2i_congr (q := sFst V k)]
  constructor
  · intro q i a b r
    have h2 := hl i a (by omega)
    have h3 := hS (V 15 i) (by omega) (by omega)
    exact q i a b ⟨r.1, r.2, by omega⟩
  · intro q i a b r
    exact q i a b ⟨r.1, r.2.1⟩
set_option maxHeartbeats 4000000 in
theorem e_X0_bitsOf (h : cOk M c V) {k : Int} (h0 : 0 ≤ k) (h1 : k < V 13 0) : zm_X0_bitsOf zLa [zA 0 c, zI k] M = some ([zI (sBits V k)], M) := by
  have er := e_X0_isRight h h0 h1
  have ef := e_first0 h h0 h1
  have el : zm_X0_ledBy zLa [zA 0 c, zI k] M = some ([zI (sLed V k)], M) := e_X0_ledBy h h0 h1
  have eo := e_X0_isOff h h0 h1
  have en := e_X0_isNew h h0 h1
  obtain ⟨hc, hL, hV, hN, hT, hS, hl, hm, hp⟩ := h
  have hΛ := zLc_of hc
  have hk := hl k h0 h1
  have hb : k < 60 := by omega
  have hb2 : 0 ≤ V 17 k := by omega
  have hb3 : V 17 k < 8 := by omega
  rw [zr_X0_bitsOf]
  refine z_out_some ?_
  simp only [zb_X0_bitsOf_0, zb_X0_bitsOf_1, zb_X0_bitsOf_2, zb_X0_bitsOf_3, er, ef, el, eo, en, e_X11_hadBy, z_bI_mk, hL, hΛ]
  simp only [hV, h0, hb, hb2, hb3, and_self, if_true]
  have hno : b2i (sOff V k) = 1 → b2i (sRi V k) = 1 := fun q => b2i_pos (((b2i_ne0 (p := sOff V k)).mp (by rw [q]; decide)).1)
  have hnn : b2i (sNew V k) = 1 → b2i (sRi V k) = 1 := fun q => b2i_pos (((b2i_ne0 (p := sNew V k)).mp (by rw [q]; decide)).1)
  rw [sBits_eq]
  have zR := b2i_01 (sRi V k)
  have zF := b2i_01 (sFst V k)
  have zH := b2i_01 (sHad (V 5 (V 17 k)) (V 16 k))
  have zO := b2i_01 (sOff V k)
  have zN := b2i_01 (sNew V k)
  generalize b2i (sRi V k) = pR at *
  generalize b2i (sFst V k) = pF at *
  generalize sLed V k = pL at *
  generalize b2i (sHad (V 5 (V 17 k)) (V 16 k)) = pH at *
  generalize b2i (sOff V k) = pO at *
  generalize b2i (sNew V k) = pN at *
  have hno0 : pR = 0 → pO = 0 := fun q => by omega
  have hnn0 : pR = 0 → pN = 0 := fun q => by omega
  rcases Classical.em (pL = -1) with qL | qL
  · rw [b2i_pos qL]
    simp only [qL, if_true]
    rcases zR with rfl | rfl
    · rw [hno0 rfl, hnn0 rfl]
      rcases zF with rfl | rfl <;> rcases zH with rfl | rfl <;> rfl
    · rcases zF with rfl | rfl <;> rcases zH with rfl | rfl <;> rcases zO with rfl | rfl <;> rcases zN with rfl | rfl <;> rfl
  · rw [b2i_neg qL]
    simp only [qL, if_false]
    rcases zR with rfl | rfl
    · rw [hno0 rfl, hnn0 rfl]
      rcases zF with rfl | rfl <;> rcases zH with rfl | rfl <;> rfl
    · rcases zF with rfl | rfl <;> rcases zH with rfl | rfl <;> rcases zO with rfl | rfl <;> rcases zN with rfl | rfl <;> rfl

end
