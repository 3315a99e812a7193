/-! ===== frames: what a relation rests on; the whole state of class and reference ===== -/
theorem wr_ag {Q : Int → Int → Prop} {M : zM} {a i v : Int} (h : ¬ Q a i) : ∀ b j, Q b j → z_wr M a i v b j = M b j := fun b j q => by
  unfold z_wr
  rw [if_neg]
  rintro ⟨rfl, rfl⟩
  exact h q
abbrev pC (c a k : Int) : Prop := (a = c ∧ (k ≤ 6 ∨ k = 11 ∨ k = 12)) ∨ ((a = c + 1 ∨ a = c + 7 ∨ a = c + 19 ∨ a = c + 25 ∨ a = c + 27 ∨ a = c + 29) ∧ 1 ≤ k) ∨ (a = c + 13 ∧ 2 ≤ k)
abbrev pO (a k : Int) : Prop := (a = 0 ∧ (k = 0 ∨ 5 ≤ k)) ∨ (a = 1 ∧ (k = 0 ∨ k = 5)) ∨ (a = 2 ∧ (k ≤ 1 ∨ (6 ≤ k ∧ k ≤ 8))) ∨ a = 76 ∨ (a = 79 ∧ 3 ≤ k)
abbrev pR (a k : Int) : Prop := a = 84 ∧ (k = 0 ∨ k = 3 ∨ (21 ≤ k ∧ k ≤ 43) ∨ k = 50 ∨ k = 51 ∨ (60 ≤ k ∧ k ≤ 63))
abbrev pM (a k : Int) : Prop := (a = 84 ∧ ((11 ≤ k ∧ k ≤ 15) ∨ (44 ≤ k ∧ k ≤ 46))) ∨ (87 ≤ a ∧ a ≤ 91 ∧ 0 ≤ k ∧ k < 8) ∨ (92 ≤ a ∧ a ≤ 96 ∧ 0 ≤ k ∧ k < 5) ∨ (97 ≤ a ∧ a ≤ 101 ∧ 0 ≤ k ∧ k < 60) ∨ (102 ≤ a ∧ a ≤ 104 ∧ 0 ≤ k ∧ k < 20)
abbrev pF (a k : Int) : Prop := (105 ≤ a ∧ a ≤ 106 ∧ 0 ≤ k ∧ k < 3) ∨ (107 ≤ a ∧ a ≤ 109 ∧ 0 ≤ k ∧ k < 64)
abbrev pV (c a : Int) (_ : Int) : Prop := c ≤ a ∧ a ≤ c + 30
theorem LayC.ag {M M' : zM} {c : Int} (hs : ∀ a k, pC c a k → M' a k = M a k) (h : LayC M c) : LayC M' c := ⟨(hs _ _ (by unfold pC; omega)).trans h.1, (hs _ _ (by unfold pC; omega)).trans h.2.1, (hs _ _ (by unfold pC; omega)).trans h.2.2.1, (hs _ _ (by unfold pC; omega)).trans h.2.2.2.1, (hs _ _ (by unfold pC; omega)).trans h.2.2.2.2.1, (hs _ _ (by unfold pC; omega)).trans h.2.2.2.2.2.1, (hs _ _ (by unfold pC; omega)).trans h.2.2.2.2.2.2.1, (hs _ _ (by unfold pC; omega)).trans h.2.2.2.2.2.2.2.1, (hs _ _ (by unfold pC; omega)).trans h.2.2.2.2.2.2.2.2.1, (hs _ _ (by unfold pC; omega)).trans h.2.2.2.2.2.2.2.2.2.1, (hs _ _ (by unfold pC; omega)).trans h.2.2.2.2.2.2.2.2.2.2.1, (hs _ _ (by unfold pC; omega)).trans h.2.2.2.2.2.2.2.2.2.2.2.1, (hs _ _ (by unfold pC; omega)).trans h.2.2.2.2.2.2.2.2.2.2.2.2.1, (hs _ _ (by unfold pC; omega)).trans h.2.2.2.2.2.2.2.2.2.2.2.2.2.1, (hs _ _ (by unfold pC; omega)).trans h.2.2.2.2.2.2.2.2.2.2.2.2.2.2.1, (hs _ _ (by unfold pC; omega)).trans h.2.2.2.2.2.2.2.2.2.2.2.2.2.2.2.1, (hs _ _ (by unfold pC; omega)).trans h.2.2.2.2.2.2.2.2.2.2.2.2.2.2.2.2.1, (hs _ _ (by unfold pC; omega)).trans h.2.2.2.2.2.2.2.2.2.2.2.2.2.2.2.2.2.1, (hs _ _ (by unfold pC; omega)).trans h.2.2.2.2.2.2.2.2.2.2.2.2.2.2.2.2.2.2.1, (hs _ _ (by unfold pC; omega)).trans h.2.2.2.2.2.2.2.2.2.2.2.2.2.2.2.2.2.2.2.1, (hs _ _ (by unfold pC; omega)).trans h.2.2.2.2.2.2.2.2.2.2.2.2.2.2.2.2.2.2.2.2.1, (hs _ _ (by unfold pC; omega)).trans h.2.2.2.2.2.2.2.2.2.2.2.2.2.2.2.2.2.2.2.2.2.1, (hs _ _ (by unfold pC; omega)).trans h.2.2.2.2.2.2.2.2.2.2.2.2.2.2.2.2.2.2.2.2.2.2.1, (hs _ _ (by unfold pC; omega)).trans h.2.2.2.2.2.2.2.2.2.2.2.2.2.2.2.2.2.2.2.2.2.2.2.1, (hs _ _ (by unfold pC; omega)).trans h.2.2.2.2.2.2.2.2.2.2.2.2.2.2.2.2.2.2.2.2.2.2.2.2.1, (hs _ _ (by unfold pC; omega)).trans h.2.2.2.2.2.2.2.2.2.2.2.2.2.2.2.2.2.2.2.2.2.2.2.2.2.1, (hs _ _ (by unfold pC; omega)).trans h.2.2.2.2.2.2.2.2.2.2.2.2.2.2.2.2.2.2.2.2.2.2.2.2.2.2.1, (hs _ _ (by unfold pC; omega)).trans h.2.2.2.2.2.2.2.2.2.2.2.2.2.2.2.2.2.2.2.2.2.2.2.2.2.2.2.1, (hs _ _ (by unfold pC; omega)).trans h.2.2.2.2.2.2.2.2.2.2.2.2.2.2.2.2.2.2.2.2.2.2.2.2.2.2.2.2.1, (hs _ _ (by unfold pC; omega)).trans h.2.2.2.2.2.2.2.2.2.2.2.2.2.2.2.2.2.2.2.2.2.2.2.2.2.2.2.2.2.1, (hs _ _ (by unfold pC; omega)).trans h.2.2.2.2.2.2.2.2.2.2.2.2.2.2.2.2.2.2.2.2.2.2.2.2.2.2.2.2.2.2.1, (hs _ _ (by unfold pC; omega)).trans h.2.2.2.2.2.2.2.2.2.2.2.2.2.2.2.2.2.2.2.2.2.2.2.2.2.2.2.2.2.2.2⟩
theorem LayO.ag {M M' : zM} (hs : ∀ a k, pO a k → M' a k = M a k) (h : LayO M) : LayO M' := ⟨(hs _ _ (by unfold pO; omega)).trans h.1, (hs _ _ (by unfold pO; omega)).trans h.2.1, (hs _ _ (by unfold pO; omega)).trans h.2.2.1, (hs _ _ (by unfold pO; omega)).trans h.2.2.2.1, (hs _ _ (by unfold pO; omega)).trans h.2.2.2.2.1, (hs _ _ (by unfold pO; omega)).trans h.2.2.2.2.2.1, (hs _ _ (by unfold pO; omega)).trans h.2.2.2.2.2.2.1, (hs _ _ (by unfold pO; omega)).trans h.2.2.2.2.2.2.2.1, (hs _ _ (by unfold pO; omega)).trans h.2.2.2.2.2.2.2.2.1, (hs _ _ (by unfold pO; omega)).trans h.2.2.2.2.2.2.2.2.2.1, (hs _ _ (by unfold pO; omega)).trans h.2.2.2.2.2.2.2.2.2.2.1, (hs _ _ (by unfold pO; omega)).trans h.2.2.2.2.2.2.2.2.2.2.2.1, (hs _ _ (by unfold pO; omega)).trans h.2.2.2.2.2.2.2.2.2.2.2.2.1, (hs _ _ (by unfold pO; omega)).trans h.2.2.2.2.2.2.2.2.2.2.2.2.2.1, (hs _ _ (by unfold pO; omega)).trans h.2.2.2.2.2.2.2.2.2.2.2.2.2.2.1, (hs _ _ (by unfold pO; omega)).trans h.2.2.2.2.2.2.2.2.2.2.2.2.2.2.2.1, (hs _ _ (by unfold pO; omega)).trans h.2.2.2.2.2.2.2.2.2.2.2.2.2.2.2.2⟩
theorem LayR.ag {M M' : zM} (hs : ∀ a k, pR a k → M' a k = M a k) (h : LayR M) : LayR M' := ⟨(hs _ _ (by unfold pR; omega)).trans h.1, (hs _ _ (by unfold pR; omega)).trans h.2.1, (hs _ _ (by unfold pR; omega)).trans h.2.2.1, (hs _ _ (by unfold pR; omega)).trans h.2.2.2.1, (hs _ _ (by unfold pR; omega)).trans h.2.2.2.2.1, (hs _ _ (by unfold pR; omega)).trans h.2.2.2.2.2.1, (hs _ _ (by unfold pR; omega)).trans h.2.2.2.2.2.2.1, (hs _ _ (by unfold pR; omega)).trans h.2.2.2.2.2.2.2.1, (hs _ _ (by unfold pR; omega)).trans h.2.2.2.2.2.2.2.2.1, (hs _ _ (by unfold pR; omega)).trans h.2.2.2.2.2.2.2.2.2.1, (hs _ _ (by unfold pR; omega)).trans h.2.2.2.2.2.2.2.2.2.2.1, (hs _ _ (by unfold pR; omega)).trans h.2.2.2.2.2.2.2.2.2.2.2.1, (hs _ _ (by unfold pR; omega)).trans h.2.2.2.2.2.2.2.2.2.2.2.2.1, (hs _ _ (by unfold pR; omega)).trans h.2.2.2.2.2.2.2.2.2.2.2.2.2.1, (hs _ _ (by unfold pR; omega)).trans h.2.2.2.2.2.2.2.2.2.2.2.2.2.2.1, (hs _ _ (by unfold pR; omega)).trans h.2.2.2.2.2.2.2.2.2.2.2.2.2.2.2.1, (hs _ _ (by unfold pR; omega)).trans h.2.2.2.2.2.2.2.2.2.2.2.2.2.2.2.2.1, (hs _ _ (by unfold pR; omega)).trans h.2.2.2.2.2.2.2.2.2.2.2.2.2.2.2.2.2.1, (hs _ _ (by unfold pR; omega)).trans h.2.2.2.2.2.2.2.2.2.2.2.2.2.2.2.2.2.2.1, (hs _ _ (by unfold pR; omega)).trans h.2.2.2.2.2.2.2.2.2.2.2.2.2.2.2.2.2.2.2.1, (hs _ _ (by unfold pR; omega)).trans h.2.2.2.2.2.2.2.2.2.2.2.2.2.2.2.2.2.2.2.2.1, (hs _ _ (by unfold pR; omega)).trans h.2.2.2.2.2.2.2.2.2.2.2.2.2.2.2.2.2.2.2.2.2.1, (hs _ _ (by unfold pR; omega)).trans h.2.2.2.2.2.2.2.2.2.2.2.2.2.2.2.2.2.2.2.2.2.2.1, (hs _ _ (by unfold pR; omega)).trans h.2.2.2.2.2.2.2.2.2.2.2.2.2.2.2.2.2.2.2.2.2.2.2.1, (hs _ _ (by unfold pR; omega)).trans h.2.2.2.2.2.2.2.2.2.2.2.2.2.2.2.2.2.2.2.2.2.2.2.2.1, (hs _ _ (by unfold pR; omega)).trans h.2.2.2.2.2.2.2.2.2.2.2.2.2.2.2.2.2.2.2.2.2.2.2.2.2.1, (hs _ _ (by unfold pR; omega)).trans h.2.2.2.2.2.2.2.2.2.2.2.2.2.2.2.2.2.2.2.2.2.2.2.2.2.2.1, (hs _ _ (by unfold pR; omega)).trans h.2.2.2.2.2.2.2.2.2.2.2.2.2.2.2.2.2.2.2.2.2.2.2.2.2.2.2.1, (hs _ _ (by unfold pR; omega)).trans h.2.2.2.2.2.2.2.2.2.2.2.2.2.2.2.2.2.2.2.2.2.2.2.2.2.2.2.2.1, (hs _ _ (by unfold pR; omega)).trans h.2.2.2.2.2.2.2.2.2.2.2.2.2.2.2.2.2.2.2.2.2.2.2.2.2.2.2.2.2.1, (hs _ _ (by unfold pR; omega)).trans h.2.2.2.2.2.2.2.2.2.2.2.2.2.2.2.2.2.2.2.2.2.2.2.2.2.2.2.2.2.2⟩
theorem cEq.ag {M M' V : zM} {c : Int} (hs : ∀ a k, pV c a k → M' a k = M a k) (h : cEq M c V) : cEq M' c V := ⟨fun k => (hs _ _ (by unfold pV; omega)).trans (h.1 k), fun k => (hs _ _ (by unfold pV; omega)).trans (h.2.1 k), fun k => (hs _ _ (by unfold pV; omega)).trans (h.2.2.1 k), fun k => (hs _ _ (by unfold pV; omega)).trans (h.2.2.2.1 k), fun k => (hs _ _ (by unfold pV; omega)).trans (h.2.2.2.2.1 k), fun k => (hs _ _ (by unfold pV; omega)).trans (h.2.2.2.2.2.1 k), fun k => (hs _ _ (by unfold pV; omega)).trans (h.2.2.2.2.2.2.1 k), fun k => (hs _ _ (by unfold pV; omega)).trans (h.2.2.2.2.2.2.2.1 k), fun k => (hs _ _ (by unfold pV; omega)).trans (h.2.2.2.2.2.2.2.2.1 k), fun k => (hs _ _ (by unfold pV; omega)).trans (h.2.2.2.2.2.2.2.2.2.1 k), fun k => (hs _ _ (by unfold pV; omega)).trans (h.2.2.2.2.2.2.2.2.2.2.1 k), fun k => (hs _ _ (by unfold pV; omega)).trans (h.2.2.2.2.2.2.2.2.2.2.2.1 k), fun k => (hs _ _ (by unfold pV; omega)).trans (h.2.2.2.2.2.2.2.2.2.2.2.2.1 k), fun k => (hs _ _ (by unfold pV; omega)).trans (h.2.2.2.2.2.2.2.2.2.2.2.2.2.1 k), fun k => (hs _ _ (by unfold pV; omega)).trans (h.2.2.2.2.2.2.2.2.2.2.2.2.2.2.1 k), fun k => (hs _ _ (by unfold pV; omega)).trans (h.2.2.2.2.2.2.2.2.2.2.2.2.2.2.2.1 k), fun k => (hs _ _ (by unfold pV; omega)).trans (h.2.2.2.2.2.2.2.2.2.2.2.2.2.2.2.2.1 k), fun k => (hs _ _ (by unfold pV; omega)).trans (h.2.2.2.2.2.2.2.2.2.2.2.2.2.2.2.2.2.1 k), fun k => (hs _ _ (by unfold pV; omega)).trans (h.2.2.2.2.2.2.2.2.2.2.2.2.2.2.2.2.2.2.1 k), fun k => (hs _ _ (by unfold pV; omega)).trans (h.2.2.2.2.2.2.2.2.2.2.2.2.2.2.2.2.2.2.2.1 k), fun k => (hs _ _ (by unfold pV; omega)).trans (h.2.2.2.2.2.2.2.2.2.2.2.2.2.2.2.2.2.2.2.2.1 k), fun k => (hs _ _ (by unfold pV; omega)).trans (h.2.2.2.2.2.2.2.2.2.2.2.2.2.2.2.2.2.2.2.2.2.1 k), fun k => (hs _ _ (by unfold pV; omega)).trans (h.2.2.2.2.2.2.2.2.2.2.2.2.2.2.2.2.2.2.2.2.2.2.1 k), fun k => (hs _ _ (by unfold pV; omega)).trans (h.2.2.2.2.2.2.2.2.2.2.2.2.2.2.2.2.2.2.2.2.2.2.2.1 k), fun k => (hs _ _ (by unfold pV; omega)).trans (h.2.2.2.2.2.2.2.2.2.2.2.2.2.2.2.2.2.2.2.2.2.2.2.2.1 k), fun k => (hs _ _ (by unfold pV; omega)).trans (h.2.2.2.2.2.2.2.2.2.2.2.2.2.2.2.2.2.2.2.2.2.2.2.2.2.1 k), fun k => (hs _ _ (by unfold pV; omega)).trans (h.2.2.2.2.2.2.2.2.2.2.2.2.2.2.2.2.2.2.2.2.2.2.2.2.2.2.1 k), fun k => (hs _ _ (by unfold pV; omega)).trans (h.2.2.2.2.2.2.2.2.2.2.2.2.2.2.2.2.2.2.2.2.2.2.2.2.2.2.2.1 k), fun k => (hs _ _ (by unfold pV; omega)).trans (h.2.2.2.2.2.2.2.2.2.2.2.2.2.2.2.2.2.2.2.2.2.2.2.2.2.2.2.2 k)⟩
theorem cw {M V : zM} {c o k v j i : Int} (h : M (c + j) i = V j i) : z_wr M (c + o) k v (c + j) i = z_wr V o k v j i := by
  unfold z_wr
  by_cases q : j = o ∧ i = k
  · rw [if_pos q, if_pos ⟨by omega, q.2⟩]
  · rw [if_neg q, if_neg (fun r => q ⟨by omega, r.2⟩)]; exact h
theorem cw0 {M V : zM} {c o k v i : Int} (h : M c i = V 0 i) : z_wr M (c + o) k v c i = z_wr V o k v 0 i := by
  unfold z_wr
  by_cases q : 0 = o ∧ i = k
  · rw [if_pos q, if_pos ⟨by omega, q.2⟩]
  · rw [if_neg q, if_neg (fun r => q ⟨by omega, r.2⟩)]; exact h
theorem cEq.wr {M V : zM} {c : Int} (o k v : Int) (h : cEq M c V) : cEq (z_wr M (c + o) k v) c (z_wr V o k v) := ⟨fun i => cw0 (h.1 i), fun i => cw (h.2.1 i), fun i => cw (h.2.2.1 i), fun i => cw (h.2.2.2.1 i), fun i => cw (h.2.2.2.2.1 i), fun i => cw (h.2.2.2.2.2.1 i), fun i => cw (h.2.2.2.2.2.2.1 i), fun i => cw (h.2.2.2.2.2.2.2.1 i), fun i => cw (h.2.2.2.2.2.2.2.2.1 i), fun i => cw (h.2.2.2.2.2.2.2.2.2.1 i), fun i => cw (h.2.2.2.2.2.2.2.2.2.2.1 i), fun i => cw (h.2.2.2.2.2.2.2.2.2.2.2.1 i), fun i => cw (h.2.2.2.2.2.2.2.2.2.2.2.2.1 i), fun i => cw (h.2.2.2.2.2.2.2.2.2.2.2.2.2.1 i), fun i => cw (h.2.2.2.2.2.2.2.2.2.2.2.2.2.2.1 i), fun i => cw (h.2.2.2.2.2.2.2.2.2.2.2.2.2.2.2.1 i), fun i => cw (h.2.2.2.2.2.2.2.2.2.2.2.2.2.2.2.2.1 i), fun i => cw (h.2.2.2.2.2.2.2.2.2.2.2.2.2.2.2.2.2.1 i), fun i => cw (h.2.2.2.2.2.2.2.2.2.2.2.2.2.2.2.2.2.2.1 i), fun i => cw (h.2.2.2.2.2.2.2.2.2.2.2.2.2.2.2.2.2.2.2.1 i), fun i => cw (h.2.2.2.2.2.2.2.2.2.2.2.2.2.2.2.2.2.2.2.2.1 i), fun i => cw (h.2.2.2.2.2.2.2.2.2.2.2.2.2.2.2.2.2.2.2.2.2.1 i), fun i => cw (h.2.2.2.2.2.2.2.2.2.2.2.2.2.2.2.2.2.2.2.2.2.2.1 i), fun i => cw (h.2.2.2.2.2.2.2.2.2.2.2.2.2.2.2.2.2.2.2.2.2.2.2.1 i), fun i => cw (h.2.2.2.2.2.2.2.2.2.2.2.2.2.2.2.2.2.2.2.2.2.2.2.2.1 i), fun i => cw (h.2.2.2.2.2.2.2.2.2.2.2.2.2.2.2.2.2.2.2.2.2.2.2.2.2.1 i), fun i => cw (h.2.2.2.2.2.2.2.2.2.2.2.2.2.2.2.2.2.2.2.2.2.2.2.2.2.2.1 i), fun i => cw (h.2.2.2.2.2.2.2.2.2.2.2.2.2.2.2.2.2.2.2.2.2.2.2.2.2.2.2.1 i), fun i => cw (h.2.2.2.2.2.2.2.2.2.2.2.2.2.2.2.2.2.2.2.2.2.2.2.2.2.2.2.2 i)⟩
theorem mEq.ag {M M' V : zM} (hN : vOkN V) (hs : ∀ a k, pM a k → M' a k = M a k) (h : mEq M V) : mEq M' V := by
  obtain ⟨ha, hb, hd, he, hf⟩ := h
  refine ⟨⟨(hs _ _ (by unfold pM; omega)).trans ha.1, (hs _ _ (by unfold pM; omega)).trans ha.2.1, (hs _ _ (by unfold pM; omega)).trans ha.2.2.1, (hs _ _ (by unfold pM; omega)).trans ha.2.2.2.1, (hs _ _ (by unfold pM; omega)).trans ha.2.2.2.2.1, (hs _ _ (by unfold pM; omega)).trans ha.2.2.2.2.2.1, (hs _ _ (by unfold pM; omega)).trans ha.2.2.2.2.2.2.1, (hs _ _ (by unfold pM; omega)).trans ha.2.2.2.2.2.2.2⟩, fun k x y => ?_, fun k x y => ?_, fun k x y => ?_, fun k x y => ?_⟩
  · have h := hb k x y
    exact ⟨(hs _ _ (by unfold pM; omega)).trans h.1, (hs _ _ (by unfold pM; omega)).trans h.2.1, (hs _ _ (by unfold pM; omega)).trans h.2.2.1, (hs _ _ (by unfold pM; omega)).trans h.2.2.2.1, (hs _ _ (by unfold pM; omega)).trans h.2.2.2.2⟩
  · have h := hd k x y
    exact ⟨(hs _ _ (by unfold pM; omega)).trans h.1, (hs _ _ (by unfold pM; omega)).trans h.2.1, (hs _ _ (by unfold pM; omega)).trans h.2.2.1, (hs _ _ (by unfold pM; omega)).trans h.2.2.2.1, (hs _ _ (by unfold pM; omega)).trans h.2.2.2.2⟩
  · have h := he k x y
    exact ⟨(hs _ _ (by unfold pM; omega)).trans h.1, (hs _ _ (by unfold pM; omega)).trans h.2.1, (hs _ _ (by unfold pM; omega)).trans h.2.2.1, (hs _ _ (by unfold pM; omega)).trans h.2.2.2.1, (hs _ _ (by unfold pM; omega)).trans h.2.2.2.2⟩
  · have h := hf k x y
    exact ⟨(hs _ _ (by unfold pM; omega)).trans h.1, (hs _ _ (by unfold pM; omega)).trans h.2.1, (hs _ _ (by unfold pM; omega)).trans h.2.2⟩
theorem nodeR_cg {K P O K' P' O' cd cd' : Int → Int} {F i : Int} {s s' : List Int} (hk : K' (F + i) = K (F + i) ∧ P' (F + i) = P (F + i) ∧ O' (F + i) = O (F + i)) (hc : cd' i = cd i) (h : nodeR K P O cd F i s s') : nodeR K' P' O' cd' F i s s' := by
  unfold nodeR at h ⊢
  rw [hk.1, hk.2.1, hk.2.2, hc]
  exact h
theorem wfF_cg {K P O K' P' O' cd cd' : Int → Int} {F : Int} : ∀ (n : Nat) (i : Int) (s : List Int), (∀ j, i ≤ j → j < i + n → (K' (F + j) = K (F + j) ∧ P' (F + j) = P (F + j) ∧ O' (F + j) = O (F + j)) ∧ cd' j = cd j) → wfF K P O cd F n i s → wfF K' P' O' cd' F n i s := by
  intro n
  induction n with
  | zero => intro i s _ h; exact h
  | succ n ih =>
    intro i s hj ⟨s', h, h2⟩
    have h0 := hj i (by omega) (by omega)
    exact ⟨s', nodeR_cg h0.1 h0.2 h, ih (i + 1) s' (fun j a b => hj j (by omega) (by omega)) h2⟩
theorem fOk.ag {M M' : zM} {N e : Int} {cd cd' : Int → Int} (he : 0 ≤ e ∧ e < 3) (hs : ∀ a k, pF a k → M' a k = M a k) (hc : ∀ j, 0 ≤ j → j < N → cd' j = cd j) (h : fOk M N cd e) : fOk M' N cd' e := by
  obtain ⟨h0, h1, h2⟩ := h
  have e5 : M' 105 e = M 105 e := hs _ _ (by unfold pF; omega)
  have e6 : M' 106 e = M 106 e := hs _ _ (by unfold pF; omega)
  refine ⟨h0, h1, ?_⟩
  rw [e5, e6]
  rcases h2 with q | ⟨a, b, d, f, g⟩
  · exact Or.inl q
  · refine Or.inr ⟨a, b, d, f, wfF_cg _ _ _ (fun j x y => ⟨⟨?_, ?_, ?_⟩, hc j (by omega) (by omega)⟩) g⟩
    · exact hs _ _ (by unfold pF; omega)
    · exact hs _ _ (by unfold pF; omega)
    · exact hs _ _ (by unfold pF; omega)
theorem gF.ag {M M' V : zM} (hs : ∀ a k, pF a k → M' a k = M a k) (h : gF M V) : gF M' V := ⟨h.1.ag (by decide) hs (fun _ _ _ => rfl), h.2.1.ag (by decide) hs (fun _ _ _ => rfl), h.2.2.ag (by decide) hs (fun _ _ _ => rfl)⟩
/-- the class's words, packed; the reference's words, letter by letter -/
def wTl : List Int := [679786720, 321912832, 538449472, 553002085, 676737202, 72590803, 182602752, 672666624, 53837824, 639401984, 538153984, 404455424, 68747264, 358179840, 522190848, 48365568, 486146048, 41058304, 284871264, 509804544, 53857280, 408027136, 613655168, 791132384, 475758592, 559546368, 412554848]
def lTl : List Int := [116, 104, 105, 110, 103, 32, 116, 101, 108, 108, 101, 114, 32, 97, 115, 107, 32, 115, 97, 121, 32, 112, 97, 103, 101, 32, 108, 97, 119, 32, 98, 97, 114, 32, 106, 117, 114, 121, 32, 105, 115, 32, 112, 97, 112, 101, 114, 32, 112, 111, 108, 105, 99, 101, 32, 98, 101, 103, 105, 110, 115, 32, 101, 110, 100, 115, 32, 116, 97, 112, 101, 32, 97, 110, 100, 32, 111, 114, 32, 110, 111, 116, 32, 97, 103, 101, 32, 104, 111, 117, 114, 115, 32, 111, 102, 102, 32, 97, 115, 107, 115, 32, 108, 101, 100, 32, 114, 105, 103, 104, 116, 32, 119, 114, 111, 110, 103, 32, 110, 101, 119, 32, 112, 117, 116, 32, 108, 105, 110, 101, 115, 32]
def wTb (j : Int) : Int := wTl.getD j.toNat 0
def lTb (j : Int) : Int := lTl.getD j.toNat 0
/-- beside the case: FAULT, its place, TRUTH, the odds to begin with, the bytes -/
abbrev xC (M V : zM) : Prop := M 1 2 = V 100 0 ∧ M 1 3 = V 100 1 ∧ M 0 2 = V 100 2 ∧ M 0 3 = V 100 3 ∧ M 0 4 = V 100 4 ∧ M 2 2 = V 100 5 ∧ ∀ j, 0 ≤ j → j < V 100 5 → M 4 j = V 101 j
abbrev xR (M V : zM) : Prop := M 84 4 = V 100 0 ∧ M 84 5 = V 100 1 ∧ M 84 47 = V 100 2 ∧ M 84 48 = V 100 3 ∧ M 84 49 = V 100 4 ∧ M 84 1 = V 100 5 ∧ ∀ j, 0 ≤ j → j < V 100 5 → M 85 j = V 101 j
abbrev xOk (V : zM) : Prop := (1 ≤ V 100 2 ∧ V 100 2 ≤ 9) ∧ (1 ≤ V 100 3 ∧ V 100 3 ≤ 99) ∧ (1 ≤ V 100 4 ∧ V 100 4 ≤ 99) ∧ 0 ≤ V 100 5 ∧ V 100 5 ≤ 800
abbrev wC (M : zM) : Prop := ∀ j, 0 ≤ j → j < 27 → M 3 j = wTb j
abbrev wR (M : zM) : Prop := ∀ j, 0 ≤ j → j < 132 → M 86 j = lTb j
/-- the reference's truths are 0 or 1 -/
abbrev bR (M : zM) : Prop := ∀ j, 0 ≤ j → j < 120 → M 97 j = 0 ∨ M 97 j = 1
theorem bR.ag {M M' : zM} (hs : ∀ k, M' 97 k = M 97 k) (h : bR M) : bR M' := fun j a b => by rw [hs]; exact h j a b
/-! kept shut, so that omega doesn't read them -/
def LyC (M : zM) (c : Int) : Prop := LayC M c
def LyO (M : zM) : Prop := LayO M
def LyR (M : zM) : Prop := LayR M
theorem LyC.ag {M M' : zM} {c : Int} (hs : ∀ a k, pC c a k → M' a k = M a k) (h : LyC M c) : LyC M' c := LayC.ag hs h
theorem LyO.ag {M M' : zM} (hs : ∀ a k, pO a k → M' a k = M a k) (h : LyO M) : LyO M' := LayO.ag hs h
theorem LyR.ag {M M' : zM} (hs : ∀ a k, pR a k → M' a k = M a k) (h : LyR M) : LyR M' := LayR.ag hs h
def CS (M : zM) (c : Int) (V : zM) : Prop := zCc c ∧ M 0 1 = c ∧ M 1 1 = 50 - c ∧ LyO M ∧ LyC M c ∧ LyC M (50 - c) ∧ cEq M c V ∧ xC M V ∧ wC M
def RS (M V : zM) : Prop := LyR M ∧ mEq M V ∧ gF M V ∧ xR M V ∧ wR M ∧ bR M
def gI (M : zM) : Prop := ∃ c V, CS M c V ∧ RS M V ∧ vOk V ∧ xOk V
/-- the class writes below 84, the reference from there on -/
abbrev frC (M M' : zM) : Prop := ∀ a k, 84 ≤ a → M' a k = M a k
abbrev frR (M M' : zM) : Prop := ∀ a k, a < 84 → M' a k = M a k
theorem frC.rf (M : zM) : frC M M := fun _ _ _ => rfl
theorem frR.rf (M : zM) : frR M M := fun _ _ _ => rfl
theorem frC.tr {M M1 M2 : zM} (h : frC M M1) (h2 : frC M1 M2) : frC M M2 := fun a k q => (h2 a k q).trans (h a k q)
theorem frR.tr {M M1 M2 : zM} (h : frR M M1) (h2 : frR M1 M2) : frR M M2 := fun a k q => (h2 a k q).trans (h a k q)
theorem frC.wr {M : zM} {a i v : Int} (h : a < 84) : frC M (z_wr M a i v) := fun b j q => z_wr_ne (Or.inl (by omega))
theorem frR.wr {M : zM} {a i v : Int} (h : 84 ≤ a) : frR M (z_wr M a i v) := fun b j q => z_wr_ne (Or.inl (by omega))
theorem pC_lt {c a k : Int} (hc : zCc c) (q : pC c a k) : a < 84 := by unfold pC at q; rcases hc with r | r <;> omega
theorem pC_lt2 {c a k : Int} (hc : zCc c) (q : pC (50 - c) a k) : a < 84 := by unfold pC at q; rcases hc with r | r <;> omega
theorem pO_lt {a k : Int} (q : pO a k) : a < 84 := by unfold pO at q; omega
theorem pV_lt {c a k : Int} (hc : zCc c) (q : pV c a k) : a < 84 := by unfold pV at q; rcases hc with r | r <;> omega
theorem pR_ge {a k : Int} (q : pR a k) : 84 ≤ a := by unfold pR at q; omega
theorem pM_ge {a k : Int} (q : pM a k) : 84 ≤ a := by unfold pM at q; omega
theorem pF_ge {a k : Int} (q : pF a k) : 84 ≤ a := by unfold pF at q; omega
section
variable {M M' V : zM} {c : Int}
theorem xC.ag (h1 : ∀ k, 2 ≤ k → k ≤ 3 → M' 1 k = M 1 k) (h0 : ∀ k, 2 ≤ k → k ≤ 4 → M' 0 k = M 0 k) (h2 : M' 2 2 = M 2 2) (h4 : ∀ k, M' 4 k = M 4 k) (h : xC M V) : xC M' V := ⟨(h1 _ (by decide) (by decide)).trans h.1, (h1 _ (by decide) (by decide)).trans h.2.1, (h0 _ (by decide) (by decide)).trans h.2.2.1, (h0 _ (by decide) (by decide)).trans h.2.2.2.1, (h0 _ (by decide) (by decide)).trans h.2.2.2.2.1, h2.trans h.2.2.2.2.2.1, fun j a b => (h4 j).trans (h.2.2.2.2.2.2 j a b)⟩
theorem xR.ag (h0 : ∀ k, k = 1 ∨ k = 4 ∨ k = 5 ∨ (47 ≤ k ∧ k ≤ 49) → M' 84 k = M 84 k) (h4 : ∀ k, M' 85 k = M 85 k) (h : xR M V) : xR M' V := ⟨(h0 _ (by decide)).trans h.1, (h0 _ (by decide)).trans h.2.1, (h0 _ (by decide)).trans h.2.2.1, (h0 _ (by decide)).trans h.2.2.2.1, (h0 _ (by decide)).trans h.2.2.2.2.1, (h0 _ (by decide)).trans h.2.2.2.2.2.1, fun j a b => (h4 j).trans (h.2.2.2.2.2.2 j a b)⟩
theorem CS.fr (hf : frR M M') (h : CS M c V) : CS M' c V :=
  ⟨h.1, (hf _ _ (by decide)).trans h.2.1, (hf _ _ (by decide)).trans h.2.2.1, h.2.2.2.1.ag (fun a k q => hf a k (pO_lt q)), h.2.2.2.2.1.ag (fun a k q => hf a k (pC_lt h.1 q)), h.2.2.2.2.2.1.ag (fun a k q => hf a k (pC_lt2 h.1 q)), cEq.ag (fun a k q => hf a k (pV_lt h.1 q)) h.2.2.2.2.2.2.1, xC.ag (fun k _ _ => hf _ _ (by decide)) (fun k _ _ => hf _ _ (by decide)) (hf _ _ (by decide)) (fun k => hf _ _ (by decide)) h.2.2.2.2.2.2.2.1, fun j a b => (hf _ _ (by decide)).trans (h.2.2.2.2.2.2.2.2 j a b)⟩
theorem RS.fr (hN : vOkN V) (hf : frC M M') (h : RS M V) : RS M' V :=
  ⟨h.1.ag (fun a k q => hf a k (pR_ge q)), mEq.ag hN (fun a k q => hf a k (pM_ge q)) h.2.1, gF.ag (fun a k q => hf a k (pF_ge q)) h.2.2.1, xR.ag (fun k _ => hf _ _ (by decide)) (fun k => hf _ _ (by decide)) h.2.2.2.1, fun j a b => (hf _ _ (by decide)).trans (h.2.2.2.2.1 j a b), bR.ag (fun k => hf _ _ (by decide)) h.2.2.2.2.2⟩
theorem zCc2 (h : zCc c) : zCc (50 - c) := by rcases h with r | r <;> unfold zCc <;> omega
theorem CS.sm (hs : Sm M M') (h : CS M c V) : CS M' c V :=
  ⟨h.1, (hs _ _ (by decide)).trans h.2.1, (hs _ _ (by decide)).trans h.2.2.1, LayO.sm hs h.2.2.2.1, LayC.sm h.1 hs h.2.2.2.2.1, LayC.sm (zCc2 h.1) hs h.2.2.2.2.2.1, cEq.sm h.1 hs h.2.2.2.2.2.2.1, xC.ag (fun k _ _ => hs _ _ (Scr_no (by decide))) (fun k _ _ => hs _ _ (Scr_no (by decide))) (hs _ _ (by decide)) (fun k => hs _ _ (Scr_no (by decide))) h.2.2.2.2.2.2.2.1, fun j a b => (hs _ _ (Scr_no (by decide))).trans (h.2.2.2.2.2.2.2.2 j a b)⟩
theorem Scr_84 {k : Int} (h : k = 1 ∨ k = 4 ∨ k = 5 ∨ (47 ≤ k ∧ k ≤ 49)) : ¬ Scr 84 k := by unfold Scr; omega
theorem RS.sm (hs : Sm M M') (h : RS M V) : RS M' V :=
  ⟨LayR.sm hs h.1, mEq.sm hs h.2.1, gF.sm hs h.2.2.1, xR.ag (fun k q => hs _ _ (Scr_84 q)) (fun k => hs _ _ (Scr_no (by decide))) h.2.2.2.1, fun j a b => (hs _ _ (Scr_no (by decide))).trans (h.2.2.2.2.1 j a b), bR.ag (fun k => hs _ _ (Scr_no (by decide))) h.2.2.2.2.2⟩
theorem CS.co (h : CS M c V) (hv : vOk V) : cOk M c V := ⟨h.1, h.2.2.2.2.1, h.2.2.2.2.2.2.1, hv⟩
theorem RS.mo (h : RS M V) (hv : vOk V) : mOk M V := ⟨h.1, h.2.1, hv⟩
/-- a pair of calls that keeps the whole state -/
abbrev PrI (f g : zD) (as : List zV) (M : zM) : Prop := ∃ r M1 M2, f zLa (zA 11 0 :: as) M = some (r, M1) ∧ g zLa (zA 12 84 :: as) M1 = some (r, M2) ∧ gI M2
theorem Pr.i {f g : zD} {as : List zV} (hI : gI M) (h : Pr f g as M) : PrI f g as M := by
  obtain ⟨r, M1, M2, e1, e2, hs⟩ := h
  obtain ⟨c, V, h1, h2, h3, h4⟩ := hI
  exact ⟨r, M1, M2, e1, e2, c, V, h1.sm hs, h2.sm hs, h3, h4⟩
/-- a class step and a reference step, each over its own side -/
theorem PrI.mk {f g : zD} {as : List zV} {r : List zV} {M1 : zM} {c' : Int} {V' : zM} (hR : RS M V) (hv : vOk V) (e1 : f zLa (zA 11 0 :: as) M = some (r, M1)) (hf : frC M M1) (h1 : CS M1 c' V') (hr : RS M1 V → ∃ M2, g zLa (zA 12 84 :: as) M1 = some (r, M2) ∧ frR M1 M2 ∧ RS M2 V') (hv' : vOk V') (hx' : xOk V') : PrI f g as M := by
  obtain ⟨M2, e2, hf2, h2⟩ := hr (RS.fr hv.1 hf hR)
  exact ⟨r, M1, M2, e1, e2, c', V', h1.fr hf2, h2, hv', hx'⟩
theorem npO {c o k : Int} (h1 : zCc c) (ho : 0 ≤ o ∧ o ≤ 30) : ¬ pO (c + o) k := by unfold pO; rcases h1 with r | r <;> omega
theorem npC {c o k : Int} (hp : ¬ pC 0 o k) : ¬ pC c (c + o) k := by unfold pC at hp ⊢; omega
theorem npC2 {c o k : Int} (h1 : zCc c) (ho : 0 ≤ o ∧ o ≤ 30) : ¬ pC (50 - c) (c + o) k := by unfold pC; rcases h1 with r | r <;> omega
theorem CS.wv {a o k v : Int} (ha : a = c + o) (ho : 0 ≤ o ∧ o ≤ 30) (hp : ¬ pC 0 o k) (h : CS M c V) : CS (z_wr M a k v) c (z_wr V o k v) := by
  subst ha
  have h1 := h.1
  have hc : c = 8 ∨ c = 42 := h1
  have e0 : ∀ j, z_wr V o k v 100 j = V 100 j := fun j => z_wr_ne (Or.inl (by omega))
  have e1 : ∀ j, z_wr V o k v 101 j = V 101 j := fun j => z_wr_ne (Or.inl (by omega))
  have e2 : ∀ b j, b < 8 → z_wr M (c + o) k v b j = M b j := fun b j q => z_wr_ne (Or.inl (by omega))
  refine ⟨h1, (e2 _ _ (by decide)).trans h.2.1, (e2 _ _ (by decide)).trans h.2.2.1, h.2.2.2.1.ag (wr_ag (npO h1 ho)), h.2.2.2.2.1.ag (wr_ag (npC hp)), h.2.2.2.2.2.1.ag (wr_ag (npC2 h1 ho)), cEq.wr o k v h.2.2.2.2.2.2.1, ?_, fun j x y => (e2 _ _ (by decide)).trans (h.2.2.2.2.2.2.2.2 j x y)⟩
  have h8 : xC (z_wr M (c + o) k v) V := xC.ag (fun k _ _ => e2 _ _ (by decide)) (fun k _ _ => e2 _ _ (by decide)) (e2 _ _ (by decide)) (fun k => e2 _ _ (by decide)) h.2.2.2.2.2.2.2.1
  unfold xC at h8 ⊢
  simp only [e0, e1]
  exact h8
end
