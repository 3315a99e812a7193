section
/-! ===== the first memory keeps the promise of the whole state ===== -/
def V0 : zM := fun a k => if a = 100 then ([0, -1, 9, 1, 1, 0] : List Int).getD k.toNat 0 else if a = 101 then 0 else M0 (42 + a) k
theorem m0_LR : LyR M0 := by show LayR M0; decide +kernel
theorem m0_LO : LyO M0 := by show LayO M0; decide +kernel
theorem m0_LC : LyC M0 42 ∧ LyC M0 8 := by show LayC M0 42 ∧ LayC M0 8; decide +kernel
theorem m0_n : V0 1 0 = 0 ∧ V0 7 0 = 0 ∧ V0 13 0 = 0 ∧ V0 19 0 = 0 ∧ V0 0 8 = 0 ∧ V0 0 9 = 199 ∧ V0 0 10 = 0 ∧ V0 13 1 = 0 ∧ V0 25 0 = 0 ∧ V0 27 0 = 0 ∧ V0 29 0 = 0 ∧ V0 100 0 = 0 ∧ V0 100 1 = -1 ∧ V0 100 2 = 9 ∧ V0 100 3 = 1 ∧ V0 100 4 = 1 ∧ V0 100 5 = 0 := by decide +kernel
theorem m0_c : M0 0 1 = 42 ∧ M0 1 1 = 8 ∧ M0 1 2 = 0 ∧ M0 1 3 = -1 ∧ M0 0 2 = 9 ∧ M0 0 3 = 1 ∧ M0 0 4 = 1 ∧ M0 2 2 = 0 ∧ M0 84 4 = 0 ∧ M0 84 5 = -1 ∧ M0 84 47 = 9 ∧ M0 84 48 = 1 ∧ M0 84 49 = 1 ∧ M0 84 1 = 0 := by decide +kernel
theorem m0_97 (j : Int) : M0 97 j = 0 := rfl
theorem m0_3 (j : Int) : M0 3 j = wTb j := rfl
theorem m0_86 (j : Int) : M0 86 j = lTb j := rfl
theorem st_gI : ∃ m1 m2, zm_X12_plain zLa [zA 12 84] M0 = some ([], m1) ∧ zm_X12_keep zLa [zA 12 84] m1 = some ([], m2) ∧ gI m2 := by
  obtain ⟨m1, e1, hR1, ⟨p1, p2, p3, p4, p5, p6⟩, p105, pfr⟩ := r_plain m0_LR
  have hb1 : bR m1 := fun j a b => Or.inl (by rw [pfr 97 j (by omega) (by omega)]; rfl)
  obtain ⟨m2, e2, ⟨k1, k2, k3, k4, k5, k6, k7, k8⟩, kA, kB, kC, kD, kE, kF, kfr⟩ := r_keep hR1 hb1
  refine ⟨m1, m2, e1, e2, 42, V0, ?_⟩
  obtain ⟨n1, n2, n3, n4, n5, n6, n7, n8, n9, n10, n11, x0, x1, x2, x3, x4, x5⟩ := m0_n
  obtain ⟨c1, c2, c3, c4, c5, c6, c7, c8, r1, r2, r3, r4, r5, r6⟩ := m0_c
  have fr : ∀ a k, a < 84 → m2 a k = M0 a k := fun a k h => by
    rw [kfr a k (by omega) (by omega) (by omega) (by omega) (by omega) (by omega) (by omega)]
    exact pfr a k (by omega) (by omega)
  have fk : ∀ k, ¬ ((11 ≤ k ∧ k ≤ 20) ∨ (44 ≤ k ∧ k ≤ 46) ∨ k = 55) → m2 84 k = M0 84 k := fun k h => by
    rw [kfr 84 k (by omega) (by omega) (by omega) (by omega) (by omega) (by omega) (by omega)]
    exact pfr 84 k (by omega) (by omega)
  have hLR : LyR m2 := LyR.ag (fun a k q => kfr a k (by unfold pR at q; omega) (by unfold pR at q; omega) (by unfold pR at q; omega) (by unfold pR at q; omega) (by unfold pR at q; omega) (by unfold pR at q; omega) (by unfold pR at q; omega)) hR1
  refine ⟨⟨Or.inr rfl, (fr _ _ (by decide)).trans c1, (fr _ _ (by decide)).trans c2, LyO.ag (fun a k q => fr a k (pO_lt q)) m0_LO, LyC.ag (fun a k q => fr a k (pC_lt (Or.inr rfl) q)) m0_LC.1, LyC.ag (fun a k q => fr a k (pC_lt (Or.inl rfl) q)) m0_LC.2, ⟨fun k => fr 42 k (by decide), fun k => fr (42 + 1) k (by decide), fun k => fr (42 + 2) k (by decide), fun k => fr (42 + 3) k (by decide), fun k => fr (42 + 4) k (by decide), fun k => fr (42 + 5) k (by decide), fun k => fr (42 + 6) k (by decide), fun k => fr (42 + 7) k (by decide), fun k => fr (42 + 8) k (by decide), fun k => fr (42 + 9) k (by decide), fun k => fr (42 + 10) k (by decide), fun k => fr (42 + 11) k (by decide), fun k => fr (42 + 12) k (by decide), fun k => fr (42 + 13) k (by decide), fun k => fr (42 + 14) k (by decide), fun k => fr (42 + 15) k (by decide), fun k => fr (42 + 16) k (by decide), fun k => fr (42 + 17) k (by decide), fun k => fr (42 + 18) k (by decide), fun k => fr (42 + 19) k (by decide), fun k => fr (42 + 20) k (by decide), fun k => fr (42 + 21) k (by decide), fun k => fr (42 + 22) k (by decide), fun k => fr (42 + 25) k (by decide), fun k => fr (42 + 26) k (by decide), fun k => fr (42 + 27) k (by decide), fun k => fr (42 + 28) k (by decide), fun k => fr (42 + 29) k (by decide), fun k => fr (42 + 30) k (by decide)⟩, ⟨?_, ?_, ?_, ?_, ?_, ?_, ?_⟩, ?_⟩, ⟨hLR, ⟨⟨?_, ?_, ?_, ?_, ?_, ?_, ?_, ?_⟩, ?_, ?_, ?_, ?_⟩, ⟨?_, ?_, ?_⟩, ⟨?_, ?_, ?_, ?_, ?_, ?_, ?_⟩, ?_, ?_⟩, ⟨?_, ?_, ?_, ?_, ?_, ?_⟩, ?_⟩
  · rw [x0]; exact (fr _ _ (by decide)).trans c3
  · rw [x1]; exact (fr _ _ (by decide)).trans c4
  · rw [x2]; exact (fr _ _ (by decide)).trans c5
  · rw [x3]; exact (fr _ _ (by decide)).trans c6
  · rw [x4]; exact (fr _ _ (by decide)).trans c7
  · rw [x5]; exact (fr _ _ (by decide)).trans c8
  · intro j a b; rw [x5] at b; omega
  · intro j a b; exact (fr _ _ (by decide)).trans (m0_3 j)
  · rw [n1, k1]; exact p1
  · rw [n2, k2]; exact p2
  · rw [n3, k3]; exact p3
  · rw [n4, k4]; exact p4
  · rw [n5, k5]; exact p5
  · rw [n6]; exact k7
  · rw [n7]; exact k8
  · rw [n3, n8, k6]; rfl
  · intro k a b; rw [n1] at b; omega
  · intro k a b; rw [n2] at b; omega
  · intro k a b; rw [n3] at b; omega
  · intro k a b; rw [n4] at b; omega
  · rw [n9]; refine ⟨by decide, by decide, Or.inl ⟨rfl, ?_⟩⟩; rw [kE 106 0 (by decide) (by decide) (by decide) (by decide), kE 105 0 (by decide) (by decide) (by decide) (by decide), (p105 (3 + 0) (by decide) (by decide)).1, (p105 (3 + 0) (by decide) (by decide)).2]; decide
  · rw [n10]; refine ⟨by decide, by decide, Or.inl ⟨rfl, ?_⟩⟩; rw [kE 106 1 (by decide) (by decide) (by decide) (by decide), kE 105 1 (by decide) (by decide) (by decide) (by decide), (p105 (3 + 1) (by decide) (by decide)).1, (p105 (3 + 1) (by decide) (by decide)).2]; decide
  · rw [n11]; refine ⟨by decide, by decide, Or.inl ⟨rfl, ?_⟩⟩; rw [kE 106 2 (by decide) (by decide) (by decide) (by decide), kE 105 2 (by decide) (by decide) (by decide) (by decide), (p105 (3 + 2) (by decide) (by decide)).1, (p105 (3 + 2) (by decide) (by decide)).2]; decide
  · rw [x0]; exact (fk 4 (by decide)).trans r1
  · rw [x1]; exact (fk 5 (by decide)).trans r2
  · rw [x2]; exact (fk 47 (by decide)).trans r3
  · rw [x3]; exact (fk 48 (by decide)).trans r4
  · rw [x4]; exact (fk 49 (by decide)).trans r5
  · rw [x5]; exact (fk 1 (by decide)).trans r6
  · intro j a b; rw [x5] at b; omega
  · intro j a b
    rw [kfr 86 j (by omega) (by omega) (by omega) (by omega) (by omega) (by omega) (by omega), pfr 86 j (by omega) (by omega)]
    exact m0_86 j
  · intro j a b
    left
    by_cases h : j < 40
    · rw [kC 97 j (by decide) (by decide) a h, pfr 97 (60 + j) (by omega) (by omega)]; rfl
    · rw [kfr 97 j (by omega) (by omega) (by omega) (by omega) (by omega) (by omega) (by omega), pfr 97 j (by omega) (by omega)]; rfl
  · exact ⟨by omega, by omega, by omega, by omega, by omega, by omega, by omega, by omega, by omega, by omega, by omega, by omega⟩
  · intro k a b; rw [n1] at b; omega
  · intro k a b; rw [n2] at b; omega
  · intro k a b; rw [n3] at b; omega
  · intro i j a b d; rw [n3] at d; omega
  · intro k a b; rw [n4] at b; omega
  · exact ⟨⟨by omega, by omega⟩, ⟨by omega, by omega⟩, ⟨by omega, by omega⟩, by omega, by omega⟩
end
