/-! ===== the row of tokens ===== -/
abbrev TS (B : Int → Int) (n q N : Int) (K A P Q : Int → Int) : Prop := Q 0 = q ∧ 1 ≤ N ∧ N ≤ n - q + 1 ∧ K (N - 1) = 1000 ∧ (∀ j, 0 ≤ j → j < N - 1 → K j ≠ 1000) ∧ ∀ j, 0 ≤ j → j < N → (0 ≤ Q j ∧ Q j ≤ n) ∧ tP n (Q j) (K j) (A j) (P j) (Q (j + 1)) ∧ cTk B n (Q j) (K j) (A j) (P j) (Q (j + 1)) ∧ rTk B n (Q j) (K j) (A j) (P j) (Q (j + 1))
theorem TS_ex (B : Int → Int) {n : Int} (n1 : n ≤ 800) : ∀ (d : Nat) (q : Int), n - q < d → 0 ≤ q → q ≤ n → ∃ N K A P Q, TS B n q N K A P Q := by
  intro d
  induction d with
  | zero => intro q h _ _; omega
  | succ d ih =>
    intro q h q0 qn
    obtain ⟨K0, A0, P0, q', h1, h2, h3⟩ := tok_ex B n1 q0 qn
    by_cases hk : K0 = 1000
    · refine ⟨1, fun _ => K0, fun _ => A0, fun _ => P0, fun j => if j = 0 then q else q', rfl, by decide, by omega, hk, fun j a b => absurd b (by omega), fun j a b => ?_⟩
      have : j = 0 := by omega
      subst this
      exact ⟨⟨q0, qn⟩, h1, h2, h3⟩
    · have h1' : q < q' ∧ q' ≤ n := by rcases h1.2 with r | r <;> omega
      obtain ⟨N, K, A, P, Q, g1, g2, g3, g4, g5, g6⟩ := ih q' (by omega) (by omega) (by omega)
      refine ⟨N + 1, fun j => if j = 0 then K0 else K (j - 1), fun j => if j = 0 then A0 else A (j - 1), fun j => if j = 0 then P0 else P (j - 1), fun j => if j = 0 then q else Q (j - 1), rfl, by omega, by omega, ?_, fun j a b => ?_, fun j a b => ?_⟩
      · dsimp only
        rw [if_neg (by omega), (by omega : N + 1 - 1 - 1 = N - 1)]; exact g4
      · dsimp only
        by_cases r : j = 0
        · rw [if_pos r]; exact hk
        · rw [if_neg r]; exact g5 (j - 1) (by omega) (by omega)
      · dsimp only
        by_cases r : j = 0
        · subst r
          have e : (if (0 : Int) + 1 = 0 then q else Q (0 + 1 - 1)) = q' := by rw [if_neg (by decide)]; exact g1
          rw [e]
          exact ⟨⟨q0, qn⟩, h1, h2, h3⟩
        · have := g6 (j - 1) (by omega) (by omega)
          rw [if_neg r, if_neg r, if_neg r, if_neg r, if_neg (by omega), (by omega : j + 1 - 1 = j - 1 + 1)]
          exact this
section
variable {B K A P Q : Int → Int} {n N : Int} {M : zM}
abbrev tC (N : Int) (K A P : Int → Int) (M : zM) (p : Int) : Prop := M 2 9 = p ∧ M 2 10 = K p ∧ M 2 11 = A p ∧ M 2 12 = P p ∧ 0 ≤ p ∧ p < N ∧ M 2 5 = N ∧ ∀ j, 0 ≤ j → j < N → M 5 j = K j ∧ M 6 j = A j ∧ M 7 j = P j
abbrev fP (M m : zM) : Prop := ∀ a k, ¬ (a = 2 ∧ 9 ≤ k ∧ k ≤ 12) → m a k = M a k
theorem e_X10_step {p : Int} (hN : N ≤ 801) (h6 : M 2 6 = 5) (h7 : M 2 7 = 6) (h8 : M 2 8 = 7) (h9 : M 2 9 = p) (p0 : -1 ≤ p) (p1 : p + 1 < N) (h5 : M 2 5 = N) (ha : ∀ j, 0 ≤ j → j < N → M 5 j = K j ∧ M 6 j = A j ∧ M 7 j = P j) : ∃ m, zm_X10_step zLa [zA 10 2] M = some ([], m) ∧ fP M m ∧ tC N K A P m (p + 1) := by
  have hp := ha (p + 1) (by omega) p1
  have lt : ∀ {L : Int}, L = 801 → 0 ≤ p + 1 ∧ p + 1 < L := fun e => ⟨by omega, by omega⟩
  refine ⟨z_wr (z_wr (z_wr (z_wr M 2 9 (p + 1)) 2 10 (K (p + 1))) 2 11 (A (p + 1))) 2 12 (P (p + 1)), ?_, fun a k q => by rw [z_wr_ne (by omega), z_wr_ne (by omega), z_wr_ne (by omega), z_wr_ne (by omega)], ?_⟩
  · rw [zr_X10_step]
    refine z_out_some ?_
    rw [zb_X10_step_0, h9, h5, z_add_id (by omega) (by omega), if_pos p1, z_lt_eq, z_wr_eq, z_wr_ne (M := M) (by omega), h6, if_pos (lt la_5), z_wr_ne (M := M) (by omega), hp.1, z_lt_eq]
    rw [z_wr_ne (a := 2) (i := 10) (b := 2) (j := 9) (by omega), z_wr_eq, z_wr_ne (a := 2) (i := 10) (b := 2) (j := 7) (by omega), z_wr_ne (M := M) (by omega), h7, if_pos (lt la_6), z_wr_ne (a := 2) (i := 10) (b := 6) (by omega), z_wr_ne (M := M) (by omega), hp.2.1, z_lt_eq]
    rw [z_wr_ne (a := 2) (i := 11) (b := 2) (j := 9) (by omega), z_wr_ne (a := 2) (i := 10) (b := 2) (j := 9) (by omega), z_wr_eq, z_wr_ne (a := 2) (i := 11) (b := 2) (j := 8) (by omega), z_wr_ne (a := 2) (i := 10) (b := 2) (j := 8) (by omega), z_wr_ne (M := M) (by omega), h8, if_pos (lt la_7), z_wr_ne (a := 2) (i := 11) (b := 7) (by omega), z_wr_ne (a := 2) (i := 10) (b := 7) (by omega), z_wr_ne (M := M) (by omega), hp.2.2, z_lt_eq]
  · refine ⟨by rw [z_wr_ne (by omega), z_wr_ne (by omega), z_wr_ne (by omega), z_wr_eq], by rw [z_wr_ne (by omega), z_wr_ne (by omega), z_wr_eq], by rw [z_wr_ne (by omega), z_wr_eq], z_wr_eq _ _ _ _, by omega, p1, by rw [z_wr_ne (by omega), z_wr_ne (by omega), z_wr_ne (by omega), z_wr_ne (by omega)]; exact h5, fun j a b => ?_⟩
    have := ha j a b
    rw [z_wr_ne (by omega), z_wr_ne (by omega), z_wr_ne (by omega), z_wr_ne (by omega), z_wr_ne (by omega), z_wr_ne (by omega), z_wr_ne (by omega), z_wr_ne (by omega), z_wr_ne (by omega), z_wr_ne (by omega), z_wr_ne (by omega), z_wr_ne (by omega)]
    exact this
/-- what cutting may write -/
abbrev fK (M m : zM) : Prop := ∀ a k, ¬ (a = 2 ∧ ((2 ≤ k ∧ k ≤ 5) ∨ (9 ≤ k ∧ k ≤ 12))) → ¬ (5 ≤ a ∧ a ≤ 7) → m a k = M a k
theorem e_X10_cut (hT : TS B n 0 N K A P Q) (n0 : 0 ≤ n) (n1 : n ≤ 800) (h0 : M 2 0 = 3) (h1 : M 2 1 = 4) (h6 : M 2 6 = 5) (h7 : M 2 7 = 6) (h8 : M 2 8 = 7) (hfd : n ≤ M 2 2) (hb : ∀ j, 0 ≤ j → j < n → M 4 j = B j) (hw : wC M) : ∃ m, zm_X10_cut zLa [zA 10 2, zI n] M = some ([], m) ∧ fK M m ∧ m 2 2 = 0 ∧ tC N K A P m 0 := by
  obtain ⟨t1, t2, t3, t4, t5, t6⟩ := hT
  have hmin : z_min n (M 2 2) = n := by unfold z_min; rw [if_neg (by omega)]
  -- one token more
  have tokn : ∀ (j : Int) (m : zM), 0 ≤ j → j < N → fK M m → m 2 2 = 0 → m 2 3 = n → m 2 4 = Q j → m 2 5 = j → (∀ i, 0 ≤ i → i < j → m 5 i = K i ∧ m 6 i = A i ∧ m 7 i = P i) → ∃ m', (∀ w1, z_ev (zcd_X10_cut zLa) 1 [zA 10 2, w1] [] m = if K j = 1000 then z_lt (z_wr m' 2 9 (-1:Int)) (fun M6 => z_bV (zm_X10_step zLa [zA 10 2] M6) (fun M7 => some (.inl ([], M7)))) else z_ev (zcd_X10_cut zLa) 1 [zA 10 2, w1] [] m') ∧ fK M m' ∧ m' 2 2 = 0 ∧ m' 2 3 = n ∧ m' 2 4 = Q (j + 1) ∧ m' 2 5 = j + 1 ∧ ∀ i, 0 ≤ i → i < j + 1 → m' 5 i = K i ∧ m' 6 i = A i ∧ m' 7 i = P i := by
    intro j m j0 j1 hf m22 m23 m24 m25 hrow
    obtain ⟨hq, hp, hc, -⟩ := t6 j j0 j1
    have hk : kC B n m := ⟨(hf _ _ (by omega) (by omega)).trans h0, (hf _ _ (by omega) (by omega)).trans h1, m23, fun i a b => (hf _ _ (by omega) (by omega)).trans (hb i a b), fun i a b => (hf _ _ (by omega) (by omega)).trans (hw i a b)⟩
    obtain ⟨m1, e1, hf1, a4, a10, a11, a12⟩ := hc m hk m24
    have a5 : m1 2 5 = j := (hf1 _ _ (by omega)).trans m25
    have a6 : m1 2 6 = 5 := (hf1 _ _ (by omega)).trans ((hf _ _ (by omega) (by omega)).trans h6)
    have a7 : m1 2 7 = 6 := (hf1 _ _ (by omega)).trans ((hf _ _ (by omega) (by omega)).trans h7)
    have a8 : m1 2 8 = 7 := (hf1 _ _ (by omega)).trans ((hf _ _ (by omega) (by omega)).trans h8)
    have lt : ∀ {L : Int}, L = 801 → 0 ≤ j ∧ j < L := fun e => ⟨by omega, by omega⟩
    have g : ∀ {m : zM} {a i v k : Int}, 5 ≤ a → z_wr m a i v 2 k = m 2 k := fun q => z_wr_ne (Or.inl (by omega))
    refine ⟨z_wr (z_wr (z_wr (z_wr m1 5 j (K j)) 6 j (A j)) 7 j (P j)) 2 5 (j + 1), fun w1 => ?_, fun a k q1 q2 => ?_, ?_, ?_, ?_, z_wr_eq _ _ _ _, fun i i0 i1 => ?_⟩
    · rw [zb_X10_cut_1, e1, z_bV_mk, a5, a6, if_pos (lt la_5), a10, z_lt_eq, g (by decide), a5, g (by decide), a7, if_pos (lt la_6), g (by decide), a11, z_lt_eq, g (by decide), g (by decide), a5, g (by decide), g (by decide), a8, if_pos (lt la_7), g (by decide), g (by decide), a12, z_lt_eq, g (by decide), g (by decide), g (by decide), a5, z_add_id (by omega) (by omega), z_lt_eq, z_wr_ne (a := 2) (i := 5) (b := 2) (j := 10) (by omega), g (by decide), g (by decide), g (by decide), a10, z_wr_eq]
      by_cases q : K j = 1000
      · rw [if_pos q, if_pos q]
      · have : j ≠ N - 1 := fun r => q (by rw [r]; exact t4)
        rw [if_neg q, if_neg q, if_pos (by omega)]
    · rw [z_wr_ne (by omega), z_wr_ne (by omega), z_wr_ne (by omega), z_wr_ne (by omega), hf1 a k (by omega)]; exact hf a k q1 q2
    · rw [z_wr_ne (by omega), g (by decide), g (by decide), g (by decide), hf1 _ _ (by omega)]; exact m22
    · rw [z_wr_ne (by omega), g (by decide), g (by decide), g (by decide), hf1 _ _ (by omega)]; exact m23
    · rw [z_wr_ne (by omega), g (by decide), g (by decide), g (by decide)]; exact a4
    · rcases (by omega : i < j ∨ i = j) with r | r
      · have := hrow i i0 r
        rw [z_wr_ne (by omega), z_wr_ne (by omega), z_wr_ne (by omega), z_wr_ne (by omega), z_wr_ne (by omega), z_wr_ne (by omega), z_wr_ne (by omega), z_wr_ne (by omega), z_wr_ne (by omega), z_wr_ne (by omega), z_wr_ne (by omega), z_wr_ne (by omega), hf1 _ _ (by omega), hf1 _ _ (by omega), hf1 _ _ (by omega)]
        exact this
      · subst r
        exact ⟨by rw [z_wr_ne (by omega), z_wr_ne (by omega), z_wr_ne (by omega), z_wr_eq], by rw [z_wr_ne (by omega), z_wr_ne (by omega), z_wr_eq], by rw [z_wr_ne (by omega), z_wr_eq]⟩
  obtain ⟨m, e, hf, m22, m23, m24, m25, hrow⟩ := lp_ex (fun _ (m : zM) => z_ev (zcd_X10_cut zLa) 1 [zA 10 2, zI n] [] m) (fun j m => fK M m ∧ m 2 2 = 0 ∧ m 2 3 = n ∧ m 2 4 = Q j ∧ m 2 5 = j ∧ ∀ i, 0 ≤ i → i < j → m 5 i = K i ∧ m 6 i = A i ∧ m 7 i = P i) (n := N - 1) 0 (fun j m j0 j1 ⟨hf, m22, m23, m24, m25, hrow⟩ => by
    obtain ⟨m', e', h'⟩ := tokn j m j0 (by omega) hf m22 m23 m24 m25 hrow
    refine ⟨m', ?_, h'⟩
    rw [e', if_neg (t5 j j0 j1)]) (s := z_wr (z_wr (z_wr (z_wr M 2 3 n) 2 2 0) 2 4 0) 2 5 0) (by omega) ⟨fun a k q1 q2 => by rw [z_wr_ne (by omega), z_wr_ne (by omega), z_wr_ne (by omega), z_wr_ne (by omega)], by rw [z_wr_ne (by omega), z_wr_ne (by omega), z_wr_eq], by rw [z_wr_ne (by omega), z_wr_ne (by omega), z_wr_ne (by omega), z_wr_eq], by rw [z_wr_ne (by omega), z_wr_eq, t1], z_wr_eq _ _ _ _, fun i a b => absurd b (by omega)⟩
  try dsimp only at e
  obtain ⟨m', e', hf', b22, b23, b24, b25, hrow'⟩ := tokn (N - 1) m (by omega) (by omega) hf m22 m23 m24 m25 hrow
  rw [(by omega : N - 1 + 1 = N)] at b25 hrow'
  have fx : ∀ a k, ¬ (a = 2 ∧ k = 9) → z_wr m' 2 9 (-1) a k = m' a k := fun a k q => z_wr_ne (by omega)
  obtain ⟨m2, e2, hf2, ht2⟩ := e_X10_step (M := z_wr m' 2 9 (-1)) (N := N) (K := K) (A := A) (P := P) (p := -1) (by omega) ((fx _ _ (by omega)).trans ((hf' _ _ (by omega) (by omega)).trans h6)) ((fx _ _ (by omega)).trans ((hf' _ _ (by omega) (by omega)).trans h7)) ((fx _ _ (by omega)).trans ((hf' _ _ (by omega) (by omega)).trans h8)) (z_wr_eq _ _ _ _) (by omega) (by omega) ((fx _ _ (by omega)).trans b25) (fun j a b => by
    have := hrow' j a b
    rw [fx _ _ (by omega), fx _ _ (by omega), fx _ _ (by omega)]; exact this)
  refine ⟨m2, ?_, fun a k q1 q2 => by rw [hf2 a k (by omega), fx a k (by omega)]; exact hf' a k q1 q2, by rw [hf2 _ _ (by omega), fx _ _ (by omega)]; exact b22, ht2⟩
  rw [zr_X10_cut]
  refine z_out_some ?_
  rw [zb_X10_cut_0, hmin, z_lt_eq, z_lt_eq, z_lt_eq, z_lt_eq, e, e', if_pos t4, z_lt_eq, e2, z_bV_mk]
end
