/-! ===== tokens: both alike ===== -/
theorem orI {m : Nat} {P a b : Int} (hP : P = ((2 ^ m : Nat) : Int)) (a0 : 0 ≤ a) (b0 : 0 ≤ b) (b1 : b < P) (h : a * P + b < 2147483648) : z_or (a * P) b = a * P + b := by
  obtain ⟨u, rfl⟩ : ∃ u : Nat, a = u := ⟨a.toNat, by omega⟩
  obtain ⟨v, rfl⟩ : ∃ v : Nat, b = v := ⟨b.toNat, by omega⟩
  subst hP
  have e : (u : Int) * ((2 ^ m : Nat) : Int) = ((2 ^ m * u : Nat) : Int) := by rw [Int.natCast_mul, Int.mul_comm]
  rw [e] at h ⊢
  rw [or_add (by omega) (by omega)]
  omega
theorem rstep {a d : Int} (a0 : 0 ≤ a) (a1 : a < 33554432) (d0 : 0 ≤ d) (d1 : d < 32) : z_or (z_shl a 5) d = a * 32 + d := by
  obtain ⟨u, rfl⟩ : ∃ u : Nat, a = u := ⟨a.toNat, by omega⟩
  rw [shl_5 (by omega), (by omega : ((2 ^ 5 * u : Nat) : Int) = (u : Int) * 32), orI (m := 5) (P := 32) rfl a0 d0 d1 (by omega)]
theorem inP_0 {y : Int} (h : isL y) : inP y 0 = (y - 96) * 33554432 := by
  have := fin_of (n := 26) (p := fun z => inP (z + 97) 0 = (z + 1) * 33554432) (by decide +kernel) (x := y - 97) (by omega) (by omega)
  rw [(by omega : y - 97 + 97 = y)] at this
  omega
theorem inP_1 {y : Int} (h : isL y) : inP y 1 = (y - 96) * 1048576 := by
  have := fin_of (n := 26) (p := fun z => inP (z + 97) 1 = (z + 1) * 1048576) (by decide +kernel) (x := y - 97) (by omega) (by omega)
  rw [(by omega : y - 97 + 97 = y)] at this
  omega
theorem inP_2 {y : Int} (h : isL y) : inP y 2 = (y - 96) * 32768 := by
  have := fin_of (n := 26) (p := fun z => inP (z + 97) 2 = (z + 1) * 32768) (by decide +kernel) (x := y - 97) (by omega) (by omega)
  rw [(by omega : y - 97 + 97 = y)] at this
  omega
theorem inP_3 {y : Int} (h : isL y) : inP y 3 = (y - 96) * 1024 := by
  have := fin_of (n := 26) (p := fun z => inP (z + 97) 3 = (z + 1) * 1024) (by decide +kernel) (x := y - 97) (by omega) (by omega)
  rw [(by omega : y - 97 + 97 = y)] at this
  omega
theorem inP_4 {y : Int} (h : isL y) : inP y 4 = (y - 96) * 32 := by
  have := fin_of (n := 26) (p := fun z => inP (z + 97) 4 = (z + 1) * 32) (by decide +kernel) (x := y - 97) (by omega) (by omega)
  rw [(by omega : y - 97 + 97 = y)] at this
  omega
theorem inP_5 {y : Int} (h : isL y) : inP y 5 = (y - 96) * 1 := by
  have := fin_of (n := 26) (p := fun z => inP (z + 97) 5 = (z + 1) * 1) (by decide +kernel) (x := y - 97) (by omega) (by omega)
  rw [(by omega : y - 97 + 97 = y)] at this
  omega
def p32 : Nat → Int
  | 0 => 1
  | k + 1 => 32 * p32 k
def pkR : Nat → List Int → Int
  | 0, _ => 0
  | _ + 1, [] => 0
  | k + 1, y :: w => (y - 96) * p32 k + pkR k w
theorem p32_pos : ∀ k, 1 ≤ p32 k := by
  intro k
  induction k with
  | zero => decide
  | succ k ih => show 1 ≤ 32 * p32 k; omega
theorem pkR_rng : ∀ (k : Nat) (w : List Int), (∀ y ∈ w, isL y) → 0 ≤ pkR k w ∧ pkR k w < p32 k := by
  intro k
  induction k with
  | zero => intro w _; exact ⟨by show (0:Int) ≤ 0; decide, by show (0:Int) < 1; decide⟩
  | succ k ih =>
    intro w hw
    have hp := p32_pos k
    cases w with
    | nil => exact ⟨by show (0:Int) ≤ 0; decide, by show (0:Int) < 32 * p32 k; omega⟩
    | cons y w =>
      have hy : isL y := hw y (List.mem_cons_self ..)
      have h1 := ih w (fun z hz => hw z (List.mem_cons_of_mem _ hz))
      have m1 : 0 ≤ (y - 96) * p32 k := Int.mul_nonneg (by omega) (by omega)
      have m2 : (y - 96) * p32 k ≤ 26 * p32 k := Int.mul_le_mul_of_nonneg_right (by omega) (by omega)
      exact ⟨by show 0 ≤ (y - 96) * p32 k + pkR k w; omega, by show (y - 96) * p32 k + pkR k w < 32 * p32 k; omega⟩
theorem pkR_inj : ∀ (k : Nat) (w w' : List Int), (∀ y ∈ w, isL y) → (∀ y ∈ w', isL y) → w.length ≤ k → w'.length ≤ k → pkR k w = pkR k w' → w = w' := by
  intro k
  induction k with
  | zero =>
    intro w w' _ _ h1 h2 _
    rw [List.length_eq_zero_iff.mp (by omega : w.length = 0), List.length_eq_zero_iff.mp (by omega : w'.length = 0)]
  | succ k ih =>
    intro w w' hw hw' h1 h2 e
    have hp := p32_pos k
    cases w with
    | nil =>
      cases w' with
      | nil => rfl
      | cons y w' =>
        have hy : isL y := hw' y (List.mem_cons_self ..)
        have r := pkR_rng k w' (fun z hz => hw' z (List.mem_cons_of_mem _ hz))
        have m1 : 1 * p32 k ≤ (y - 96) * p32 k := Int.mul_le_mul_of_nonneg_right (by omega) (by omega)
        have e' : (0 : Int) = (y - 96) * p32 k + pkR k w' := e
        omega
    | cons y w =>
      have hy : isL y := hw y (List.mem_cons_self ..)
      have r := pkR_rng k w (fun z hz => hw z (List.mem_cons_of_mem _ hz))
      cases w' with
      | nil =>
        have m1 : 1 * p32 k ≤ (y - 96) * p32 k := Int.mul_le_mul_of_nonneg_right (by omega) (by omega)
        have e' : (y - 96) * p32 k + pkR k w = 0 := e
        omega
      | cons y' w' =>
        have hy' : isL y' := hw' y' (List.mem_cons_self ..)
        have r' := pkR_rng k w' (fun z hz => hw' z (List.mem_cons_of_mem _ hz))
        have e' : (y - 96) * p32 k + pkR k w = (y' - 96) * p32 k + pkR k w' := e
        have hyy : y = y' := by
          rcases (by omega : y = y' ∨ y + 1 ≤ y' ∨ y' + 1 ≤ y) with q | q | q
          · exact q
          · have m1 : (y - 96 + 1) * p32 k ≤ (y' - 96) * p32 k := Int.mul_le_mul_of_nonneg_right (by omega) (by omega)
            rw [Int.add_mul] at m1
            omega
          · have m1 : (y' - 96 + 1) * p32 k ≤ (y - 96) * p32 k := Int.mul_le_mul_of_nonneg_right (by omega) (by omega)
            rw [Int.add_mul] at m1
            omega
        subst hyy
        rw [ih w w' (fun z hz => hw z (List.mem_cons_of_mem _ hz)) (fun z hz => hw' z (List.mem_cons_of_mem _ hz)) (by simpa using h1) (by simpa using h2) (by omega)]
section
variable {B : Int → Int} {p : Int}
theorem cvS {j : Int} (h : 0 ≤ j) : cv B p (j + 1) = z_or (cv B p j) (inP (B (p + j)) j) := by unfold cv; rw [fld_s _ _ h]
theorem rvS {l j : Int} (h : 0 ≤ j) : fld (rvF B p l) 0 (j + 1) = rvF B p l j (fld (rvF B p l) 0 j) := fld_s _ _ h
/-- both pack alike -/
theorem pack {l : Nat} (l0 : 1 ≤ l) (l1 : l ≤ 6) (hl : ∀ j, p ≤ j → j < p + l → isL (B j)) : cv B p l = pkR 6 (txt B p l) ∧ rv B p l = cv B p l := by
  have c0 : cv B p 0 = 0 := rfl
  have r0 : fld (rvF B p l) 0 0 = 0 := rfl
  have h0 := hl p (by omega) (by omega)
  have z0 : z_or 0 ((B p - 96) * 33554432) = (B p - 96) * 33554432 := by
    have := orI (m := 30) (P := 1073741824) (a := 0) (b := (B p - 96) * 33554432) (by decide) (by decide) (by omega) (by omega) (by omega)
    rw [(by decide : (0 : Int) * 1073741824 = 0)] at this
    omega
  have c1 : cv B p 1 = (B p - 96) * 33554432 := by rw [(by decide : (1 : Int) = 0 + 1), cvS (by decide), c0, Int.add_zero, inP_0 h0, z0]
  have st : ∀ {j a : Int}, 0 ≤ j → j < l → fld (rvF B p l) 0 j = a → 0 ≤ a → a < 33554432 → fld (rvF B p l) 0 (j + 1) = a * 32 + (B (p + j) - 96) := by
    intro j a j0 jl e a0 a1
    have hj := hl (p + j) (by omega) (by omega)
    rw [rvS j0, e]
    unfold rvF
    rw [if_pos jl, z_sub_id (by omega) (by omega), rstep a0 a1 (by omega) (by omega)]
  have sz : ∀ {j a : Int}, 0 ≤ j → (l : Int) ≤ j → fld (rvF B p l) 0 j = a → 0 ≤ a → a < 33554432 → fld (rvF B p l) 0 (j + 1) = a * 32 := by
    intro j a j0 jl e a0 a1
    rw [rvS j0, e]
    unfold rvF
    rw [if_neg (by omega), rstep a0 a1 (by omega) (by omega)]
    omega
  have r1 := st (j := 0) (by decide) (by omega) r0 (by decide) (by decide)
  rw [Int.add_zero] at r1
  have up : ∀ {P Q a y : Int} {m k : Nat}, P = ((2 ^ m : Nat) : Int) → Q * 32 = P → (1 ≤ Q) → 0 ≤ a → isL y → (a * 32 + (y - 96)) * Q < 2147483648 → z_or (a * P) ((y - 96) * Q) = (a * 32 + (y - 96)) * Q := by
    intro P Q a y m k hP hQ hQ1 a0 hy hb
    have m1 : 0 ≤ (y - 96) * Q := Int.mul_nonneg (by omega) (by omega)
    have m2 : (y - 96) * Q ≤ 26 * Q := Int.mul_le_mul_of_nonneg_right (by omega) (by omega)
    have e : (a * 32 + (y - 96)) * Q = a * P + (y - 96) * Q := by rw [Int.add_mul, Int.mul_assoc, Int.mul_comm 32 Q, hQ]
    rw [e] at hb ⊢
    exact orI hP a0 m1 (by omega) hb
  have t1 : (p : Int) + 1 + 1 = p + 2 := by omega
  have t2 : (p : Int) + 2 + 1 = p + 3 := by omega
  have t3 : (p : Int) + 3 + 1 = p + 4 := by omega
  have t4 : (p : Int) + 4 + 1 = p + 5 := by omega
  have tx1 : pkR 6 (txt B p 1) = (B p - 96) * 33554432 + 0 := rfl
  have tx2 : pkR 6 (txt B p 2) = (B p - 96) * 33554432 + ((B (p + 1) - 96) * 1048576 + 0) := rfl
  have tx3 : pkR 6 (txt B p 3) = (B p - 96) * 33554432 + ((B (p + 1) - 96) * 1048576 + ((B (p + 1 + 1) - 96) * 32768 + 0)) := rfl
  have tx4 : pkR 6 (txt B p 4) = (B p - 96) * 33554432 + ((B (p + 1) - 96) * 1048576 + ((B (p + 1 + 1) - 96) * 32768 + ((B (p + 1 + 1 + 1) - 96) * 1024 + 0))) := rfl
  have tx5 : pkR 6 (txt B p 5) = (B p - 96) * 33554432 + ((B (p + 1) - 96) * 1048576 + ((B (p + 1 + 1) - 96) * 32768 + ((B (p + 1 + 1 + 1) - 96) * 1024 + ((B (p + 1 + 1 + 1 + 1) - 96) * 32 + 0)))) := rfl
  have tx6 : pkR 6 (txt B p 6) = (B p - 96) * 33554432 + ((B (p + 1) - 96) * 1048576 + ((B (p + 1 + 1) - 96) * 32768 + ((B (p + 1 + 1 + 1) - 96) * 1024 + ((B (p + 1 + 1 + 1 + 1) - 96) * 32 + ((B (p + 1 + 1 + 1 + 1 + 1) - 96) * 1 + 0))))) := rfl
  rw [t1] at tx3
  rw [t1, t2] at tx4
  rw [t1, t2, t3] at tx5
  rw [t1, t2, t3, t4] at tx6
  have d1 : (0 : Int) + 1 = 1 := rfl
  have d2 : (1 : Int) + 1 = 2 := rfl
  have d3 : (2 : Int) + 1 = 3 := rfl
  have d4 : (3 : Int) + 1 = 4 := rfl
  have d5 : (4 : Int) + 1 = 5 := rfl
  have d6 : (5 : Int) + 1 = 6 := rfl
  rw [d1] at r1
  unfold rv
  rcases (by omega : l = 1 ∨ 2 ≤ l) with q | q
  · subst q
    have r2 := sz (j := 1) (by decide) (by decide) r1 (by omega) (by omega)
    rw [d2] at r2
    have r3 := sz (j := 2) (by decide) (by decide) r2 (by omega) (by omega)
    rw [d3] at r3
    have r4 := sz (j := 3) (by decide) (by decide) r3 (by omega) (by omega)
    rw [d4] at r4
    have r5 := sz (j := 4) (by decide) (by decide) r4 (by omega) (by omega)
    rw [d5] at r5
    have r6 := sz (j := 5) (by decide) (by decide) r5 (by omega) (by omega)
    rw [d6] at r6
    have c1' : cv B p ((1 : Nat) : Int) = (B p - 96) * 33554432 := c1
    rw [r6, c1', tx1]
    omega
  have h1 := hl (p + 1) (by omega) (by omega)
  have c2 : cv B p 2 = ((B p - 96) * 32 + (B (p + 1) - 96)) * 1048576 := by rw [← d2, cvS (by decide), c1, inP_1 h1]; exact up (m := 25) (k := 0) (by decide) (by decide) (by decide) (by omega) h1 (by omega)
  have r2 := st (j := 1) (by decide) (by omega) r1 (by omega) (by omega)
  rw [d2] at r2
  rcases (by omega : l = 2 ∨ 3 ≤ l) with q | q
  · subst q
    have r3 := sz (j := 2) (by decide) (by decide) r2 (by omega) (by omega)
    rw [d3] at r3
    have r4 := sz (j := 3) (by decide) (by decide) r3 (by omega) (by omega)
    rw [d4] at r4
    have r5 := sz (j := 4) (by decide) (by decide) r4 (by omega) (by omega)
    rw [d5] at r5
    have r6 := sz (j := 5) (by decide) (by decide) r5 (by omega) (by omega)
    rw [d6] at r6
    have c2' : cv B p ((2 : Nat) : Int) = ((B p - 96) * 32 + (B (p + 1) - 96)) * 1048576 := c2
    rw [r6, c2', tx2]
    omega
  have h2 := hl (p + 2) (by omega) (by omega)
  have c3 : cv B p 3 = (((B p - 96) * 32 + (B (p + 1) - 96)) * 32 + (B (p + 2) - 96)) * 32768 := by rw [← d3, cvS (by decide), c2, inP_2 h2]; exact up (m := 20) (k := 0) (by decide) (by decide) (by decide) (by omega) h2 (by omega)
  have r3 := st (j := 2) (by decide) (by omega) r2 (by omega) (by omega)
  rw [d3] at r3
  rcases (by omega : l = 3 ∨ 4 ≤ l) with q | q
  · subst q
    have r4 := sz (j := 3) (by decide) (by decide) r3 (by omega) (by omega)
    rw [d4] at r4
    have r5 := sz (j := 4) (by decide) (by decide) r4 (by omega) (by omega)
    rw [d5] at r5
    have r6 := sz (j := 5) (by decide) (by decide) r5 (by omega) (by omega)
    rw [d6] at r6
    have c3' : cv B p ((3 : Nat) : Int) = (((B p - 96) * 32 + (B (p + 1) - 96)) * 32 + (B (p + 2) - 96)) * 32768 := c3
    rw [r6, c3', tx3]
    omega
  have h3 := hl (p + 3) (by omega) (by omega)
  have c4 : cv B p 4 = ((((B p - 96) * 32 + (B (p + 1) - 96)) * 32 + (B (p + 2) - 96)) * 32 + (B (p + 3) - 96)) * 1024 := by rw [← d4, cvS (by decide), c3, inP_3 h3]; exact up (m := 15) (k := 0) (by decide) (by decide) (by decide) (by omega) h3 (by omega)
  have r4 := st (j := 3) (by decide) (by omega) r3 (by omega) (by omega)
  rw [d4] at r4
  rcases (by omega : l = 4 ∨ 5 ≤ l) with q | q
  · subst q
    have r5 := sz (j := 4) (by decide) (by decide) r4 (by omega) (by omega)
    rw [d5] at r5
    have r6 := sz (j := 5) (by decide) (by decide) r5 (by omega) (by omega)
    rw [d6] at r6
    have c4' : cv B p ((4 : Nat) : Int) = ((((B p - 96) * 32 + (B (p + 1) - 96)) * 32 + (B (p + 2) - 96)) * 32 + (B (p + 3) - 96)) * 1024 := c4
    rw [r6, c4', tx4]
    omega
  have h4 := hl (p + 4) (by omega) (by omega)
  have c5 : cv B p 5 = (((((B p - 96) * 32 + (B (p + 1) - 96)) * 32 + (B (p + 2) - 96)) * 32 + (B (p + 3) - 96)) * 32 + (B (p + 4) - 96)) * 32 := by rw [← d5, cvS (by decide), c4, inP_4 h4]; exact up (m := 10) (k := 0) (by decide) (by decide) (by decide) (by omega) h4 (by omega)
  have r5 := st (j := 4) (by decide) (by omega) r4 (by omega) (by omega)
  rw [d5] at r5
  rcases (by omega : l = 5 ∨ l = 6) with q | q
  · subst q
    have r6 := sz (j := 5) (by decide) (by decide) r5 (by omega) (by omega)
    rw [d6] at r6
    have c5' : cv B p ((5 : Nat) : Int) = (((((B p - 96) * 32 + (B (p + 1) - 96)) * 32 + (B (p + 2) - 96)) * 32 + (B (p + 3) - 96)) * 32 + (B (p + 4) - 96)) * 32 := c5
    rw [r6, c5', tx5]
    omega
  subst q
  have h5 := hl (p + 5) (by omega) (by omega)
  have c6 : cv B p 6 = ((((((B p - 96) * 32 + (B (p + 1) - 96)) * 32 + (B (p + 2) - 96)) * 32 + (B (p + 3) - 96)) * 32 + (B (p + 4) - 96)) * 32 + (B (p + 5) - 96)) * 1 := by rw [← d6, cvS (by decide), c5, inP_5 h5]; exact up (m := 5) (k := 0) (by decide) (by decide) (by decide) (by omega) h5 (by omega)
  have r6 := st (j := 5) (by decide) (by decide) r5 (by omega) (by omega)
  rw [d6] at r6
  have c6' : cv B p ((6 : Nat) : Int) = ((((((B p - 96) * 32 + (B (p + 1) - 96)) * 32 + (B (p + 2) - 96)) * 32 + (B (p + 3) - 96)) * 32 + (B (p + 4) - 96)) * 32 + (B (p + 5) - 96)) * 1 := c6
  rw [r6, c6', tx6]
  omega
theorem txt_L : ∀ (l : Nat) (p : Int), (∀ j, p ≤ j → j < p + l → isL (B j)) → ∀ y ∈ txt B p l, isL y := by
  intro l
  induction l with
  | zero => intro p _ y hy; cases hy
  | succ l ih =>
    intro p hl y hy
    have hy' : y ∈ B p :: txt B (p + 1) l := hy
    rcases List.mem_cons.mp hy' with r | r
    · rw [r]; exact hl p (by omega) (by omega)
    · exact ih (p + 1) (fun j a b => hl j (by omega) (by omega)) y r
end
theorem resW_no {tx : List Int} : ∀ (ws : List (List Int)) (k : Int), (∀ w ∈ ws, w ≠ tx) → resW tx ws k = -1 := by
  intro ws
  induction ws with
  | nil => intro k _; rfl
  | cons w ws ih =>
    intro k h
    show (if w = tx then k else resW tx ws (k + 1)) = -1
    rw [if_neg (h w (List.mem_cons_self ..))]
    exact ih _ (fun z hz => h z (List.mem_cons_of_mem _ hz))
theorem wc_pk : ∀ i : Fin 27, wTb ((i.val : Nat) : Int) = pkR 6 (WC.getD i.val []) := by decide +kernel
theorem wc_inj : ∀ i j : Fin 27, wTb ((i.val : Nat) : Int) = wTb ((j.val : Nat) : Int) → i = j := by decide +kernel
theorem wc_rk : ∀ i : Fin 27, resW (WC.getD i.val []) WL 0 = rk (1100 + ((i.val : Nat) : Int)) := by decide +kernel
theorem wc_in : ∀ w ∈ WL, ∃ i : Fin 27, w = WC.getD i.val [] := by decide +kernel
theorem wl_len : ∀ w ∈ WL, w.length ≤ 6 := by decide +kernel
theorem wc_len : ∀ i : Fin 27, (WC.getD i.val []).length ≤ 6 := by decide +kernel
theorem wc_L : ∀ i : Fin 27, ∀ y ∈ WC.getD i.val [], isL y := by decide +kernel
theorem rk_inj : ∀ i j : Fin 27, rk (1100 + ((i.val : Nat) : Int)) = rk (1100 + ((j.val : Nat) : Int)) → i = j := by decide +kernel
theorem rk_rng : ∀ i : Fin 27, 0 ≤ rk (1100 + ((i.val : Nat) : Int)) ∧ rk (1100 + ((i.val : Nat) : Int)) < 27 := by decide +kernel
/-- a word: what class and reference make of it -/
theorem word_eq {tx : List Int} (hL : ∀ y ∈ tx, isL y) (hl : tx.length ≤ 6) : (fi (pkR 6 tx) = -1 ∧ resW tx WL 0 = -1) ∨ (0 ≤ fi (pkR 6 tx) ∧ fi (pkR 6 tx) < 27 ∧ resW tx WL 0 = rk (1100 + fi (pkR 6 tx)) ∧ 0 ≤ rk (1100 + fi (pkR 6 tx))) := by
  unfold fi
  rcases fst_spec (fun i => wTb i = pkR 6 tx) (n := 27) (by decide) with ⟨a, b⟩ | ⟨a, b, d, -⟩
  · refine Or.inl ⟨a, resW_no WL 0 (fun w hw e => ?_)⟩
    obtain ⟨i, hi⟩ := wc_in w hw
    refine b ((i.val : Nat) : Int) (by omega) (by have := i.isLt; omega) ?_
    show wTb ((i.val : Nat) : Int) = pkR 6 tx
    rw [wc_pk i, ← hi, e]
  · refine Or.inr ⟨a, b, ?_⟩
    generalize fst (fun i => wTb i = pkR 6 tx) 27 = f at a b d ⊢
    obtain ⟨i, hi⟩ : ∃ i : Fin 27, f = ((i.val : Nat) : Int) := ⟨⟨f.toNat, by omega⟩, by show f = ((f.toNat : Nat) : Int); omega⟩
    subst hi
    have d' : wTb ((i.val : Nat) : Int) = pkR 6 tx := d
    rw [wc_pk i] at d'
    have e := pkR_inj 6 _ _ (wc_L i) hL (wc_len i) hl d'
    rw [← e]
    exact ⟨wc_rk i, (rk_rng i).1⟩
