/-! ===== pure base: answers, numbers, loops, the view of a case ===== -/
theorem z_out_some {o : Option zRs} {r : List zV × zM} (h : o = some (.inl r)) : z_out o = some r := by rw [h]; rfl
theorem z_bI_some {o : Option (List zV × zM)} {k : Int → zM → Option zRs} {v : Int} {M' : zM} (h : o = some ([zI v], M')) : z_bI o k = k v M' := by rw [h]; rfl
theorem z_bJ_some {o : Option (List zV × zM)} {k : Int → zM → Option zRs} {v : Int} {M' : zM} (h : o = some ([zJ v], M')) : z_bJ o k = k v M' := by rw [h]; rfl
theorem z_bV_some {o : Option (List zV × zM)} {k : zM → Option zRs} {M' : zM} (h : o = some ([], M')) : z_bV o k = k M' := by rw [h]; rfl
theorem z_bI_mk (k : Int → zM → Option zRs) (v : Int) (M' : zM) : z_bI (some ([zI v], M')) k = k v M' := rfl
theorem z_bJ_mk (k : Int → zM → Option zRs) (v : Int) (M' : zM) : z_bJ (some ([zJ v], M')) k = k v M' := rfl
theorem z_bV_mk (k : zM → Option zRs) (M' : zM) : z_bV (some ([], M')) k = k M' := rfl
theorem z_w32_id {n : Int} (h : -2147483648 ≤ n) (h2 : n < 2147483648) : z_w32 n = n := by unfold z_w32; omega
theorem z_w64_id {n : Int} (h : -9223372036854775808 ≤ n) (h2 : n < 9223372036854775808) : z_w64 n = n := by unfold z_w64; omega
theorem z_add_id {a b : Int} (h : -2147483648 ≤ a + b) (h2 : a + b < 2147483648) : z_add a b = a + b := z_w32_id h h2
theorem z_sub_id {a b : Int} (h : -2147483648 ≤ a - b) (h2 : a - b < 2147483648) : z_sub a b = a - b := z_w32_id h h2
theorem z_mul_id {a b : Int} (h : -2147483648 ≤ a * b) (h2 : a * b < 2147483648) : z_mul a b = a * b := z_w32_id h h2
theorem z_lt_eq {α : Type} (M : zM) (k : zM → α) : z_lt M k = k M := rfl
theorem z_wr_eq (M : zM) (a i v : Int) : z_wr M a i v a i = v := by simp [z_wr]
theorem z_wr_ne {M : zM} {a i v b j : Int} (h : b ≠ a ∨ j ≠ i) : z_wr M a i v b j = M b j := by
  unfold z_wr
  rw [if_neg]
  rintro ⟨rfl, rfl⟩
  rcases h with h | h <;> exact h rfl
/-- one of two numbers by a truth -/
noncomputable def cite (p : Prop) (a b : Int) : Int := @ite Int p (Classical.propDecidable p) a b
theorem cite_pos {p : Prop} {a b : Int} (h : p) : cite p a b = a := by unfold cite; rw [if_pos h]
theorem cite_neg {p : Prop} {a b : Int} (h : ¬ p) : cite p a b = b := by unfold cite; rw [if_neg h]
/-- a truth as a number -/
noncomputable def b2i (p : Prop) : Int := cite p 1 0
theorem b2i_pos {p : Prop} (h : p) : b2i p = 1 := cite_pos h
theorem b2i_neg {p : Prop} (h : ¬ p) : b2i p = 0 := cite_neg h
theorem b2i_congr {p q : Prop} (h : p ↔ q) : b2i p = b2i q := by rw [propext h]
theorem b2i_01 (p : Prop) : b2i p = 0 ∨ b2i p = 1 := by
  rcases Classical.em p with h | h
  · right; exact b2i_pos h
  · left; exact b2i_neg h
theorem b2i_eq0 {p : Prop} : b2i p = 0 ↔ ¬ p := by
  rcases Classical.em p with h | h
  · rw [b2i_pos h]; exact ⟨fun q => absurd q (by decide), fun q => absurd h q⟩
  · rw [b2i_neg h]; exact ⟨fun _ => h, fun _ => rfl⟩
theorem b2i_ne0 {p : Prop} : ¬ b2i p = 0 ↔ p := by rw [b2i_eq0, Classical.not_not]
theorem b2i_rng (p : Prop) : 0 ≤ b2i p ∧ b2i p ≤ 1 := by rcases b2i_01 p with h | h <;> omega
/-- an answer 1 or 0 by a case -/
theorem z_b2i {p : Prop} {A : Option zRs} {M : zM} (h1 : p → A = some (.inl ([zI 1], M))) (h2 : ¬ p → A = some (.inl ([zI 0], M))) : A = some (.inl ([zI (b2i p)], M)) := by
  rcases Classical.em p with h | h
  · rw [b2i_pos h]; exact h1 h
  · rw [b2i_neg h]; exact h2 h
/-- how many k in 0 .. n - 1 are so -/
noncomputable def cntN (p : Int → Prop) : Nat → Int
  | 0 => 0
  | n + 1 => cntN p n + b2i (p n)
noncomputable def cnt (p : Int → Prop) (n : Int) : Int := cntN p n.toNat
theorem cnt_0 (p : Int → Prop) : cnt p 0 = 0 := rfl
theorem cnt_s (p : Int → Prop) {n : Int} (h : 0 ≤ n) : cnt p (n + 1) = cnt p n + b2i (p n) := by
  unfold cnt
  have e : (n + 1).toNat = n.toNat + 1 := by omega
  rw [e]
  show cntN p n.toNat + b2i (p (n.toNat : Int)) = _
  rw [Int.toNat_of_nonneg h]
theorem cntN_rng (p : Int → Prop) : ∀ n : Nat, 0 ≤ cntN p n ∧ cntN p n ≤ n := by
  intro n
  induction n with
  | zero => exact ⟨Int.le_refl _, Int.le_refl _⟩
  | succ n ih =>
    have h := b2i_rng (p n)
    show 0 ≤ cntN p n + b2i (p n) ∧ cntN p n + b2i (p n) ≤ ((n + 1 : Nat) : Int)
    omega
theorem cnt_rng (p : Int → Prop) {n : Int} (h : 0 ≤ n) : 0 ≤ cnt p n ∧ cnt p n ≤ n := by
  have h1 := cntN_rng p n.toNat
  unfold cnt
  omega
theorem cnt_congr {p q : Int → Prop} {n : Int} (h : ∀ k, 0 ≤ k → k < n → (p k ↔ q k)) : cnt p n = cnt q n := by
  unfold cnt
  have : ∀ m : Nat, (m : Int) ≤ n → cntN p m = cntN q m := by
    intro m
    induction m with
    | zero => intro _; rfl
    | succ m ih =>
      intro hm
      show cntN p m + b2i (p m) = cntN q m + b2i (q m)
      rw [ih (by omega), b2i_congr (h m (by omega) (by omega))]
  by_cases hn : 0 ≤ n
  · exact this _ (by omega)
  · have : n.toNat = 0 := by omega
    rw [this]
    rfl
/-- up a loop: the same function at the end -/
theorem lp_up {σ R : Type} (F : Int → σ → R) (g : Int → σ → σ) (I : Int → σ → Prop) {n : Int} (h : ∀ i s, 0 ≤ i → i < n → I i s → F i s = F (i + 1) (g i s) ∧ I (i + 1) (g i s)) : ∀ (m : Nat) (i : Int) (s : σ), 0 ≤ i → n - i = m → I i s → ∃ s', F i s = F n s' ∧ I n s' := by
  intro m
  induction m with
  | zero =>
    intro i s h0 hm hI
    have : i = n := by omega
    subst this
    exact ⟨s, rfl, hI⟩
  | succ m ih =>
    intro i s h0 hm hI
    obtain ⟨e, hI'⟩ := h i s h0 (by omega) hI
    obtain ⟨s', e', hI''⟩ := ih (i + 1) (g i s) (by omega) (by omega) hI'
    exact ⟨s', e.trans e', hI''⟩
/-! the first and the last k of 0 .. n - 1 that is so; -1 without one -/
noncomputable def fstN (p : Int → Prop) : Nat → Int
  | 0 => -1
  | n + 1 => if fstN p n = -1 then cite (p n) n (-1) else fstN p n
noncomputable def lstN (p : Int → Prop) : Nat → Int
  | 0 => -1
  | n + 1 => cite (p n) n (lstN p n)
noncomputable def fst (p : Int → Prop) (n : Int) : Int := fstN p n.toNat
noncomputable def lst (p : Int → Prop) (n : Int) : Int := lstN p n.toNat
theorem fstN_spec (p : Int → Prop) : ∀ n : Nat, (fstN p n = -1 ∧ ∀ k : Int, 0 ≤ k → k < n → ¬ p k) ∨ (0 ≤ fstN p n ∧ fstN p n < n ∧ p (fstN p n) ∧ ∀ k : Int, 0 ≤ k → k < fstN p n → ¬ p k) := by
  intro n
  induction n with
  | zero => exact Or.inl ⟨rfl, fun k h1 h2 => absurd h2 (by simpa using h1)⟩
  | succ n ih =>
    have hd : fstN p (n + 1) = if fstN p n = -1 then cite (p n) n (-1) else fstN p n := rfl
    rcases ih with ⟨h1, h2⟩ | ⟨h1, h2, h3, h4⟩
    · rw [if_pos h1] at hd
      by_cases hp : p (n : Int)
      · rw [cite_pos hp] at hd
        rw [hd]
        exact Or.inr ⟨by omega, by omega, hp, fun k a b => h2 k a b⟩
      · rw [cite_neg hp] at hd
        rw [hd]
        refine Or.inl ⟨rfl, fun k a b => ?_⟩
        by_cases hk : k = n
        · subst hk; exact hp
        · exact h2 k a (by omega)
    · rw [if_neg (by omega)] at hd
      rw [hd]
      exact Or.inr ⟨h1, by omega, h3, h4⟩
theorem lstN_spec (p : Int → Prop) : ∀ n : Nat, (lstN p n = -1 ∧ ∀ k : Int, 0 ≤ k → k < n → ¬ p k) ∨ (0 ≤ lstN p n ∧ lstN p n < n ∧ p (lstN p n) ∧ ∀ k : Int, lstN p n < k → k < n → ¬ p k) := by
  intro n
  induction n with
  | zero => exact Or.inl ⟨rfl, fun k h1 h2 => absurd h2 (by simpa using h1)⟩
  | succ n ih =>
    have hd : lstN p (n + 1) = cite (p n) n (lstN p n) := rfl
    by_cases hp : p (n : Int)
    · rw [cite_pos hp] at hd
      rw [hd]
      exact Or.inr ⟨by omega, by omega, hp, fun k a b => absurd b (by omega)⟩
    · rw [cite_neg hp] at hd
      rw [hd]
      rcases ih with ⟨h1, h2⟩ | ⟨h1, h2, h3, h4⟩
      · refine Or.inl ⟨h1, fun k a b => ?_⟩
        by_cases hk : k = n
        · subst hk; exact hp
        · exact h2 k a (by omega)
      · refine Or.inr ⟨h1, by omega, h3, fun k a b => ?_⟩
        by_cases hk : k = n
        · subst hk; exact hp
        · exact h4 k a (by omega)
theorem fst_spec (p : Int → Prop) {n : Int} (h : 0 ≤ n) : (fst p n = -1 ∧ ∀ k : Int, 0 ≤ k → k < n → ¬ p k) ∨ (0 ≤ fst p n ∧ fst p n < n ∧ p (fst p n) ∧ ∀ k : Int, 0 ≤ k → k < fst p n → ¬ p k) := by
  have h1 := fstN_spec p n.toNat
  rw [Int.toNat_of_nonneg h] at h1
  exact h1
theorem lst_spec (p : Int → Prop) {n : Int} (h : 0 ≤ n) : (lst p n = -1 ∧ ∀ k : Int, 0 ≤ k → k < n → ¬ p k) ∨ (0 ≤ lst p n ∧ lst p n < n ∧ p (lst p n) ∧ ∀ k : Int, lst p n < k → k < n → ¬ p k) := by
  have h1 := lstN_spec p n.toNat
  rw [Int.toNat_of_nonneg h] at h1
  exact h1
theorem lst_0 (p : Int → Prop) : lst p 0 = -1 := rfl
theorem lst_s (p : Int → Prop) {n : Int} (h : 0 ≤ n) : (p n → lst p (n + 1) = n) ∧ (¬ p n → lst p (n + 1) = lst p n) := by
  have e : (n + 1).toNat = n.toNat + 1 := by omega
  have hd : lst p (n + 1) = cite (p n) n (lst p n) := by
    unfold lst
    rw [e]
    show cite (p (n.toNat : Int)) (n.toNat : Int) (lstN p n.toNat) = _
    rw [Int.toNat_of_nonneg h]
  exact ⟨fun hp => by rw [hd, cite_pos hp], fun hp => by rw [hd, cite_neg hp]⟩
theorem fst_congr {p q : Int → Prop} {n : Int} (h : ∀ k, 0 ≤ k → k < n → (p k ↔ q k)) : fst p n = fst q n := by
  unfold fst
  have : ∀ m : Nat, (m : Int) ≤ n → fstN p m = fstN q m := by
    intro m
    induction m with
    | zero => intro _; rfl
    | succ m ih =>
      intro hm
      have e := propext (h m (by omega) (by omega))
      simp only [fstN, ih (by omega), e]
  by_cases hn : 0 ≤ n
  · exact this _ (by omega)
  · have : n.toNat = 0 := by omega
    rw [this]
    rfl
theorem lst_congr {p q : Int → Prop} {n : Int} (h : ∀ k, 0 ≤ k → k < n → (p k ↔ q k)) : lst p n = lst q n := by
  unfold lst
  have : ∀ m : Nat, (m : Int) ≤ n → lstN p m = lstN q m := by
    intro m
    induction m with
    | zero => intro _; rfl
    | succ m ih =>
      intro hm
      have e := propext (h m (by omega) (by omega))
      simp only [lstN, ih (by omega), e]
  by_cases hn : 0 ≤ n
  · exact this _ (by omega)
  · have : n.toNat = 0 := by omega
    rw [this]
    rfl
/-! loops that look for one -/
theorem lp_find {R : Type} (F : Int → R) (p : Int → Prop) {n : Int} (hn0 : 0 ≤ n) {A : Int → R} {B : R} (h1 : ∀ i, 0 ≤ i → i < n → p i → F i = A i) (h2 : ∀ i, 0 ≤ i → i < n → ¬ p i → F i = F (i + 1)) (h3 : F n = B) : (fst p n = -1 → F 0 = B) ∧ (fst p n ≠ -1 → F 0 = A (fst p n)) := by
  have up : ∀ (m : Nat) (j : Int), 0 ≤ j → j = m → j ≤ n → (∀ k, 0 ≤ k → k < j → ¬ p k) → F 0 = F j := by
    intro m
    induction m with
    | zero => intro j h0 hj _ _; subst hj; rfl
    | succ m ih =>
      intro j h0 hj hjn hk
      have e := ih (j - 1) (by omega) (by omega) (by omega) (fun k a b => hk k a (by omega))
      rw [e, h2 (j - 1) (by omega) (by omega) (hk (j - 1) (by omega) (by omega))]
      congr 1
      omega
  rcases fst_spec p hn0 with ⟨a, b⟩ | ⟨a, b, c, d⟩
  · refine ⟨fun _ => ?_, fun q => absurd a q⟩
    rw [up n.toNat n hn0 (by omega) (by omega) b, h3]
  · refine ⟨fun q => absurd q (by omega), fun _ => ?_⟩
    rw [up (fst p n).toNat (fst p n) a (by omega) (by omega) d, h1 _ a b c]
theorem lp_down {R : Type} (F : Int → R) (p : Int → Prop) {n : Int} (hn0 : 0 ≤ n) {A : Int → R} {B : R} (h1 : ∀ i, 0 ≤ i → i < n → p i → F i = A i) (h2 : ∀ i, 0 ≤ i → i < n → ¬ p i → F i = F (i - 1)) (h3 : F (-1) = B) : (lst p n = -1 → F (n - 1) = B) ∧ (lst p n ≠ -1 → F (n - 1) = A (lst p n)) := by
  have dn : ∀ (m : Nat) (j : Int), -1 ≤ j → n - 1 - j = m → (∀ k, j < k → k < n → ¬ p k) → F (n - 1) = F j := by
    intro m
    induction m with
    | zero => intro j h0 hj _; congr 1; omega
    | succ m ih =>
      intro j h0 hj hk
      have e := ih (j + 1) (by omega) (by omega) (fun k a b => hk k (by omega) b)
      rw [e, h2 (j + 1) (by omega) (by omega) (hk (j + 1) (by omega) (by omega))]
      congr 1
      omega
  rcases lst_spec p hn0 with ⟨a, b⟩ | ⟨a, b, c, d⟩
  · refine ⟨fun _ => ?_, fun q => absurd a q⟩
    rw [dn n.toNat (-1) (by omega) (by omega) (fun k x y => b k (by omega) y), h3]
  · refine ⟨fun q => absurd q (by omega), fun _ => ?_⟩
    rw [dn (n - 1 - lst p n).toNat (lst p n) (by omega) (by omega) d, h1 _ a b c]
