/-! ===== formulas: what they are worth ===== -/
abbrev tM : Int := 1000000000000
abbrev inM (x : Int) : Prop := -1000000000000 ≤ x ∧ x ≤ 1000000000000
def zab (x : Int) : Int := if x < 0 then -x else x
def bnd (x : Int) : Option Int := if x ≤ 1000000000000 then if x < -1000000000000 then none else some x else none
def op2 (c a b : Int) : Option Int :=
  if c = 1013 then bnd (a + b) else if c = 1014 then bnd (a - b)
  else if c = 1015 then (if a = 0 then some 0 else if b = 0 then some 0 else if zab b ≤ 1000000000000 / zab a then some (a * b) else none)
  else if c = 1016 then (if b = 0 then none else some (a.tdiv b))
  else if c = 1017 then some (if a < b then 1 else 0) else if c = 1018 then some (if a ≤ b then 1 else 0)
  else if c = 1019 then some (if a = b then 1 else 0) else if c = 1020 then some (if a = b then 0 else 1)
  else if c = 1021 then some (if a < b then 0 else 1) else if c = 1022 then some (if a ≤ b then 0 else 1)
  else if c = 1115 then some (if a = 0 then 0 else if b = 0 then 0 else 1)
  else some (if a = 0 then (if b = 0 then 0 else 1) else 1)
/-- one knot on a pile of values -/
def stp (nf : Int → Int) (c : Int) (l : List Int) : Option (List Int) :=
  if c ≤ 999 then some (c :: l) else if 1117 ≤ c ∧ c ≤ 1126 then some (nf (c - 1117) :: l)
  else if c = 1116 then (match l with | a :: r => some ((if a = 0 then 1 else 0) :: r) | [] => none)
  else (match l with | b :: a :: r => (match op2 c a b with | some v => some (v :: r) | none => none) | _ => none)
def evF (cd nf : Int → Int) : Nat → Int → List Int → Option (List Int)
  | 0, _, l => some l
  | n + 1, i, l => match stp nf (cd i) l with
    | some l' => evF cd nf n (i + 1) l'
    | none => none
def cR (o : Option (List Int)) : Int := match o with
  | some [v] => v
  | _ => -4000000000000000000
theorem zab_pos {x : Int} (h : x ≠ 0) : 0 < zab x := by unfold zab; split <;> omega
theorem zab_in {x : Int} (h : inM x) : zab x ≤ 1000000000000 ∧ 0 ≤ zab x := by unfold zab; split <;> omega
theorem inM_bnd {x v : Int} (h : bnd x = some v) : inM v ∧ x = v := by
  unfold bnd at h
  split at h
  · split at h
    · cases h
    · cases h; exact ⟨⟨by omega, by omega⟩, rfl⟩
  · cases h
theorem mul_in {a b : Int} (ha : a ≠ 0) (h : zab b ≤ 1000000000000 / zab a) : inM (a * b) := by
  have hp := zab_pos ha
  rw [Int.le_ediv_iff_mul_le hp] at h
  have h1 : zab b * zab a = a * b ∨ zab b * zab a = -(a * b) := by
    unfold zab
    split <;> split
    · left; rw [Int.neg_mul_neg, Int.mul_comm]
    · right; rw [Int.neg_mul, Int.mul_comm]
    · right; rw [Int.mul_neg, Int.mul_comm]
    · left; rw [Int.mul_comm]
  have h2 : 0 ≤ zab b * zab a := Int.mul_nonneg (by unfold zab; split <;> omega) (by omega)
  rcases h1 with h1 | h1 <;> exact ⟨by omega, by omega⟩
theorem tdiv_in {a b : Int} (ha : inM a) (hb : b ≠ 0) : inM (a.tdiv b) := by
  have h1 : ∀ x y : Int, 0 ≤ x → 0 < y → 0 ≤ x.tdiv y ∧ x.tdiv y ≤ x := fun x y hx hy => by
    rw [tdiv_pos hx]
    exact ⟨Int.ediv_nonneg hx (by omega), Int.ediv_le_self y hx⟩
  rcases (by omega : (0 ≤ a ∧ 0 < b) ∨ (0 ≤ a ∧ b < 0) ∨ (a < 0 ∧ 0 < b) ∨ (a < 0 ∧ b < 0)) with ⟨x, y⟩ | ⟨x, y⟩ | ⟨x, y⟩ | ⟨x, y⟩
  · have := h1 a b x y; exact ⟨by omega, by omega⟩
  · have h2 := h1 a (-b) x (by omega)
    rw [Int.tdiv_neg] at h2
    exact ⟨by omega, by omega⟩
  · have h2 := h1 (-a) b (by omega) y
    rw [Int.neg_tdiv] at h2
    exact ⟨by omega, by omega⟩
  · have h2 := h1 (-a) (-b) (by omega) (by omega)
    rw [Int.neg_tdiv, Int.tdiv_neg, Int.neg_neg] at h2
    exact ⟨by omega, by omega⟩
theorem op2_in {c a b v : Int} (ha : inM a) (hb : inM b) (h : op2 c a b = some v) : inM v := by
  have b01 : ∀ x : Int, x = 0 ∨ x = 1 → inM x := fun x hx => ⟨by omega, by omega⟩
  have key3 : ∀ (p : Prop) [Decidable p] (o1 o2 : Option Int) {v : Int}, (p → o1 = some v → inM v) → (¬ p → o2 = some v → inM v) → (if p then o1 else o2) = some v → inM v := by
    intro p _ o1 o2 v h1 h2 hh
    by_cases r : p
    · rw [if_pos r] at hh; exact h1 r hh
    · rw [if_neg r] at hh; exact h2 r hh
  have key2 : ∀ (p : Prop) [Decidable p] (x : Int) (o : Option Int) {v : Int}, (x = 0 ∨ x = 1) → (∀ v, o = some v → inM v) → (if p then some x else o) = some v → inM v := by
    intro p _ x o v hx ho hh
    by_cases r : p
    · rw [if_pos r] at hh; cases hh; exact b01 _ hx
    · rw [if_neg r] at hh; exact ho v hh
  have two : ∀ (p : Prop) [Decidable p] (x y : Int), (x = 0 ∨ x = 1) → (y = 0 ∨ y = 1) → ((if p then x else y) = 0 ∨ (if p then x else y) = 1) := by
    intro p _ x y hx hy
    by_cases r : p
    · rw [if_pos r]; exact hx
    · rw [if_neg r]; exact hy
  have z0 : (0 : Int) = 0 ∨ (0 : Int) = 1 := Or.inl rfl
  have z1 : (1 : Int) = 0 ∨ (1 : Int) = 1 := Or.inr rfl
  unfold op2 at h
  refine key3 _ _ _ (fun _ h => (inM_bnd h).1) (fun _ h => ?_) h
  refine key3 _ _ _ (fun _ h => (inM_bnd h).1) (fun _ h => ?_) h
  refine key3 _ _ _ (fun _ h => ?_) (fun _ h => ?_) h
  · refine key3 _ _ _ (fun _ h => by cases h; exact b01 0 z0) (fun q1 h => ?_) h
    refine key3 _ _ _ (fun _ h => by cases h; exact b01 0 z0) (fun q2 h => ?_) h
    refine key3 _ _ _ (fun q3 h => by cases h; exact mul_in q1 q3) (fun _ h => by cases h) h
  refine key3 _ _ _ (fun _ h => ?_) (fun _ h => ?_) h
  · refine key3 _ _ _ (fun _ h => by cases h) (fun q h => by cases h; exact tdiv_in ha q) h
  refine key2 _ _ _ (two _ _ _ z1 z0) (fun w hw => ?_) h
  refine key2 _ _ _ (two _ _ _ z1 z0) (fun w hw => ?_) hw
  refine key2 _ _ _ (two _ _ _ z1 z0) (fun w hw => ?_) hw
  refine key2 _ _ _ (two _ _ _ z0 z1) (fun w hw => ?_) hw
  refine key2 _ _ _ (two _ _ _ z0 z1) (fun w hw => ?_) hw
  refine key2 _ _ _ (two _ _ _ z0 z1) (fun w hw => ?_) hw
  refine key2 _ _ _ (two _ _ _ z0 (two _ _ _ z0 z1)) (fun w hw => ?_) hw
  cases hw
  exact b01 _ (two _ _ _ (two _ _ _ z0 z1) z1)
theorem stp_num {nf : Int → Int} {c : Int} (h : c ≤ 999) (l : List Int) : stp nf c l = some (c :: l) := by unfold stp; rw [if_pos h]
theorem stp_name {nf : Int → Int} {c : Int} (h : 1117 ≤ c ∧ c ≤ 1126) (l : List Int) : stp nf c l = some (nf (c - 1117) :: l) := by unfold stp; rw [if_neg (by omega), if_pos h]
theorem stp_not {nf : Int → Int} (a : Int) (r : List Int) : stp nf 1116 (a :: r) = some ((if a = 0 then 1 else 0) :: r) := rfl
theorem stp_not0 {nf : Int → Int} : stp nf 1116 [] = none := rfl
abbrev isB (c : Int) : Prop := ¬ c ≤ 999 ∧ ¬ (1117 ≤ c ∧ c ≤ 1126) ∧ ¬ c = 1116
theorem stp_b0 {nf : Int → Int} {c : Int} (h : isB c) : stp nf c [] = none := by unfold stp; rw [if_neg h.1, if_neg h.2.1, if_neg h.2.2]
theorem stp_b1 {nf : Int → Int} {c : Int} (h : isB c) (x : Int) : stp nf c [x] = none := by unfold stp; rw [if_neg h.1, if_neg h.2.1, if_neg h.2.2]
theorem stp_bs {nf : Int → Int} {c : Int} (h : isB c) {a b v : Int} (ho : op2 c a b = some v) (r : List Int) : stp nf c (b :: a :: r) = some (v :: r) := by unfold stp; rw [if_neg h.1, if_neg h.2.1, if_neg h.2.2]; simp only [ho]
theorem stp_bn {nf : Int → Int} {c : Int} (h : isB c) {a b : Int} (ho : op2 c a b = none) (r : List Int) : stp nf c (b :: a :: r) = none := by unfold stp; rw [if_neg h.1, if_neg h.2.1, if_neg h.2.2]; simp only [ho]
theorem evF_s {cd nf : Int → Int} {n : Nat} {i : Int} {l l' : List Int} (h : stp nf (cd i) l = some l') : evF cd nf (n + 1) i l = evF cd nf n (i + 1) l' := by simp only [evF, h]
theorem evF_n {cd nf : Int → Int} {n : Nat} {i : Int} {l : List Int} (h : stp nf (cd i) l = none) : evF cd nf (n + 1) i l = none := by simp only [evF, h]
abbrev inL (l : List Int) : Prop := ∀ x ∈ l, inM x
theorem inL_c {v : Int} {r : List Int} (h : inM v) (hr : inL r) : inL (v :: r) := fun x hx => by
  rcases List.mem_cons.1 hx with rfl | hx
  · exact h
  · exact hr x hx
theorem inL_t {v : Int} {r : List Int} (h : inL (v :: r)) : inM v ∧ inL r := ⟨h v (List.mem_cons_self ..), fun x hx => h x (List.mem_cons_of_mem _ hx)⟩
theorem z_w64_in {x : Int} (h : inM x) : z_w64 x = x := z_w64_id (by omega) (by omega)
theorem labs_eq {x : Int} (h : inM x) : z_labs x = zab x := by
  unfold z_labs zab
  by_cases q : 0 < x
  · rw [if_pos q, if_neg (by omega)]
  · rw [if_neg q, z_w64_id (by omega) (by omega)]
    split <;> omega
theorem ldiv_m {x : Int} (h0 : 0 < x) : z_ldiv 1000000000000 x = 1000000000000 / x := z_ldiv_pos (by decide) (by decide) (by omega)
/-! the class's small parts -/
theorem cmp3 {a b : Int} : ((if a < b then (-1 : Int) else if a = b then 0 else 1) < 0 ↔ a < b) ∧ ((if a < b then (-1 : Int) else if a = b then 0 else 1) ≤ 0 ↔ a ≤ b) ∧ ((if a < b then (-1 : Int) else if a = b then 0 else 1) = 0 ↔ a = b) := by
  refine ⟨?_, ?_, ?_⟩ <;> (split <;> (try split) <;> omega)
theorem e_X2_isBeyond (x : Int) (M : zM) : zm_X2_isBeyond zLa [zJ x] M = some ([zI (b2i (¬ inM x))], M) := by
  rw [zr_X2_isBeyond]
  refine z_out_some ?_
  rw [zb_X2_isBeyond_0]
  simp only [cmp3]
  repeat' split
  all_goals first | (rw [b2i_pos (by omega)]; done) | (rw [b2i_neg (by omega)]; done) | (exfalso; omega)
theorem e_X10_isName (x : Int) (M : zM) : zm_X10_isName zLa [zI x] M = some ([zI (b2i (1117 ≤ x ∧ x ≤ 1126))], M) := by
  rw [zr_X10_isName]
  refine z_out_some ?_
  rw [zb_X10_isName_0]
  repeat' split
  all_goals first | (rw [b2i_pos (by omega)]; done) | (rw [b2i_neg (by omega)]; done) | (exfalso; omega)
theorem e_X2_product {a b : Int} (ha : inM a) (hb : inM b) (M : zM) : zm_X2_product zLa [zJ a, zJ b] M = some ([zJ (match op2 1015 a b with | some v => v | none => -4000000000000000000)], M) := by
  have e : op2 1015 a b = (if a = 0 then some 0 else if b = 0 then some 0 else if zab b ≤ 1000000000000 / zab a then some (a * b) else none) := rfl
  rw [zr_X2_product, e]
  refine z_out_some ?_
  rw [zb_X2_product_0, labs_eq ha, labs_eq hb]
  simp only [cmp3]
  by_cases q1 : a = 0
  · rw [if_pos q1, if_pos q1]
  rw [if_neg q1, if_neg q1]
  by_cases q2 : b = 0
  · rw [if_pos q2, if_pos q2]
  have hp := zab_pos q1
  rw [if_neg q2, if_neg q2, if_neg (by omega), ldiv_m hp]
  by_cases q3 : zab b ≤ 1000000000000 / zab a
  · rw [if_pos q3, if_pos q3]
    unfold z_lmul
    rw [z_w64_in (mul_in q1 q3)]
  · rw [if_neg q3, if_neg q3]
abbrev notM (o : Option Int) (x : Int) : Prop := match o with
  | some v => x = v
  | none => ¬ inM x
theorem e_X2_join {a b : Int} (ha : inM a) (hb : inM b) (c : Int) (M : zM) : ∃ x, zm_X2_join zLa [zI c, zJ a, zJ b] M = some ([zJ x], M) ∧ notM (op2 c a b) x := by
  have hol : ∀ (c a b : Int), c ≠ 1013 → c ≠ 1014 → c ≠ 1015 → c ≠ 1016 → ∃ x, zm_X2_holds zLa [zI c, zJ a, zJ b] M = some ([zI x], M) ∧ op2 c a b = some (if x = 0 then 0 else 1) := by
    intro c a b q1 q2 q3 q4
    rw [zr_X2_holds, zb_X2_holds_0]
    simp only [cmp3]
    unfold op2
    rw [if_neg q1, if_neg q2, if_neg q3, if_neg q4]
    by_cases r : c = 1017
    · rw [if_pos r, if_pos r]
      split
      · exact ⟨1, rfl, rfl⟩
      · exact ⟨0, rfl, rfl⟩
    rw [if_neg r, if_neg r]
    clear r
    by_cases r : c = 1018
    · rw [if_pos r, if_pos r]
      split
      · exact ⟨1, rfl, rfl⟩
      · exact ⟨0, rfl, rfl⟩
    rw [if_neg r, if_neg r]
    clear r
    by_cases r : c = 1019
    · rw [if_pos r, if_pos r]
      split
      · exact ⟨1, rfl, rfl⟩
      · exact ⟨0, rfl, rfl⟩
    rw [if_neg r, if_neg r]
    clear r
    by_cases r : c = 1020
    · rw [if_pos r, if_pos r]
      split
      · exact ⟨0, rfl, rfl⟩
      · exact ⟨1, rfl, rfl⟩
    rw [if_neg r, if_neg r]
    clear r
    by_cases r : c = 1021
    · rw [if_pos r, if_pos r]
      split
      · exact ⟨0, rfl, rfl⟩
      · exact ⟨1, rfl, rfl⟩
    rw [if_neg r, if_neg r]
    clear r
    by_cases r : c = 1022
    · rw [if_pos r, if_pos r]
      split
      · exact ⟨0, rfl, rfl⟩
      · exact ⟨1, rfl, rfl⟩
    rw [if_neg r, if_neg r]
    clear r
    by_cases r : c = 1115
    · rw [if_pos r, if_pos r]
      split
      · exact ⟨0, rfl, rfl⟩
      · split
        · exact ⟨0, rfl, rfl⟩
        · exact ⟨1, rfl, rfl⟩
    rw [if_neg r, if_neg r]
    split
    · split
      · exact ⟨0, rfl, rfl⟩
      · exact ⟨1, rfl, rfl⟩
    · exact ⟨1, rfl, rfl⟩
  have hb2 : ∀ x, inM x ∨ ¬ inM x → notM (bnd x) x := fun x _ => by
    unfold bnd
    split
    · split
      · exact fun r => by omega
      · exact rfl
    · exact fun r => by omega
  rw [zr_X2_join, zb_X2_join_0]
  by_cases q1 : c = 1013
  · rw [if_pos q1]
    refine ⟨a + b, ?_, ?_⟩
    · unfold z_ladd
      rw [z_w64_id (by omega) (by omega)]
      rfl
    · unfold op2
      rw [if_pos q1]
      exact hb2 _ (Classical.em _)
  rw [if_neg q1]
  by_cases q2 : c = 1014
  · rw [if_pos q2]
    refine ⟨a - b, ?_, ?_⟩
    · unfold z_lsub
      rw [z_w64_id (by omega) (by omega)]
      rfl
    · unfold op2
      rw [if_neg q1, if_pos q2]
      exact hb2 _ (Classical.em _)
  rw [if_neg q2]
  by_cases q3 : c = 1015
  · subst q3
    rw [if_pos rfl, e_X2_product ha hb, z_bJ_mk]
    refine ⟨_, rfl, ?_⟩
    cases ho : op2 1015 a b with
    | some v => rfl
    | none => exact fun r => absurd r.1 (by decide)
  rw [if_neg q3]
  by_cases q4 : c = 1016
  · rw [if_pos q4]
    simp only [cmp3]
    have e : op2 c a b = (if b = 0 then none else some (a.tdiv b)) := by
      unfold op2
      rw [if_neg q1, if_neg q2, if_neg q3, if_pos q4]
    rw [e]
    by_cases q5 : b = 0
    · rw [if_pos q5, if_pos q5]
      exact ⟨_, rfl, fun r => absurd r.1 (by decide)⟩
    · rw [if_neg q5, if_neg q5, if_neg q5]
      refine ⟨a.tdiv b, ?_, rfl⟩
      unfold z_ldiv
      rw [z_w64_in (tdiv_in ha q5)]
      rfl
  rw [if_neg q4]
  obtain ⟨x, ex, ox⟩ := hol c a b q1 q2 q3 q4
  rw [ex, z_bI_mk, ox]
  by_cases q5 : x = 0
  · rw [if_pos q5, if_pos q5]
    exact ⟨0, rfl, rfl⟩
  · rw [if_neg q5, if_neg q5]
    exact ⟨1, rfl, rfl⟩

