section
/-! ===== reading an E: stacks, ranks, the state on both sides ===== -/
/-- a row that holds a stack, its top first in the list -/
def stk (g : Int → Int) (R : Int → Int) : List Int → Prop
  | [] => True
  | y :: r => R r.length = g y ∧ stk g R r
theorem stk_cg {g R R' : Int → Int} : ∀ (W : List Int), (∀ j, 0 ≤ j → j < W.length → R' j = R j) → stk g R W → stk g R' W := by
  intro W
  induction W with
  | nil => intro _ _; trivial
  | cons y r ih =>
    intro h ⟨h1, h2⟩
    have hl : ((y :: r).length : Int) = r.length + 1 := by rw [List.length_cons]; rfl
    exact ⟨(h _ (by omega) (by omega)).trans h1, ih (fun j a b => h j a (by omega)) h2⟩
def rnk (y : Int) : Int := if y = 1013 then 5 else if y = 1014 then 5 else if y = 1015 then 6 else if y = 1016 then 6 else if y = 1114 then 1 else if y = 1115 then 2 else if y = 1116 then 3 else if y < 1017 then 0 else if y ≤ 1022 then 4 else 0
/-- the reference's number of a sign -/
def kK (y : Int) : Int := if y = 1011 then 0 else if y = 1116 then 2 else if y = 1115 then 3 else if y = 1114 then 4 else if y ≤ 1014 then y - 1002 else if y ≤ 1016 then y - 1002 else y - 1012
abbrev isSg (y : Int) : Prop := y = 1011 ∨ y = 1116 ∨ y = 1115 ∨ y = 1114 ∨ (1013 ≤ y ∧ y ≤ 1022)
def wgt (k : Int) : Int := if k < 13 then (if k < 11 then (if k < 5 then (if k = 2 then 3 else if k = 3 then 2 else if k = 4 then 1 else 0) else 4) else 5) else 6
theorem sg_cases {y : Int} (h : isSg y) : y = 1011 ∨ y = 1116 ∨ y = 1115 ∨ y = 1114 ∨ y = 1013 ∨ y = 1014 ∨ y = 1015 ∨ y = 1016 ∨ y = 1017 ∨ y = 1018 ∨ y = 1019 ∨ y = 1020 ∨ y = 1021 ∨ y = 1022 := by unfold isSg at h; omega
theorem wgt_kK {y : Int} (h : isSg y) : wgt (kK y) = rnk y := by
  rcases sg_cases h with r | r | r | r | r | r | r | r | r | r | r | r | r | r <;> subst r <;> rfl
theorem rnk_rng (y : Int) : 0 ≤ rnk y ∧ rnk y ≤ 6 := by unfold rnk; (repeat' split) <;> omega
theorem rnk_0 {y : Int} (h : isSg y) (h0 : rnk y < 1) : y = 1011 := by
  rcases sg_cases h with r | r | r | r | r | r | r | r | r | r | r | r | r | r <;> subst r <;> first | rfl | exact absurd h0 (by decide)
theorem kK_bin {y : Int} (h : isSg y) (h1 : y ≠ 1011) (h2 : y ≠ 1116) : 3 ≤ kK y ∧ kK y ≤ 14 ∧ y = cdK (kK y) := by
  rcases sg_cases h with r | r | r | r | r | r | r | r | r | r | r | r | r | r <;> subst r <;> first | exact absurd rfl h1 | exact absurd rfl h2 | exact ⟨by decide, by decide, by decide⟩
theorem kK_2 {y : Int} (h : isSg y) : kK y = 2 ↔ y = 1116 := by
  rcases sg_cases h with r | r | r | r | r | r | r | r | r | r | r | r | r | r <;> subst r <;> decide
theorem c_rank (y : Int) (M : zM) : zm_X7_rankOf zLa [zI y] M = some ([zI (rnk y)], M) := by
  rw [zr_X7_rankOf]
  refine z_out_some ?_
  rw [zb_X7_rankOf_0]
  unfold rnk
  (repeat' split) <;> rfl
theorem r_weight (k : Int) (M : zM) : zm_X12_weight zLa [zI k] M = some ([zI (wgt k)], M) := by
  rw [zr_X12_weight]
  refine z_out_some ?_
  rw [zb_X12_weight_0]
  unfold wgt
  (repeat' split) <;> rfl
/-! how many of a stack are '(' open, KNOTS to come, signs of two sides -/
def oneO (y : Int) : Int := if y = 1011 then 1 else 0
def oneB (y : Int) : Int := if y = 1011 then 0 else if y = 1116 then 0 else 1
def nOp : List Int → Int
  | [] => 0
  | y :: r => oneO y + nOp r
def nBi : List Int → Int
  | [] => 0
  | y :: r => oneB y + nBi r
theorem oneO_rng (y : Int) : 0 ≤ oneO y ∧ oneO y ≤ 1 := by unfold oneO; split <;> omega
theorem oneB_rng (y : Int) : 0 ≤ oneB y ∧ oneB y ≤ 1 - oneO y := by unfold oneB oneO; (repeat' split) <;> omega
theorem nOp_rng : ∀ W : List Int, 0 ≤ nOp W ∧ nOp W ≤ W.length := by
  intro W
  induction W with
  | nil => exact ⟨Int.le_refl _, Int.le_refl _⟩
  | cons y r ih =>
    have h := oneO_rng y
    have hl : ((y :: r).length : Int) = r.length + 1 := by rw [List.length_cons]; rfl
    show 0 ≤ oneO y + nOp r ∧ oneO y + nOp r ≤ _
    omega
theorem nBi_rng : ∀ W : List Int, 0 ≤ nBi W ∧ nBi W + nOp W ≤ W.length := by
  intro W
  induction W with
  | nil => exact ⟨Int.le_refl _, Int.le_refl _⟩
  | cons y r ih =>
    have h := oneO_rng y
    have h' := oneB_rng y
    have hl : ((y :: r).length : Int) = r.length + 1 := by rw [List.length_cons]; rfl
    show 0 ≤ oneB y + nBi r ∧ (oneB y + nBi r) + (oneO y + nOp r) ≤ _
    omega
/-! a part of an E: from s to t in n KNOTS -/
def wfS (K P O cd : Int → Int) (F : Int) : Nat → Int → List Int → List Int → Prop
  | 0, _, s, t => s = t
  | n + 1, i, s, t => ∃ s', nodeR K P O cd F i s s' ∧ wfS K P O cd F n (i + 1) s' t
theorem wfS_cg {K P O K' P' O' cd cd' : Int → Int} {F : Int} : ∀ (n : Nat) (i : Int) (s t : List Int), (∀ j, i ≤ j → j < i + n → (K' (F + j) = K (F + j) ∧ P' (F + j) = P (F + j) ∧ O' (F + j) = O (F + j)) ∧ cd' j = cd j) → wfS K P O cd F n i s t → wfS K' P' O' cd' F n i s t := by
  intro n
  induction n with
  | zero => intro i s t _ h; exact h
  | succ n ih =>
    intro i s t hj ⟨s', h, h2⟩
    have h0 := hj i (by omega) (by omega)
    exact ⟨s', nodeR_cg h0.1 h0.2 h, ih (i + 1) s' t (fun j a b => hj j (by omega) (by omega)) h2⟩
theorem wfS_snoc {K P O cd : Int → Int} {F : Int} : ∀ (n : Nat) (i : Int) (s t t' : List Int), wfS K P O cd F n i s t → nodeR K P O cd F (i + n) t t' → wfS K P O cd F (n + 1) i s t' := by
  intro n
  induction n with
  | zero =>
    intro i s t t' h h2
    have h : s = t := h
    subst h
    rw [(by omega : i + ((0 : Nat) : Int) = i)] at h2
    exact ⟨t', h2, rfl⟩
  | succ n ih =>
    intro i s t t' ⟨s', h, h1⟩ h2
    rw [(by omega : i + ((n + 1 : Nat) : Int) = i + 1 + n)] at h2
    exact ⟨s', h, ih (i + 1) s' t t' h1 h2⟩
theorem wfS_F {K P O cd : Int → Int} {F : Int} : ∀ (n : Nat) (i : Int) (s : List Int), wfS K P O cd F n i s [i + n - 1] → wfF K P O cd F n i s := by
  intro n
  induction n with
  | zero =>
    intro i s h
    have h : s = [i + ((0 : Nat) : Int) - 1] := h
    show s = [i - 1]
    rw [h, (by omega : i + ((0 : Nat) : Int) - 1 = i - 1)]
  | succ n ih =>
    intro i s ⟨s', h, h1⟩
    rw [(by omega : i + ((n + 1 : Nat) : Int) - 1 = i + 1 + n - 1)] at h1
    exact ⟨s', h, ih (i + 1) s' h1⟩
/-! the reference on its way through an E -/
def PW (B K A P Q : Int → Int) (n : Int) (M : zM) (p : Int) : Prop := LyR M ∧ tRr B K A P Q n M p ∧ bR M
abbrev wW (F a k : Int) : Prop := (a = 84 ∧ ((7 ≤ k ∧ k ≤ 10) ∨ k = 20 ∨ (52 ≤ k ∧ k ≤ 57))) ∨ (107 ≤ a ∧ a ≤ 109 ∧ 64 + F ≤ k) ∨ a = 110 ∨ a = 111
def gW (F : Int) (M m : zM) : Prop := ∀ a k, ¬ wW F a k → m a k = M a k
theorem gW.rf (F : Int) (M : zM) : gW F M M := fun _ _ _ => rfl
theorem gW.tr {F : Int} {M m m2 : zM} (h : gW F M m) (h2 : gW F m m2) : gW F M m2 := fun a k q => (h2 a k q).trans (h a k q)
theorem gW.wr {F : Int} {M : zM} {a i v : Int} (h : wW F a i) : gW F M (z_wr M a i v) := fun b j q => by unfold z_wr; rw [if_neg]; rintro ⟨rfl, rfl⟩; exact q h
theorem gW.gr {F : Int} {M m : zM} (F0 : 0 ≤ F) (h : gW F M m) : gR M m := fun a k q => h a k (fun r => q (by unfold wW at r; unfold wRd; omega))
theorem fU.gw {F : Int} {M m : zM} (h : fU M m) : gW F M m := fun a k q => h a k (fun r => q (by unfold wW; omega))
section
variable {B K A P Q : Int → Int} {n N : Int} {Mc Mr U U' : zM} {c p : Int}
theorem PR.pw (h : PR B K A P Q n Mr U p) : PW B K A P Q n Mr p := ⟨h.1, h.2.2.2.1, h.2.2.2.2⟩
theorem PW.e (h : PW B K A P Q n Mr p) : eR (K p) (A p) (Mr 84 8) (Mr 84 9) := h.2.1.2.2.2
/-- the reference writes beside its tokens -/
theorem PW.wr {a k v : Int} (hw : (a = 84 ∧ (k = 4 ∨ k = 5 ∨ k = 20 ∨ (52 ≤ k ∧ k ≤ 57))) ∨ (105 ≤ a ∧ a ≤ 111)) (h : PW B K A P Q n Mr p) : PW B K A P Q n (z_wr Mr a k v) p := by
  have t := h.2.1
  have e : ∀ b j, (b ≠ a ∨ j ≠ k) → z_wr Mr a k v b j = Mr b j := fun b j q => z_wr_ne q
  exact ⟨h.1.ag (fun b j q => e b j (by unfold pR at q; omega)), ⟨⟨(e _ _ (by omega)).trans t.1.1, (e _ _ (by omega)).trans t.1.2.1, (e _ _ (by omega)).trans t.1.2.2.1, fun j x y => (e _ _ (by omega)).trans (t.1.2.2.2.1 j x y), fun j x y => (e _ _ (by omega)).trans (t.1.2.2.2.2 j x y)⟩, (e _ _ (by omega)).trans t.2.1, (e _ _ (by omega)).trans t.2.2.1, by rw [e _ _ (by omega), e _ _ (by omega)]; exact t.2.2.2⟩, bR.ag (fun j => e _ _ (by omega)) h.2.2⟩
theorem PW.take (hT : TS B n 0 N K A P Q) (h : PW B K A P Q n Mr p) (p0 : 0 ≤ p) (p1 : p < N) (hk : K p ≠ 1000) : ∃ m, zm_X12_take zLa [zA 12 84] Mr = some ([], m) ∧ PW B K A P Q n m (p + 1) ∧ fU Mr m := by
  obtain ⟨-, -, -, hr⟩ := hT.2.2.2.2.2 (p + 1) (by omega) (hT.nx p0 p1 hk)
  obtain ⟨m, e, hf, h7, h10, he⟩ := hr Mr h.2.1.1 h.2.1.2.1
  exact ⟨m, e, ⟨h.1.ag (fun a k q => hf a k (by unfold pR at q; omega)), ⟨h.2.1.1.fr hf, h7, h10, he⟩, bR.ag (fun k => hf _ _ (by omega)) h.2.2⟩, hf⟩
theorem PW.wrong (h : PW B K A P Q n Mr p) (y : Int) : zm_X12_wrong zLa [zA 12 84, zI y] Mr = some ([zI 0], z_wr (z_wr Mr 84 4 y) 84 5 (P p)) := by
  rw [zr_X12_wrong]
  refine z_out_some ?_
  rw [zb_X12_wrong_0, z_lt_eq, z_wr_ne (M := Mr) (by omega), h.2.1.2.2.1, z_lt_eq]
theorem PW.k1 (h : PW B K A P Q n Mr p) {κ : Int} (h0 : 1100 ≤ κ) (h1 : κ ≤ 1126) : zm_X12_isKey zLa [zA 12 84, zI (rk κ)] Mr = some ([zI (b2i (K p = κ))], Mr) := by
  have he := eR_key h.e h0 h1
  rw [zr_X12_isKey]
  refine z_out_some ?_
  rw [zb_X12_isKey_0]
  by_cases q : K p = κ
  · rw [if_pos (he.1 q).1, if_pos (he.1 q).2, b2i_pos q]
  · have hn := he.2 q
    rw [b2i_neg q]
    by_cases q1 : Mr 84 8 = 1
    · rw [if_pos q1, if_neg (fun r => hn ⟨q1, r⟩)]
    · rw [if_neg q1]
theorem PW.s1 (h : PW B K A P Q n Mr p) {κ : Int} (h0 : 1010 ≤ κ) (h1 : κ ≤ 1016) : zm_X12_isSign zLa [zA 12 84, zI (sgc κ)] Mr = some ([zI (b2i (K p = κ))], Mr) := by
  have he := eR_sign h.e h0 h1
  rw [zr_X12_isSign]
  refine z_out_some ?_
  rw [zb_X12_isSign_0]
  by_cases q : K p = κ
  · rw [if_pos (he.1 q).1, if_pos (he.1 q).2, b2i_pos q]
  · have hn := he.2 q
    rw [b2i_neg q]
    by_cases q1 : Mr 84 8 = 4
    · rw [if_pos q1, if_neg (fun r => hn ⟨q1, r⟩)]
    · rw [if_neg q1]
/-- the class writes beside its case and its tokens -/
theorem PC.w1 {k v : Int} (hk : k ≠ 0 ∧ k ≠ 1 ∧ k ≠ 5) (k2 : 2 ≤ k) (h : PC N K A P Mc c U p) : PC N K A P (z_wr Mc 1 k v) c U p := h.ag (fun a j q1 q2 => z_wr_ne (by omega))
theorem PC.w41 {k v : Int} (h : PC N K A P Mc c U p) : PC N K A P (z_wr Mc 41 k v) c U p := h.ag (fun a j q1 q2 => z_wr_ne (by omega))
/-- the class writes into its case -/
theorem PC.wc {a o k v : Int} (ha : a = c + o) (ho : 0 ≤ o ∧ o ≤ 30) (hp : ¬ pC 0 o k) (h : PC N K A P Mc c U p) : PC N K A P (z_wr Mc a k v) c (z_wr U o k v) p := by
  subst ha
  have hcc : c = 8 ∨ c = 42 := h.1
  exact h.fc (fun b j q => z_wr_ne (by omega)) (h.y.ag (wr_ag (by unfold pC at hp ⊢; omega))) (cEq.wr o k v h.v)
end
end
