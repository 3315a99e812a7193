/-! ===== a small machine over whole numbers: values, memory, operations, blocks ===== -/
abbrev zV : Type := Int ⊕ (Int ⊕ ((Nat × Int) ⊕ Unit))
abbrev zI (x : Int) : zV := .inl x
abbrev zJ (x : Int) : zV := .inr (.inl x)
abbrev zA (t : Nat) (a : Int) : zV := .inr (.inr (.inl (t, a)))
abbrev zU : zV := .inr (.inr (.inr ()))
abbrev zM : Type := Int → Int → Int
abbrev zRs : Type := (List zV × zM) ⊕ (Nat × List zV × List zV × zM)
abbrev zK : Type := List zV → List zV → zM → Option zRs
abbrev zOp : Type := List zV → List zV → zM → zK → Option zRs
abbrev zG : Type := Nat → List zV → List zV → zM → Option zRs
abbrev zTm : Type := List zV → List zV → zM → zG → Option zRs
abbrev zD : Type := (Int → Int) → List zV → zM → Option (List zV × zM)
def z_wr (M : zM) (a i v : Int) : zM := fun b j => if b = a ∧ j = i then v else M b j
def z_w32 (x : Int) : Int := (x + 2147483648) % 4294967296 - 2147483648
def z_w64 (x : Int) : Int := (x + 9223372036854775808) % 18446744073709551616 - 9223372036854775808
def z_nth : List zV → Nat → zV
  | [], _ => zU
  | v :: _, 0 => v
  | _ :: l, n + 1 => z_nth l n
def z_put : List zV → Nat → zV → List zV
  | [], _, _ => []
  | _ :: l, 0, v => v :: l
  | a :: l, n + 1, v => a :: z_put l n v
def z_isJ (v : zV) : Bool := match v with
  | .inr (.inl _) => true
  | _ => false
def z_clv (v : zV) : zV := match v with
  | .inr (.inl _) => zU
  | v => v
/-- a store forgets a long that ends where it goes -/
def z_clr (L : List zV) : Nat → List zV
  | 0 => L
  | i + 1 => z_put L i (z_clv (z_nth L i))
/-- the slot below isn't the first half of a long -/
def z_nj (L : List zV) : Nat → Bool
  | 0 => true
  | i + 1 => !(z_isJ (z_nth L i))
def z_wt : List zV → Nat
  | [] => 0
  | v :: l => (match v with | .inr (.inl _) => 2 | _ => 1) + z_wt l
def z_spl : Nat → List zV → List zV → Option (List zV × List zV)
  | 0, acc, st => some (acc, st)
  | n + 1, acc, v :: st => z_spl n (v :: acc) st
  | _ + 1, _, [] => none
def z_exp : List zV → List zV
  | [] => []
  | v :: l => match v with
    | .inr (.inl x) => zJ x :: zU :: z_exp l
    | v => v :: z_exp l
def z_us : Nat → List zV
  | 0 => []
  | n + 1 => zU :: z_us n
def z_ent (pad : Nat) (as : List zV) : List zV := z_exp as ++ z_us pad
/-! operations -/
def z_seq (o : zOp) (t : zTm) : zTm := fun L st M g => o L st M (fun L st M => t L st M g)
def z_go (n : Nat) : zTm := fun L st M g => g n L st M
def z_stop (n : Nat) : zTm := fun L st M _ => some (.inr (n, L, st, M))
def z_ic (n : Int) : zOp := fun L st M k => k L (zI n :: st) M
def z_lc (n : Int) : zOp := fun L st M k => k L (zJ n :: st) M
def z_il (i : Nat) : zOp := fun L st M k => match z_nth L i with
  | .inl x => k L (zI x :: st) M
  | _ => none
def z_ll (i : Nat) : zOp := fun L st M k => match z_nth L i with
  | .inr (.inl x) => k L (zJ x :: st) M
  | _ => none
def z_al (i : Nat) : zOp := fun L st M k => match z_nth L i with
  | .inr (.inr (.inl q)) => k L (zA q.1 q.2 :: st) M
  | _ => none
def z_is (i : Nat) : zOp := fun L st M k => match st with
  | .inl x :: r => k (z_put (z_clr L i) i (zI x)) r M
  | _ => none
def z_as (i : Nat) : zOp := fun L st M k => match st with
  | .inr (.inr (.inl q)) :: r => k (z_put (z_clr L i) i (zA q.1 q.2)) r M
  | _ => none
def z_ls (i : Nat) : zOp := fun L st M k => match st with
  | .inr (.inl x) :: r => k (z_put (z_put (z_clr L i) i (zJ x)) (i + 1) zU) r M
  | _ => none
def z_inc (i : Nat) (n : Int) : zOp := fun L st M k => match z_nth L i with
  | .inl x => k (z_put L i (zI (z_w32 (x + n)))) st M
  | _ => none
def z_i2 (f : Int → Int → Int) : zOp := fun L st M k => match st with
  | .inl y :: .inl x :: r => k L (zI (f x y) :: r) M
  | _ => none
def z_j2 (f : Int → Int → Int) : zOp := fun L st M k => match st with
  | .inr (.inl y) :: .inr (.inl x) :: r => k L (zJ (f x y) :: r) M
  | _ => none
/-- a divisor that isn't 0 -/
def z_i2d (f : Int → Int → Int) : zOp := fun L st M k => match st with
  | .inl y :: .inl x :: r => if y = 0 then none else k L (zI (f x y) :: r) M
  | _ => none
def z_j2d (f : Int → Int → Int) : zOp := fun L st M k => match st with
  | .inr (.inl y) :: .inr (.inl x) :: r => if y = 0 then none else k L (zJ (f x y) :: r) M
  | _ => none
def z_j1 (f : Int → Int) : zOp := fun L st M k => match st with
  | .inr (.inl x) :: r => k L (zJ (f x) :: r) M
  | _ => none
def z_add (x y : Int) : Int := z_w32 (x + y)
def z_sub (x y : Int) : Int := z_w32 (x - y)
def z_mul (x y : Int) : Int := z_w32 (x * y)
def z_div (x y : Int) : Int := z_w32 (x.tdiv y)
def z_rem (x y : Int) : Int := x.tmod y
def z_and (x y : Int) : Int := (Int32.ofInt x &&& Int32.ofInt y).toInt
def z_or (x y : Int) : Int := (Int32.ofInt x ||| Int32.ofInt y).toInt
def z_xor (x y : Int) : Int := (Int32.ofInt x ^^^ Int32.ofInt y).toInt
def z_shl (x y : Int) : Int := (Int32.ofInt x <<< (Int32.ofInt y &&& 31)).toInt
def z_shr (x y : Int) : Int := (Int32.ofInt x >>> (Int32.ofInt y &&& 31)).toInt
def z_ushr (x y : Int) : Int := ((Int32.ofInt x).toUInt32 >>> ((Int32.ofInt y).toUInt32 &&& Int32.toUInt32 31)).toInt32.toInt
def z_ladd (x y : Int) : Int := z_w64 (x + y)
def z_lsub (x y : Int) : Int := z_w64 (x - y)
def z_lmul (x y : Int) : Int := z_w64 (x * y)
def z_ldiv (x y : Int) : Int := z_w64 (x.tdiv y)
def z_lrem (x y : Int) : Int := x.tmod y
def z_lneg (x : Int) : Int := z_w64 (-x)
def z_land (x y : Int) : Int := (Int64.ofInt x &&& Int64.ofInt y).toInt
def z_lcmp : zOp := fun L st M k => match st with
  | .inr (.inl y) :: .inr (.inl x) :: r => k L (zI (if x < y then -1 else if x = y then 0 else 1) :: r) M
  | _ => none
def z_i2l : zOp := fun L st M k => match st with
  | .inl x :: r => k L (zJ x :: r) M
  | _ => none
def z_l2i : zOp := fun L st M k => match st with
  | .inr (.inl x) :: r => k L (zI (z_w32 x) :: r) M
  | _ => none
def z_dup : zOp := fun L st M k => match st with
  | .inl x :: r => k L (zI x :: zI x :: r) M
  | .inr (.inr (.inl q)) :: r => k L (zA q.1 q.2 :: zA q.1 q.2 :: r) M
  | _ => none
def z_dup2 : zOp := fun L st M k => match st with
  | .inr (.inl x) :: r => k L (zJ x :: zJ x :: r) M
  | .inl x :: .inr (.inr (.inl q)) :: r => k L (zI x :: zA q.1 q.2 :: zI x :: zA q.1 q.2 :: r) M
  | _ => none
def z_popI : zOp := fun L st M k => match st with
  | .inl _ :: r => k L r M
  | _ => none
/-! Math.max, min, abs -/
def z_max (x y : Int) : Int := if x < y then y else x
def z_min (x y : Int) : Int := if y < x then y else x
def z_lmax (x y : Int) : Int := if y < x then x else y
def z_lmin (x y : Int) : Int := if y < x then y else x
def z_labs (x : Int) : Int := if 0 < x then x else z_w64 (-x)
def z_m2 (f : Int → Int → Int) : zOp := fun L st M k => match st with
  | .inl y :: .inl x :: r => (match Nat.ble (z_wt r) 8 with | true => k L (zI (f x y) :: r) M | false => none)
  | _ => none
def z_mj2 (f : Int → Int → Int) : zOp := fun L st M k => match st with
  | .inr (.inl y) :: .inr (.inl x) :: r => (match Nat.ble (z_wt r) 8 with | true => k L (zJ (f x y) :: r) M | false => none)
  | _ => none
def z_mj1 (f : Int → Int) : zOp := fun L st M k => match st with
  | .inr (.inl x) :: r => (match Nat.ble (z_wt r) 8 with | true => k L (zJ (f x) :: r) M | false => none)
  | _ => none
/-! memory: fields of class t at place j; arrays of tag 13 (int), 14 (boolean), 15 (long) -/
def z_getI (t : Nat) (j : Int) : zOp := fun L st M k => match st with
  | .inr (.inr (.inl q)) :: r => (match Nat.beq q.1 t with | true => k L (zI (M q.2 j) :: r) M | false => none)
  | _ => none
def z_getJ (t : Nat) (j : Int) : zOp := fun L st M k => match st with
  | .inr (.inr (.inl q)) :: r => (match Nat.beq q.1 t with | true => k L (zJ (M q.2 j) :: r) M | false => none)
  | _ => none
def z_getA (t : Nat) (j : Int) (t2 : Nat) : zOp := fun L st M k => match st with
  | .inr (.inr (.inl q)) :: r => (match Nat.beq q.1 t with | true => k L (zA t2 (M q.2 j) :: r) M | false => none)
  | _ => none
def z_putI (t : Nat) (j : Int) : zOp := fun L st M k => match st with
  | .inl x :: .inr (.inr (.inl q)) :: r => (match Nat.beq q.1 t with | true => k L r (z_wr M q.2 j x) | false => none)
  | _ => none
def z_putZ (t : Nat) (j : Int) : zOp := fun L st M k => match st with
  | .inl x :: .inr (.inr (.inl q)) :: r => (match Nat.beq q.1 t with | true => if x = 0 ∨ x = 1 then k L r (z_wr M q.2 j x) else none | false => none)
  | _ => none
def z_putJ (t : Nat) (j : Int) : zOp := fun L st M k => match st with
  | .inr (.inl x) :: .inr (.inr (.inl q)) :: r => (match Nat.beq q.1 t with | true => k L r (z_wr M q.2 j x) | false => none)
  | _ => none
def z_putA (t : Nat) (j : Int) (t2 : Nat) : zOp := fun L st M k => match st with
  | .inr (.inr (.inl w)) :: .inr (.inr (.inl q)) :: r => (match Nat.beq q.1 t with | true => (match Nat.beq w.1 t2 with | true => k L r (z_wr M q.2 j w.2) | false => none) | false => none)
  | _ => none
def z_ald (t : Nat) (Λ : Int → Int) : zOp := fun L st M k => match st with
  | .inl i :: .inr (.inr (.inl q)) :: r => (match Nat.beq q.1 t with | true => if 0 ≤ i ∧ i < Λ q.2 then k L (zI (M q.2 i) :: r) M else none | false => none)
  | _ => none
def z_lald (Λ : Int → Int) : zOp := fun L st M k => match st with
  | .inl i :: .inr (.inr (.inl q)) :: r => (match Nat.beq q.1 15 with | true => if 0 ≤ i ∧ i < Λ q.2 then k L (zJ (M q.2 i) :: r) M else none | false => none)
  | _ => none
def z_ast (Λ : Int → Int) : zOp := fun L st M k => match st with
  | .inl x :: .inl i :: .inr (.inr (.inl q)) :: r => (match Nat.beq q.1 13 with | true => if 0 ≤ i ∧ i < Λ q.2 then k L r (z_wr M q.2 i x) else none | false => none)
  | _ => none
def z_zst (Λ : Int → Int) : zOp := fun L st M k => match st with
  | .inl x :: .inl i :: .inr (.inr (.inl q)) :: r => (match Nat.beq q.1 14 with | true => if (0 ≤ i ∧ i < Λ q.2) ∧ (x = 0 ∨ x = 1) then k L r (z_wr M q.2 i x) else none | false => none)
  | _ => none
def z_last (Λ : Int → Int) : zOp := fun L st M k => match st with
  | .inr (.inl x) :: .inl i :: .inr (.inr (.inl q)) :: r => (match Nat.beq q.1 15 with | true => if 0 ≤ i ∧ i < Λ q.2 then k L r (z_wr M q.2 i x) else none | false => none)
  | _ => none
def z_alen (t : Nat) (Λ : Int → Int) : zOp := fun L st M k => match st with
  | .inr (.inr (.inl q)) :: r => (match Nat.beq q.1 t with | true => k L (zI (Λ q.2) :: r) M | false => none)
  | _ => none
/-! calls -/
def z_hdA (t : Nat) (as : List zV) : Bool := match as with
  | .inr (.inr (.inl q)) :: _ => Nat.beq q.1 t
  | _ => false
def z_bI (o : Option (List zV × zM)) (k : Int → zM → Option zRs) : Option zRs := match o with
  | some ([.inl x], M') => k x M'
  | _ => none
def z_bJ (o : Option (List zV × zM)) (k : Int → zM → Option zRs) : Option zRs := match o with
  | some ([.inr (.inl x)], M') => k x M'
  | _ => none
def z_bV (o : Option (List zV × zM)) (k : zM → Option zRs) : Option zRs := match o with
  | some ([], M') => k M'
  | _ => none
abbrev zB : Type := Option (List zV × zM) → (List zV → zM → Option zRs) → Option zRs
def z_BI : zB := fun o k => z_bI o (fun x M' => k [zI x] M')
def z_BJ : zB := fun o k => z_bJ o (fun x M' => k [zJ x] M')
def z_BV : zB := fun o k => z_bV o (fun M' => k [] M')
def z_call (Λ : Int → Int) (B : zB) (f : zD) (n : Nat) : zOp := fun L st M k => match z_spl n [] st with
  | some (as, r) => (match Nat.ble (z_wt r) 8 with
    | true => B (f Λ as M) (fun rv M' => k L (rv ++ r) M')
    | false => none)
  | none => none
def z_callv (Λ : Int → Int) (B : zB) (f : zD) (n t : Nat) : zOp := fun L st M k => match z_spl n [] st with
  | some (as, r) => (match Nat.ble (z_wt r) 8 && z_hdA t as with
    | true => B (f Λ as M) (fun rv M' => k L (rv ++ r) M')
    | false => none)
  | none => none
/-! ends of blocks -/
def z_if0 (c : Int → Bool) (t f : zTm) : zTm := fun L st M g => match st with
  | .inl x :: r => (match c x with | true => t L r M g | false => f L r M g)
  | _ => none
def z_ifeq (t f : zTm) : zTm := fun L st M g => match st with
  | .inl x :: r => if x = 0 then t L r M g else f L r M g
  | _ => none
def z_iflt (t f : zTm) : zTm := fun L st M g => match st with
  | .inl x :: r => if x < 0 then t L r M g else f L r M g
  | _ => none
def z_ifle (t f : zTm) : zTm := fun L st M g => match st with
  | .inl x :: r => if x ≤ 0 then t L r M g else f L r M g
  | _ => none
def z_icmpeq (t f : zTm) : zTm := fun L st M g => match st with
  | .inl y :: .inl x :: r => if x = y then t L r M g else f L r M g
  | _ => none
def z_icmplt (t f : zTm) : zTm := fun L st M g => match st with
  | .inl y :: .inl x :: r => if x < y then t L r M g else f L r M g
  | _ => none
def z_icmple (t f : zTm) : zTm := fun L st M g => match st with
  | .inl y :: .inl x :: r => if x ≤ y then t L r M g else f L r M g
  | _ => none
def z_swx (x : Int) (L r : List zV) (M : zM) (g : zG) (d : zTm) : List (Int × zTm) → Option zRs
  | [] => d L r M g
  | (k, t) :: l => if x = k then t L r M g else z_swx x L r M g d l
def z_sw (ts : List (Int × zTm)) (d : zTm) : zTm := fun L st M g => match st with
  | .inl x :: r => z_swx x L r M g d ts
  | _ => none
def z_iret : zTm := fun _ st M _ => match st with
  | [.inl x] => some (.inl ([zI x], M))
  | _ => none
def z_zret : zTm := fun _ st M _ => match st with
  | [.inl x] => if x = 0 ∨ x = 1 then some (.inl ([zI x], M)) else none
  | _ => none
def z_lret : zTm := fun _ st M _ => match st with
  | [.inr (.inl x)] => some (.inl ([zJ x], M))
  | _ => none
def z_vret : zTm := fun _ st M _ => match st with
  | [] => some (.inl ([], M))
  | _ => none
/-! runs -/
def z_it (code : Nat → zTm) : Nat → Nat → List zV → List zV → zM → Option zRs
  | 0, _, _, _, _ => none
  | n + 1, l, L, st, M => code l L st M (z_it code n)
noncomputable def z_ev (code : Nat → zTm) (l : Nat) (L st : List zV) (M : zM) : Option zRs := @dite _ (∃ n r, z_it code n l L st M = some r) (Classical.propDecidable _) (fun h => some (Classical.choose (Classical.choose_spec h))) (fun _ => none)
/-- a block goes on in one place at most -/
def z_Tl (t : zTm) : Prop := ∀ L st M, (∃ o, ∀ g, t L st M g = o) ∨ ∃ l L' st' M', ∀ g, t L st M g = g l L' st' M'
theorem z_it_mono {code : Nat → zTm} (hT : ∀ l, z_Tl (code l)) : ∀ (n : Nat) (l : Nat) (L st : List zV) (M : zM) (r : zRs), z_it code n l L st M = some r → z_it code (n + 1) l L st M = some r := by
  intro n
  induction n with
  | zero => intro l L st M r h; cases h
  | succ n ih =>
    intro l L st M r h
    rcases hT l L st M with ⟨o, ho⟩ | ⟨l', L', st', M', ho⟩
    · have h1 : code l L st M (z_it code n) = some r := h
      show code l L st M (z_it code (n + 1)) = some r
      rw [ho] at h1 ⊢
      exact h1
    · have h1 : code l L st M (z_it code n) = some r := h
      show code l L st M (z_it code (n + 1)) = some r
      rw [ho] at h1 ⊢
      exact ih _ _ _ _ _ h1
theorem z_it_mono2 {code : Nat → zTm} (hT : ∀ l, z_Tl (code l)) {n k : Nat} (hk : n ≤ k) {l : Nat} {L st : List zV} {M : zM} {r : zRs} (h : z_it code n l L st M = some r) : z_it code k l L st M = some r := by
  induction k with
  | zero =>
    have : n = 0 := by omega
    subst this
    exact h
  | succ k ih =>
    by_cases hn : n = k + 1
    · subst hn; exact h
    · exact z_it_mono hT _ _ _ _ _ _ (ih (by omega))
theorem z_ev_of {code : Nat → zTm} (hT : ∀ l, z_Tl (code l)) {n l : Nat} {L st : List zV} {M : zM} {r : zRs} (h : z_it code n l L st M = some r) : z_ev code l L st M = some r := by
  have he : ∃ n r, z_it code n l L st M = some r := ⟨n, r, h⟩
  unfold z_ev
  rw [dif_pos he]
  have h2 := Classical.choose_spec (Classical.choose_spec he)
  have a := z_it_mono2 hT (Nat.le_max_left n (Classical.choose he)) h
  have b := z_it_mono2 hT (Nat.le_max_right n (Classical.choose he)) h2
  rw [a] at b
  exact b.symm
theorem z_ev_some {code : Nat → zTm} {l : Nat} {L st : List zV} {M : zM} {r : zRs} (h : z_ev code l L st M = some r) : ∃ n, z_it code n l L st M = some r := by
  unfold z_ev at h
  by_cases he : ∃ n r, z_it code n l L st M = some r
  · rw [dif_pos he] at h
    have h2 := Classical.choose_spec (Classical.choose_spec he)
    rw [Option.some.inj h] at h2
    exact ⟨_, h2⟩
  · rw [dif_neg he] at h
    cases h
theorem z_ev_eq {code : Nat → zTm} (hT : ∀ l, z_Tl (code l)) (l : Nat) (L st : List zV) (M : zM) : z_ev code l L st M = code l L st M (z_ev code) := by
  rcases hT l L st M with ⟨o, ho⟩ | ⟨l', L', st', M', ho⟩
  · rw [ho]
    cases o with
    | some r => exact z_ev_of hT (n := 1) (ho _)
    | none =>
      cases h : z_ev code l L st M with
      | none => rfl
      | some r =>
        obtain ⟨n, hn⟩ := z_ev_some h
        cases n with
        | zero => cases hn
        | succ n =>
          have h1 : code l L st M (z_it code n) = some r := hn
          rw [ho] at h1
          cases h1
  · rw [ho]
    cases h : z_ev code l' L' st' M' with
    | some r =>
      obtain ⟨n, hn⟩ := z_ev_some h
      refine z_ev_of hT (n := n + 1) ?_
      show code l L st M (z_it code n) = some r
      rw [ho]
      exact hn
    | none =>
      cases h2 : z_ev code l L st M with
      | none => rfl
      | some r =>
        obtain ⟨n, hn⟩ := z_ev_some h2
        cases n with
        | zero => cases hn
        | succ n =>
          have h1 : code l L st M (z_it code n) = some r := hn
          rw [ho] at h1
          rw [z_ev_of hT h1] at h
          cases h
/-- what a method answers: its code from its first block, over locals made of its arguments -/
def z_out (o : Option zRs) : Option (List zV × zM) := match o with
  | some (.inl r) => some r
  | _ => none
noncomputable def z_fn (code : (Int → Int) → Nat → zTm) (pad : Nat) : zD := fun Λ as M => z_out (z_ev (code Λ) 0 (z_ent pad as) [] M)
/-- names for what is written and worked out on the way -/
def z_lt {α : Type} (M : zM) (k : zM → α) : α := k M
