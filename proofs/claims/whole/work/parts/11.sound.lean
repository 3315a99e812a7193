/-! ===== the small machine against the machine: values, worlds, what a place in the code means ===== -/
def z_rI (x : Int) : Prop := -2147483648 ≤ x ∧ x < 2147483648
def z_rJ (x : Int) : Prop := -9223372036854775808 ≤ x ∧ x < 9223372036854775808
theorem z_r32 (x : Int) : z_rI (z_w32 x) := by unfold z_rI z_w32; omega
theorem z_r64 (x : Int) : z_rJ (z_w64 x) := by unfold z_rJ z_w64; omega
theorem z_ti {x : Int} (h : z_rI x) : (Int32.ofInt x).toInt = x := Int32.toInt_ofInt_of_le (by have := h.1; omega) (by have := h.2; omega)
theorem z_tj {x : Int} (h : z_rJ x) : (Int64.ofInt x).toInt = x := Int64.toInt_ofInt_of_le (by have := h.1; omega) (by have := h.2; omega)
theorem z_rti (y : Int32) : z_rI y.toInt := ⟨by have := Int32.le_toInt y; omega, by have := Int32.toInt_lt y; omega⟩
theorem z_rtj (y : Int64) : z_rJ y.toInt := ⟨by have := Int64.le_toInt y; omega, by have := Int64.toInt_lt y; omega⟩
theorem z_of32 (x : Int) : Int32.ofInt (z_w32 x) = Int32.ofInt x := by
  apply Int32.toInt_inj.mp
  rw [z_ti (z_r32 x), Int32.toInt_ofInt]
  unfold z_w32
  show _ = Int.bmod x 4294967296
  rw [Int.bmod_def]
  split <;> omega
theorem z_of64 (x : Int) : Int64.ofInt (z_w64 x) = Int64.ofInt x := by
  apply Int64.toInt_inj.mp
  rw [z_tj (z_r64 x), Int64.toInt_ofInt]
  unfold z_w64
  show _ = Int.bmod x 18446744073709551616
  rw [Int.bmod_def]
  split <;> omega
theorem z_oft (y : Int32) : Int32.ofInt y.toInt = y := by
  apply Int32.toInt_inj.mp
  rw [z_ti (z_rti y)]
theorem z_oftj (y : Int64) : Int64.ofInt y.toInt = y := by
  apply Int64.toInt_inj.mp
  rw [z_tj (z_rtj y)]
def z_cv (α : Nat → Nat) (v : zV) : Value := match v with
  | .inl x => .int (Int32.ofInt x)
  | .inr (.inl x) => .long (Int64.ofInt x)
  | .inr (.inr (.inl q)) => .ref (α q.2.toNat)
  | .inr (.inr (.inr _)) => .null
def z_ok (n : Nat) (τ : Nat → Nat) (v : zV) : Prop := match v with
  | .inl x => z_rI x
  | .inr (.inl x) => z_rJ x
  | .inr (.inr (.inl q)) => 0 ≤ q.2 ∧ q.2.toNat < n ∧ τ q.2.toNat = q.1
  | .inr (.inr (.inr _)) => True
def z_fv (α : Nat → Nat) (k : Nat) (x : Int) : Value := match k with
  | 0 => .int (Int32.ofInt x)
  | 1 => .long (Int64.ofInt x)
  | _ => .ref (α x.toNat)
def z_cell (α : Nat → Nat) (t len : Nat) (row : Int → Int) (cA : ClassId) : va_E :=
  if t = 13 then .inl (cA, len, .inl (fun j => Int32.ofInt (row j)))
  else if t = 14 then .inl (cA, len, .inl (fun j => Int32.ofInt (row j)))
  else if t = 15 then .inl (cA, len, .inr (.inl (fun j => Int64.ofInt (row j))))
  else .inr (t, (z_fld t).mapIdx (fun j k => z_fv α k (row j)))
def z_ws (α : Nat → Nat) (γ : Nat → ClassId) (n : Nat) (τ : Nat → Nat) (Λ : Int → Int) (M : zM) : va_W := (List.range n).map (fun (i : Nat) => (α i, z_cell α (τ i) (Λ i).toNat (M i) (γ i)))
def z_okk (n : Nat) (τ : Nat → Nat) (k : Nat) (x : Int) : Prop := match k with
  | 0 => z_rI x
  | 1 => z_rJ x
  | t + 2 => 0 ≤ x ∧ x.toNat < n ∧ τ x.toNat = t
def z_TM (n : Nat) (τ : Nat → Nat) (Λ : Int → Int) (M : zM) : Prop := ∀ (i : Nat), i < n →
  (τ i < 13 → ∀ (j k : Nat), (z_fld (τ i))[j]? = some k → z_okk n τ k (M i j)) ∧
  (τ i = 13 ∨ τ i = 14 → ∀ (j : Nat), (j : Int) < Λ i → z_rI (M i j)) ∧
  (τ i = 15 → ∀ (j : Nat), (j : Int) < Λ i → z_rJ (M i j))
/-! words that speak of private members of a nest mate -/
def z_isN (w : Cond) : Bool := match w with
  | .fieldLinkNest .. => true
  | .methodLinkNest .. => true
  | _ => false
def z_nst : List Cond := lw_tbl.filter z_isN
theorem z_inN {w : Cond} {i : Nat} (h : lw_tbl[i]? = some w) (hg : z_isN w = true) : w ∈ z_nst := List.mem_filter.mpr ⟨List.mem_of_getElem? h, hg⟩
def z_Nn (s : State) : Prop := ∀ w ∈ z_nst, va_Nw w s
theorem z_nst_tab {w : Cond} (h : w ∈ z_nst) : w.onTables = true := by
  have h1 := (List.mem_filter.mp h).2
  cases w <;> first | rfl | cases h1
theorem z_Nn.warm {s U : State} (hW : s.WarmedH U.vm) (h : z_Nn s) : z_Nn U := by
  intro w hw
  have h1 := (List.mem_filter.mp hw).2
  have h2 := h w hw
  cases w <;> first | exact va_Nw.warmF hW h2 | exact va_Nw.warmM hW h2 | cases h1
theorem z_Nn.same {u U : State} (hv : u.vm = U.vm) (h : z_Nn u) : z_Nn U := fun w hw => va_Nw.same (z_nst_tab hw) hv (h w hw)
def z_Kn (D : va_G) (γ : Nat → ClassId) (n : Nat) (τ : Nat → Nat) (Λ : Int → Int) (s : State) : Prop := va_K D vwCl [] s ∧ ((∀ (i : Nat), i < n → 0 ≤ Λ i ∧ Λ i < 2147483648) ∧ z_Nn s) ∧ ∀ (i : Nat), i < n →
  (τ i = 13 → va_K D vwCl [(γ i, .int)] s) ∧ (τ i = 14 → va_K D vwCl [(γ i, .boolean)] s) ∧ (τ i = 15 → va_K D vwCl [(γ i, .long)] s)
theorem z_Kn.moved0 {D : va_G} {γ : Nat → ClassId} {n : Nat} {τ : Nat → Nat} {Λ : Int → Int} {u U : State} (hvm : u.vm.Alike U.vm) (hN : z_Nn U) (h : z_Kn D γ n τ Λ u) : z_Kn D γ n τ Λ U :=
  ⟨h.1.moved hvm, ⟨h.2.1.1, hN⟩, fun i hi => ⟨fun q => ((h.2.2 i hi).1 q).moved hvm, fun q => ((h.2.2 i hi).2.1 q).moved hvm, fun q => ((h.2.2 i hi).2.2 q).moved hvm⟩⟩
theorem z_Kn.warm {D : va_G} {γ : Nat → ClassId} {n : Nat} {τ : Nat → Nat} {Λ : Int → Int} {s U : State} (hW : s.WarmedH U.vm) (h : z_Kn D γ n τ Λ s) : z_Kn D γ n τ Λ U := h.moved0 hW.alike (h.2.1.2.warm hW)
theorem z_Kn.same {D : va_G} {γ : Nat → ClassId} {n : Nat} {τ : Nat → Nat} {Λ : Int → Int} {u U : State} (hv : u.vm = U.vm) (h : z_Kn D γ n τ Λ u) : z_Kn D γ n τ Λ U := h.moved0 (by rw [hv]; exact Vm.Alike.refl U.vm) (h.2.1.2.same hv)
/-! the context of a method's body, as one thing -/
abbrev zX : Type := (Program × Launch × Env × Room × State) × (MethodId × Array Value × List Frame × Method × Code) × (Nat × Nat × (State → Prop)) × (va_G × Nat × (Nat → Nat) × (Nat → ClassId)) × (Nat × (Nat → Nat) × (Int → Int)) × (List zV × zM → Prop)
abbrev x_p (X : zX) : Program := X.1.1
abbrev x_l (X : zX) : Launch := X.1.2.1
abbrev x_e (X : zX) : Env := X.1.2.2.1
abbrev x_R (X : zX) : Room := X.1.2.2.2.1
abbrev x_s (X : zX) : State := X.1.2.2.2.2
abbrev x_m (X : zX) : MethodId := X.2.1.1
abbrev x_a (X : zX) : Array Value := X.2.1.2.1
abbrev x_b (X : zX) : List Frame := X.2.1.2.2.1
abbrev x_y (X : zX) : Method := X.2.1.2.2.2.1
abbrev x_c (X : zX) : Code := X.2.1.2.2.2.2
abbrev x_nc (X : zX) : Nat := X.2.2.1.1
abbrev x_ns (X : zX) : Nat := X.2.2.1.2.1
abbrev x_Q (X : zX) : State → Prop := X.2.2.1.2.2
abbrev x_D (X : zX) : va_G := X.2.2.2.1.1
abbrev x_bs (X : zX) : Nat := X.2.2.2.1.2.1
abbrev x_al (X : zX) : Nat → Nat := X.2.2.2.1.2.2.1
abbrev x_ga (X : zX) : Nat → ClassId := X.2.2.2.1.2.2.2
abbrev x_n (X : zX) : Nat := X.2.2.2.2.1.1
abbrev x_ty (X : zX) : Nat → Nat := X.2.2.2.2.1.2.1
abbrev x_La (X : zX) : Int → Int := X.2.2.2.2.1.2.2
abbrev x_po (X : zX) : List zV × zM → Prop := X.2.2.2.2.2
abbrev x_ws (X : zX) (M : zM) : va_W := z_ws (x_al X) (x_ga X) (x_n X) (x_ty X) (x_La X) M
abbrev x_A (X : zX) : Nat → Prop := fun q => x_bs X ≤ q
abbrev x_W (X : zX) (H : Heap) (locs : List Loc) (g : JFrame) : Prop := W (x_p X) (x_l X) (x_e X) (x_R X) (x_s X) (x_m X) (x_a X) (x_b X) (x_y X) (x_c X) H locs (x_nc X) (x_ns X) (x_Q X) g
abbrev x_ok (X : zX) (v : zV) : Prop := z_ok (x_n X) (x_ty X) v
def z_Rl (X : zX) (M : zM) (H : Heap) (locs : List Loc) : Prop := va_P (x_D X) vwCl (x_ws X M) H ∧ va_D (x_A X) (x_ws X M) ∧ va_S (x_A X) (x_s X).heap H locs ∧ z_TM (x_n X) (x_ty X) (x_La X) M
def z_lv (X : zX) (L : List zV) (ls : Array Slot) : Prop := ls.size = (x_c X).maxLocals ∧ lv_wf ls ∧ ∀ i, z_nth L i ≠ zU → ls[i]? = some (.val (z_cv (x_al X) (z_nth L i)))
def z_Wn (X : zX) (pc : Nat) (L st : List zV) (M : zM) : Prop := ∀ (H : Heap) (locs : List Loc) (ls : Array Slot), z_Rl X M H locs → z_lv X L ls → (∀ i, x_ok X (z_nth L i)) → (∀ v ∈ st, x_ok X v) → x_W X H locs (F0 (x_m X) pc ls (st.map (z_cv (x_al X))))
/-! tails -/
def z_Ot (o : zOp) : Prop := ∀ L st M, (∀ k, o L st M k = none) ∨ ∃ L' st' M', ∀ k, o L st M k = k L' st' M'
def z_So (X : zX) (pc pc' : Nat) (o : zOp) : Prop := ∀ L st M L' st' M', (∀ k, o L st M k = k L' st' M') → z_Wn X pc' L' st' M' → z_Wn X pc L st M
def z_St (X : zX) (P : Nat → Nat) (pc : Nat) (t : zTm) : Prop := ∀ L st M,
  (∀ r, (∀ g, t L st M g = some (.inl r)) → x_po X r → z_Wn X pc L st M) ∧
  (∀ n L' st' M', (∀ g, t L st M g = some (.inr (n, L', st', M'))) → z_Wn X (P n) L' st' M' → z_Wn X pc L st M) ∧
  (∀ n L' st' M', (∀ g, t L st M g = g n L' st' M') → z_Wn X (P n) L' st' M' → z_Wn X pc L st M)
theorem z_tl_seq {o : zOp} {t : zTm} (ho : z_Ot o) (ht : z_Tl t) : z_Tl (z_seq o t) := by
  intro L st M
  rcases ho L st M with h | ⟨L', st', M', h⟩
  · exact Or.inl ⟨none, fun g => h _⟩
  · rcases ht L' st' M' with ⟨o', h2⟩ | ⟨l, L2, st2, M2, h2⟩
    · exact Or.inl ⟨o', fun g => (h _).trans (h2 g)⟩
    · exact Or.inr ⟨l, L2, st2, M2, fun g => (h _).trans (h2 g)⟩
def z_k0 : zK := fun L st M => some (.inr (0, L, st, M))
theorem z_k0_inj {L st L' st' : List zV} {M M' : zM} (h : z_k0 L st M = z_k0 L' st' M') : L = L' ∧ st = st' ∧ M = M' := by
  have h1 := Option.some.inj h
  have h2 := Sum.inr.inj h1
  exact ⟨congrArg (fun q => q.2.1) h2, congrArg (fun q => q.2.2.1) h2, congrArg (fun q => q.2.2.2) h2⟩
theorem z_st_seq {X : zX} {P : Nat → Nat} {pc pc' : Nat} {o : zOp} {t : zTm} (ho : z_Ot o) (hs : z_So X pc pc' o) (ht : z_St X P pc' t) : z_St X P pc (z_seq o t) := by
  intro L st M
  rcases ho L st M with h | ⟨L1, st1, M1, h⟩
  · refine ⟨fun r hr => ?_, fun n L' st' M' hr => ?_, fun n L' st' M' hr => ?_⟩
    · have := (h _).symm.trans (hr (fun _ _ _ _ => none)); cases this
    · have := (h _).symm.trans (hr (fun _ _ _ _ => none)); cases this
    · have := (h _).symm.trans (hr (fun _ _ _ _ => some (.inl ([], M)))); cases this
  · obtain ⟨h1, h2, h3⟩ := ht L1 st1 M1
    refine ⟨fun r hr hp => hs L st M L1 st1 M1 h (h1 r (fun g => (h _).symm.trans (hr g)) hp), fun n L' st' M' hr hp => hs L st M L1 st1 M1 h (h2 n L' st' M' (fun g => (h _).symm.trans (hr g)) hp), fun n L' st' M' hr hp => hs L st M L1 st1 M1 h (h3 n L' st' M' (fun g => (h _).symm.trans (hr g)) hp)⟩
theorem z_tl_go (n : Nat) : z_Tl (z_go n) := fun L st M => Or.inr ⟨n, L, st, M, fun _ => rfl⟩
def z_g0 : zG := fun n L st M => some (.inr (n, L, st, M))
theorem z_g0_inj {n n' : Nat} {L st L' st' : List zV} {M M' : zM} (h : z_g0 n L st M = z_g0 n' L' st' M') : n = n' ∧ L = L' ∧ st = st' ∧ M = M' := by
  have h1 := Option.some.inj h
  have h2 := Sum.inr.inj h1
  exact ⟨congrArg (fun q => q.1) h2, congrArg (fun q => q.2.1) h2, congrArg (fun q => q.2.2.1) h2, congrArg (fun q => q.2.2.2) h2⟩
theorem z_st_go {X : zX} {P : Nat → Nat} (n : Nat) : z_St X P (P n) (z_go n) := by
  intro L st M
  refine ⟨fun r hr => ?_, fun n' L' st' M' hr => ?_, fun n' L' st' M' hr hp => ?_⟩
  · have := hr (fun _ _ _ _ => none); cases this
  · have := hr (fun _ _ _ _ => none); cases this
  · obtain ⟨rfl, rfl, rfl, rfl⟩ := z_g0_inj (hr z_g0)
    exact hp
theorem z_tl_stop (n : Nat) : z_Tl (z_stop n) := fun L st M => Or.inl ⟨_, fun _ => rfl⟩
theorem z_st_stop {X : zX} {P : Nat → Nat} (n : Nat) : z_St X P (P n) (z_stop n) := by
  intro L st M
  refine ⟨fun r hr => ?_, fun n' L' st' M' hr hp => ?_, fun n' L' st' M' hr hp => ?_⟩
  · have := hr (fun _ _ _ _ => none); cases this
  · have h1 := Sum.inr.inj (Option.some.inj (hr (fun _ _ _ _ => none)))
    cases h1
    exact hp
  · have := hr (fun _ _ _ _ => none); cases this
/-- the run's meaning -/
theorem z_main {X : zX} {P : Nat → Nat} {code : Nat → zTm} (hT : ∀ l, z_Tl (code l)) (hS : ∀ l, z_St X P (P l) (code l)) : ∀ (n l : Nat) (L st : List zV) (M : zM),
    (∀ r, z_it code n l L st M = some (.inl r) → x_po X r → z_Wn X (P l) L st M) ∧
    (∀ k L' st' M', z_it code n l L st M = some (.inr (k, L', st', M')) → z_Wn X (P k) L' st' M' → z_Wn X (P l) L st M) := by
  intro n
  induction n with
  | zero => intro l L st M; exact ⟨fun r h => (by cases h), fun k L' st' M' h => (by cases h)⟩
  | succ n ih =>
    intro l L st M
    obtain ⟨h1, h2, h3⟩ := hS l L st M
    rcases hT l L st M with ⟨o, ho⟩ | ⟨l', L1, st1, M1, ho⟩
    · refine ⟨fun r h hp => h1 r (fun g => ?_) hp, fun k L' st' M' h hp => h2 k L' st' M' (fun g => ?_) hp⟩
      · have h' : code l L st M (z_it code n) = some (.inl r) := h
        rw [ho] at h' ⊢; exact h'
      · have h' : code l L st M (z_it code n) = some (.inr (k, L', st', M')) := h
        rw [ho] at h' ⊢; exact h'
    · obtain ⟨i1, i2⟩ := ih l' L1 st1 M1
      refine ⟨fun r h hp => h3 l' L1 st1 M1 ho (i1 r ?_ hp), fun k L' st' M' h hp => h3 l' L1 st1 M1 ho (i2 k L' st' M' ?_ hp)⟩
      · have h' : code l L st M (z_it code n) = some (.inl r) := h
        rw [ho] at h'; exact h'
      · have h' : code l L st M (z_it code n) = some (.inr (k, L', st', M')) := h
        rw [ho] at h'; exact h'
