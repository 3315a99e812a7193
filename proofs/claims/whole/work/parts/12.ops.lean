/-! ===== what each operation of the small machine means at an instruction ===== -/
def z_tbl : List Cond := lw_tbl.filter goodWord
theorem z_in {w : Cond} {i : Nat} (h : lw_tbl[i]? = some w) (hg : goodWord w = true) : w ∈ z_tbl := List.mem_filter.mpr ⟨List.mem_of_getElem? h, hg⟩
theorem z_good : ∀ w ∈ z_tbl, goodWord w = true := fun _ h => (List.mem_filter.mp h).2
def z_Qc (D : va_G) (bs : Nat) (α : Nat → Nat) (γ : Nat → ClassId) (n : Nat) (τ : Nat → Nat) (Λ : Int → Int) (r : List zV × zM) : Array Value → State → Outcome → State → Prop := fun _ st oc t =>
  oc = .returned ((r.1.map (z_cv α)).head?) ∧ va_P D vwCl (z_ws α γ n τ Λ r.2) t.heap ∧ z_TM n τ Λ r.2 ∧ (∀ v ∈ r.1, z_ok n τ v) ∧ r.1.length ≤ 1 ∧ va_F (fun q => bs ≤ q) st t
abbrev x_Qc (X : zX) (r : List zV × zM) : Array Value → State → Outcome → State → Prop := z_Qc (x_D X) (x_bs X) (x_al X) (x_ga X) (x_n X) (x_ty X) (x_La X) r
def z_Cx (X : zX) (own : String) (cc : ByteArray) (nL : Nat) (ret : Option FieldType) (kd : Nat) : Prop :=
  (x_p X).tables.exec = Jvm.exec ∧ (x_c X).code = cc ∧ (x_c X).maxLocals = nL ∧ (x_s X).vm.findClass own = some (x_m X).cls ∧ (∀ w ∈ z_tbl, w.before (x_a X) (x_s X) = true) ∧ (x_y X).locks = false ∧ (x_y X).sig.returnType = ret ∧ z_Kn (x_D X) (x_ga X) (x_n X) (x_ty X) (x_La X) (x_s X) ∧
  (x_nc X ≤ (x_R X).cells ∧ x_ns X ≤ (x_R X).slots ∧ kd ≤ (x_R X).frames ∧ 38 * kd ≤ (x_R X).locals) ∧
  (∀ r, x_po X r → x_Q X = MQ (x_b X) (x_Qc X r) (x_a X) (x_s X) (x_nc X) (x_ns X) (x_A X))
section
variable {X : zX} {own : String} {cc : ByteArray} {nL : Nat} {ret : Option FieldType} {kd : Nat} {pc : Nat} {P : Nat → Nat}
theorem z_so_mk {pc' : Nat} {o : zOp} (h : ∀ L st M, (∀ k, o L st M k = none) ∨ ∃ L' st' M', (∀ k, o L st M k = k L' st' M') ∧ (z_Wn X pc' L' st' M' → z_Wn X pc L st M)) : z_So X pc pc' o := by
  intro L st M L' st' M' hk hw
  rcases h L st M with hn | ⟨L1, st1, M1, h1, h2⟩
  · have := (hn z_k0).symm.trans (hk z_k0); cases this
  · obtain ⟨rfl, rfl, rfl⟩ := z_k0_inj ((h1 z_k0).symm.trans (hk z_k0))
    exact h2 hw
theorem z_ot_ic (n : Int) : z_Ot (z_ic n) := fun L st M => Or.inr ⟨_, _, _, fun _ => rfl⟩
theorem z_ot_lc (n : Int) : z_Ot (z_lc n) := fun L st M => Or.inr ⟨_, _, _, fun _ => rfl⟩
theorem z_so_icR (n : Int) {v : Int32} {len : Nat} (hv : Int32.ofInt n = v) (hn : z_rI n) (row : ∀ {H : Heap} {locs : List Loc} {ls : Array Slot} {rest : List Value}, x_W X H locs (F0 (x_m X) (pc + len) ls (.int v :: rest)) → x_W X H locs (F0 (x_m X) pc ls rest)) : z_So X pc (pc + len) (z_ic n) := by
  refine z_so_mk fun L st M => Or.inr ⟨_, _, _, fun _ => rfl, fun hw H locs ls hR hl ho hs => ?_⟩
  subst hv
  exact row (hw H locs ls hR hl ho (fun v hv => by rcases List.mem_cons.mp hv with rfl | h; exact hn; exact hs v h))
theorem z_so_iconst (hC : z_Cx X own cc nL ret kd) (n : Int) (hd : decode cc pc = .ok (.iconst n, 1)) (hn : z_rI n) : z_So X pc (pc + 1) (z_ic n) := z_so_icR n rfl hn (fun k => lv_iconst hC.1 hC.2.1 hd rfl k)
theorem z_so_bipush (hC : z_Cx X own cc nL ret kd) (n : Int) (hd : decode cc pc = .ok (.bipush n, 2)) (hn : z_rI n) (hv : (Int8.ofInt n).toInt32 = Int32.ofInt n) : z_So X pc (pc + 2) (z_ic n) := z_so_icR n rfl hn (fun k => lv_bipush hC.1 hC.2.1 hd hv k)
theorem z_so_sipush (hC : z_Cx X own cc nL ret kd) (n : Int) (hd : decode cc pc = .ok (.sipush n, 3)) (hn : z_rI n) (hv : (Int16.ofInt n).toInt32 = Int32.ofInt n) : z_So X pc (pc + 3) (z_ic n) := z_so_icR n rfl hn (fun k => lv_sipush hC.1 hC.2.1 hd hv k)
theorem z_so_ldc (hC : z_Cx X own cc nL ret kd) (n : Int) {ix : Nat} (hd : decode cc pc = .ok (.ldc ix, 2)) (hn : z_rI n) {v : Int32} (hv : Int32.ofInt n = v) (hw : Cond.constant own ix v ∈ z_tbl) : z_So X pc (pc + 2) (z_ic n) := z_so_icR n hv hn (fun k => lv_ldc hC.1 hC.2.1 hC.2.2.2.1 (hC.2.2.2.2.1 _ hw) hd k)
theorem z_so_ldcw (hC : z_Cx X own cc nL ret kd) (n : Int) {ix : Nat} (hd : decode cc pc = .ok (.ldc_w ix, 3)) (hn : z_rI n) {v : Int32} (hv : Int32.ofInt n = v) (hw : Cond.constant own ix v ∈ z_tbl) : z_So X pc (pc + 3) (z_ic n) := z_so_icR n hv hn (fun k => lv_ldcw hC.1 hC.2.1 hC.2.2.2.1 (hC.2.2.2.2.1 _ hw) hd k)
theorem z_so_lcR (n : Int) {v : Int64} {len : Nat} (hv : Int64.ofInt n = v) (hn : z_rJ n) (row : ∀ {H : Heap} {locs : List Loc} {ls : Array Slot} {rest : List Value}, x_W X H locs (F0 (x_m X) (pc + len) ls (.long v :: rest)) → x_W X H locs (F0 (x_m X) pc ls rest)) : z_So X pc (pc + len) (z_lc n) := by
  refine z_so_mk fun L st M => Or.inr ⟨_, _, _, fun _ => rfl, fun hw H locs ls hR hl ho hs => ?_⟩
  subst hv
  exact row (hw H locs ls hR hl ho (fun v hv => by rcases List.mem_cons.mp hv with rfl | h; exact hn; exact hs v h))
theorem z_so_lconst (hC : z_Cx X own cc nL ret kd) (n : Int) {k : Fin 2} (hd : decode cc pc = .ok (.lconst k, 1)) (hn : z_rJ n) (hv : Int64.ofNat (k : Nat) = Int64.ofInt n) : z_So X pc (pc + 1) (z_lc n) := z_so_lcR n rfl hn (fun k => lv_lconst hC.1 hC.2.1 hd hv k)
theorem z_so_ldc2 (hC : z_Cx X own cc nL ret kd) (n : Int) {ix : Nat} (hd : decode cc pc = .ok (.ldc2_w ix, 3)) (hn : z_rJ n) {v : Int64} (hv : Int64.ofInt n = v) (hw : Cond.constantLong own ix v ∈ z_tbl) : z_So X pc (pc + 3) (z_lc n) := z_so_lcR n hv hn (fun k => lv_ldc2 hC.1 hC.2.1 hC.2.2.2.1 (hC.2.2.2.2.1 _ hw) hd k)
/-! locals -/
theorem z_ot_il (i : Nat) : z_Ot (z_il i) := by
  intro L st M
  unfold z_il
  rcases z_nth L i with x | x | q | u
  · exact Or.inr ⟨_, _, _, fun _ => rfl⟩
  all_goals exact Or.inl fun _ => rfl
theorem z_ot_ll (i : Nat) : z_Ot (z_ll i) := by
  intro L st M
  unfold z_ll
  rcases z_nth L i with x | x | q | u
  · exact Or.inl fun _ => rfl
  · exact Or.inr ⟨_, _, _, fun _ => rfl⟩
  all_goals exact Or.inl fun _ => rfl
theorem z_ot_al (i : Nat) : z_Ot (z_al i) := by
  intro L st M
  unfold z_al
  rcases z_nth L i with x | x | q | u
  · exact Or.inl fun _ => rfl
  · exact Or.inl fun _ => rfl
  · exact Or.inr ⟨_, _, _, fun _ => rfl⟩
  · exact Or.inl fun _ => rfl
theorem z_so_il {i len : Nat} (row : ∀ {H : Heap} {locs : List Loc} {ls : Array Slot} {rest : List Value} {x : Int32}, ls[i]? = some (.val (.int x)) → x_W X H locs (F0 (x_m X) (pc + len) ls (.int x :: rest)) → x_W X H locs (F0 (x_m X) pc ls rest)) : z_So X pc (pc + len) (z_il i) := by
  refine z_so_mk fun L st M => ?_
  unfold z_il
  rcases he : z_nth L i with x | x | q | u
  · refine Or.inr ⟨_, _, _, fun _ => rfl, fun hw H locs ls hR hl ho hs => ?_⟩
    have h1 := hl.2.2 i (by rw [he]; intro h; cases h)
    have h2 := ho i
    rw [he] at h1 h2
    exact row h1 (hw H locs ls hR hl ho (fun v hv => by rcases List.mem_cons.mp hv with rfl | h; exact h2; exact hs v h))
  all_goals exact Or.inl fun _ => rfl
theorem z_so_ll {i len : Nat} (row : ∀ {H : Heap} {locs : List Loc} {ls : Array Slot} {rest : List Value} {x : Int64}, ls[i]? = some (.val (.long x)) → x_W X H locs (F0 (x_m X) (pc + len) ls (.long x :: rest)) → x_W X H locs (F0 (x_m X) pc ls rest)) : z_So X pc (pc + len) (z_ll i) := by
  refine z_so_mk fun L st M => ?_
  unfold z_ll
  rcases he : z_nth L i with x | x | q | u
  · exact Or.inl fun _ => rfl
  · refine Or.inr ⟨_, _, _, fun _ => rfl, fun hw H locs ls hR hl ho hs => ?_⟩
    have h1 := hl.2.2 i (by rw [he]; intro h; cases h)
    have h2 := ho i
    rw [he] at h1 h2
    exact row h1 (hw H locs ls hR hl ho (fun v hv => by rcases List.mem_cons.mp hv with rfl | h; exact h2; exact hs v h))
  all_goals exact Or.inl fun _ => rfl
theorem z_so_al {i len : Nat} (row : ∀ {H : Heap} {locs : List Loc} {ls : Array Slot} {rest : List Value} {x : Nat}, ls[i]? = some (.val (.ref x)) → x_W X H locs (F0 (x_m X) (pc + len) ls (.ref x :: rest)) → x_W X H locs (F0 (x_m X) pc ls rest)) : z_So X pc (pc + len) (z_al i) := by
  refine z_so_mk fun L st M => ?_
  unfold z_al
  rcases he : z_nth L i with x | x | q | u
  · exact Or.inl fun _ => rfl
  · exact Or.inl fun _ => rfl
  · refine Or.inr ⟨_, _, _, fun _ => rfl, fun hw H locs ls hR hl ho hs => ?_⟩
    have h1 := hl.2.2 i (by rw [he]; intro h; cases h)
    have h2 := ho i
    rw [he] at h1 h2
    exact row h1 (hw H locs ls hR hl ho (fun v hv => by rcases List.mem_cons.mp hv with rfl | h; exact h2; exact hs v h))
  · exact Or.inl fun _ => rfl
theorem z_so_iload_n (hC : z_Cx X own cc nL ret kd) {k : Fin 4} {i : Nat} (hd : decode cc pc = .ok (.iload_n k, 1)) (hi : (k : Nat) = i) : z_So X pc (pc + 1) (z_il i) := z_so_il (fun h k => lv_iload_n hC.1 hC.2.1 hd hi h k)
theorem z_so_iload (hC : z_Cx X own cc nL ret kd) {i : Nat} (hd : decode cc pc = .ok (.iload i, 2)) : z_So X pc (pc + 2) (z_il i) := z_so_il (fun h k => lv_iload hC.1 hC.2.1 hd h k)
theorem z_so_lload_n (hC : z_Cx X own cc nL ret kd) {k : Fin 4} {i : Nat} (hd : decode cc pc = .ok (.lload_n k, 1)) (hi : (k : Nat) = i) : z_So X pc (pc + 1) (z_ll i) := z_so_ll (fun h k => lv_lload_n hC.1 hC.2.1 hd hi h k)
theorem z_so_lload (hC : z_Cx X own cc nL ret kd) {i : Nat} (hd : decode cc pc = .ok (.lload i, 2)) : z_So X pc (pc + 2) (z_ll i) := z_so_ll (fun h k => lv_lload hC.1 hC.2.1 hd h k)
theorem z_so_aload_n (hC : z_Cx X own cc nL ret kd) {k : Fin 4} {i : Nat} (hd : decode cc pc = .ok (.aload_n k, 1)) (hi : (k : Nat) = i) : z_So X pc (pc + 1) (z_al i) := z_so_al (fun h k => lv_aload_n hC.1 hC.2.1 hd hi h k)
theorem z_so_aload (hC : z_Cx X own cc nL ret kd) {i : Nat} (hd : decode cc pc = .ok (.aload i, 2)) : z_So X pc (pc + 2) (z_al i) := z_so_al (fun h k => lv_aload hC.1 hC.2.1 hd h k)
theorem z_nth_put : ∀ (L : List zV) (i : Nat) (v : zV) (j : Nat), z_nth (z_put L i v) j = if j = i ∧ i < L.length then v else z_nth L j := by
  intro L
  induction L with
  | nil => intro i v j; simp [z_put, z_nth]
  | cons a l ih =>
    intro i v j
    cases i with
    | zero => cases j <;> simp [z_put, z_nth]
    | succ i => cases j with
      | zero => simp [z_put, z_nth]
      | succ j => simp [z_put, z_nth, ih]
/-- the locals as a list of places, for the kit's rows -/
def z_pl (α : Nat → Nat) (L : List zV) : List (Nat × Value) := (List.range L.length).filterMap (fun i => match z_nth L i with | .inr (.inr (.inr _)) => none | v => some (i, z_cv α v))
theorem z_nth_out : ∀ (L : List zV) (i : Nat), L.length ≤ i → z_nth L i = zU := by
  intro L
  induction L with
  | nil => intro i _; rfl
  | cons a l ih =>
    intro i h
    cases i with
    | zero => simp at h
    | succ i => exact ih i (by simpa using h)
theorem z_pl_in {α : Nat → Nat} {L : List zV} {i : Nat} (h : z_nth L i ≠ zU) : (i, z_cv α (z_nth L i)) ∈ z_pl α L := by
  refine List.mem_filterMap.mpr ⟨i, ?_, ?_⟩
  · refine List.mem_range.mpr (Nat.not_le.mp fun h2 => h (z_nth_out L i h2))
  · rcases he : z_nth L i with x | x | q | u
    · rfl
    · rfl
    · rfl
    · exact absurd he h
theorem z_pl_has {L : List zV} {ls : Array Slot} (h : z_lv X L ls) : lv_has ls (x_c X).maxLocals (z_pl (x_al X) L) := by
  refine ⟨h.1, h.2.1, fun q hq => ?_⟩
  obtain ⟨i, -, hi⟩ := List.mem_filterMap.mp hq
  rcases he : z_nth L i with x | x | r | u
  · rw [he] at hi; cases hi; have := h.2.2 i (by rw [he]; intro z; cases z); rw [he] at this; exact this
  · rw [he] at hi; cases hi; have := h.2.2 i (by rw [he]; intro z; cases z); rw [he] at this; exact this
  · rw [he] at hi; cases hi; have := h.2.2 i (by rw [he]; intro z; cases z); rw [he] at this; exact this
  · rw [he] at hi; cases hi
theorem z_isJ_cat {α : Nat → Nat} {v : zV} (h : z_isJ v = false) : ¬ (z_cv α v).category = 2 := by
  rcases v with x | x | q | u
  · simp [z_cv, Value.category]
  · cases h
  · simp [z_cv, Value.category]
  · simp [z_cv, Value.category]
/-- behind a store of one slot -/
theorem z_lv_put {L : List zV} {ls' : Array Slot} {i : Nat} {v : zV} (hv : v ≠ zU) (hj : z_nj L i = true) (h : lv_has ls' (x_c X).maxLocals ((i, z_cv (x_al X) v) :: (z_pl (x_al X) L).filter (fun q => !(q.1 == i) && !(q.1 + 1 == i && q.2.category == 2)))) : z_lv X (z_put L i v) ls' := by
  refine ⟨h.1, h.2.1, fun j hne => ?_⟩
  rw [z_nth_put] at hne ⊢
  by_cases hc : j = i ∧ i < L.length
  · rw [if_pos hc] at hne ⊢
    obtain ⟨rfl, -⟩ := hc
    exact h.2.2 _ List.mem_cons_self
  · rw [if_neg hc] at hne ⊢
    have hji : j ≠ i := fun e => by
      subst e
      have : L.length ≤ j := Nat.not_lt.mp fun q => hc ⟨rfl, q⟩
      exact hne (z_nth_out L j this)
    refine h.2.2 (j, z_cv (x_al X) (z_nth L j)) (List.mem_cons_of_mem _ (List.mem_filter.mpr ⟨z_pl_in hne, ?_⟩))
    have h1 : (j == i) = false := by simpa using hji
    simp only [h1, Bool.not_false, Bool.true_and, Bool.not_eq_true', Bool.and_eq_false_iff]
    by_cases h2 : j + 1 = i
    · subst h2
      right
      have h3 : z_isJ (z_nth L j) = false := by simpa [z_nj] using hj
      simpa using z_isJ_cat (α := x_al X) h3
    · left
      simpa using h2
theorem z_ok_put {L : List zV} {i : Nat} {v : zV} (hv : x_ok X v) (h : ∀ j, x_ok X (z_nth L j)) : ∀ j, x_ok X (z_nth (z_put L i v) j) := by
  intro j
  rw [z_nth_put]
  split
  · exact hv
  · exact h j
theorem z_nth_clr (L : List zV) (i j : Nat) : z_nth (z_clr L i) j = if j + 1 = i then z_clv (z_nth L j) else z_nth L j := by
  cases i with
  | zero => simp [z_clr]
  | succ i =>
    unfold z_clr
    rw [z_nth_put]
    by_cases h : j = i
    · subst h
      by_cases hl : j < L.length
      · simp [hl]
      · simp [hl, z_nth_out L j (by omega), z_clv]
    · simp [h]
theorem z_clv_J (v : zV) : z_isJ (z_clv v) = false := by rcases v with v | v | v | v <;> rfl
theorem z_clv_U (v : zV) (h : z_clv v ≠ zU) : z_clv v = v := by
  rcases v with v | v | v | v
  · rfl
  · exact absurd rfl h
  · rfl
  · rfl
theorem z_nj_clr (L : List zV) (i : Nat) : z_nj (z_clr L i) i = true := by
  cases i with
  | zero => rfl
  | succ i =>
    show (!(z_isJ (z_nth (z_clr L (i + 1)) i))) = true
    rw [z_nth_clr, if_pos rfl, z_clv_J]
    rfl
theorem z_lv_clr {L : List zV} {ls : Array Slot} (i : Nat) (h : z_lv X L ls) : z_lv X (z_clr L i) ls := by
  refine ⟨h.1, h.2.1, fun j hj => ?_⟩
  rw [z_nth_clr] at hj ⊢
  split at hj
  · rename_i hc
    rw [if_pos hc, z_clv_U _ hj]
    exact h.2.2 j (by rw [z_clv_U _ hj] at hj; exact hj)
  · rename_i hc
    rw [if_neg hc]
    exact h.2.2 j hj
theorem z_ok_clr {L : List zV} (i : Nat) (h : ∀ j, x_ok X (z_nth L j)) : ∀ j, x_ok X (z_nth (z_clr L i) j) := by
  intro j
  rw [z_nth_clr]
  split
  · have h1 := h j
    rcases he : z_nth L j with v | v | v | v
    · rw [he] at h1; exact h1
    · trivial
    · rw [he] at h1; exact h1
    · trivial
  · exact h j
theorem z_ot_is (i : Nat) : z_Ot (z_is i) := by
  intro L st M
  rcases st with _ | ⟨x | x | q | u, r⟩ <;> first | exact Or.inr ⟨_, _, _, fun _ => rfl⟩ | exact Or.inl fun _ => rfl
theorem z_ot_as (i : Nat) : z_Ot (z_as i) := by
  intro L st M
  rcases st with _ | ⟨x | x | q | u, r⟩ <;> first | exact Or.inr ⟨_, _, _, fun _ => rfl⟩ | exact Or.inl fun _ => rfl
theorem z_ot_ls (i : Nat) : z_Ot (z_ls i) := by
  intro L st M
  rcases st with _ | ⟨x | x | q | u, r⟩ <;> first | exact Or.inr ⟨_, _, _, fun _ => rfl⟩ | exact Or.inl fun _ => rfl
theorem z_so_is {i len : Nat} (row : ∀ {H : Heap} {locs : List Loc} {ls : Array Slot} {rest : List Value} {x : Int32} {lv : List (Nat × Value)}, lv_has ls (x_c X).maxLocals lv → (∀ ls' : Array Slot, lv_has ls' (x_c X).maxLocals ((i, Value.int x) :: lv.filter (fun q => !(q.1 == i) && !(q.1 + 1 == i && q.2.category == 2))) → x_W X H locs (F0 (x_m X) (pc + len) ls' rest)) → x_W X H locs (F0 (x_m X) pc ls (.int x :: rest))) : z_So X pc (pc + len) (z_is i) := by
  refine z_so_mk fun L st M => ?_
  rcases st with _ | ⟨x | x | q | u, r⟩ <;> first | exact Or.inl fun _ => rfl | skip
  refine Or.inr ⟨_, _, _, fun _ => rfl, fun hw H locs ls hR hl ho hs => ?_⟩
  refine row (z_pl_has (z_lv_clr i hl)) (fun ls' h' => ?_)
  exact hw H locs ls' hR (z_lv_put (v := zI x) (fun h => by cases h) (z_nj_clr L i) h') (z_ok_put (hs _ List.mem_cons_self) (z_ok_clr i ho)) (fun v hv => hs v (List.mem_cons_of_mem _ hv))
theorem z_so_as {i len : Nat} (row : ∀ {H : Heap} {locs : List Loc} {ls : Array Slot} {rest : List Value} {x : Nat} {lv : List (Nat × Value)}, lv_has ls (x_c X).maxLocals lv → (∀ ls' : Array Slot, lv_has ls' (x_c X).maxLocals ((i, Value.ref x) :: lv.filter (fun q => !(q.1 == i) && !(q.1 + 1 == i && q.2.category == 2))) → x_W X H locs (F0 (x_m X) (pc + len) ls' rest)) → x_W X H locs (F0 (x_m X) pc ls (.ref x :: rest))) : z_So X pc (pc + len) (z_as i) := by
  refine z_so_mk fun L st M => ?_
  rcases st with _ | ⟨x | x | q | u, r⟩ <;> first | exact Or.inl fun _ => rfl | skip
  refine Or.inr ⟨_, _, _, fun _ => rfl, fun hw H locs ls hR hl ho hs => ?_⟩
  refine row (z_pl_has (z_lv_clr i hl)) (fun ls' h' => ?_)
  exact hw H locs ls' hR (z_lv_put (v := zA q.1 q.2) (fun h => by cases h) (z_nj_clr L i) h') (z_ok_put (hs _ List.mem_cons_self) (z_ok_clr i ho)) (fun v hv => hs v (List.mem_cons_of_mem _ hv))
theorem z_so_istore_n (hC : z_Cx X own cc nL ret kd) {k : Fin 4} {i : Nat} (hd : decode cc pc = .ok (.istore_n k, 1)) (hi : (k : Nat) = i) (hn : i < nL) : z_So X pc (pc + 1) (z_is i) := z_so_is (fun h kk => lv_istore_n hC.1 hC.2.1 hd hi h (by rw [hC.2.2.1]; exact hn) rfl kk)
theorem z_so_istore (hC : z_Cx X own cc nL ret kd) {i : Nat} (hd : decode cc pc = .ok (.istore i, 2)) (hn : i < nL) : z_So X pc (pc + 2) (z_is i) := z_so_is (fun h kk => lv_istore hC.1 hC.2.1 hd h (by rw [hC.2.2.1]; exact hn) rfl kk)
theorem z_so_astore_n (hC : z_Cx X own cc nL ret kd) {k : Fin 4} {i : Nat} (hd : decode cc pc = .ok (.astore_n k, 1)) (hi : (k : Nat) = i) (hn : i < nL) : z_So X pc (pc + 1) (z_as i) := z_so_as (fun h kk => lv_astore_n hC.1 hC.2.1 hd hi h (by rw [hC.2.2.1]; exact hn) rfl kk)
theorem z_so_astore (hC : z_Cx X own cc nL ret kd) {i : Nat} (hd : decode cc pc = .ok (.astore i, 2)) (hn : i < nL) : z_So X pc (pc + 2) (z_as i) := z_so_as (fun h kk => lv_astore hC.1 hC.2.1 hd h (by rw [hC.2.2.1]; exact hn) rfl kk)
theorem z_lv_put2 {L : List zV} {ls' : Array Slot} {i : Nat} {v : zV} (hv : v ≠ zU) (hj : z_nj L i = true) (h : lv_has ls' (x_c X).maxLocals ((i, z_cv (x_al X) v) :: (z_pl (x_al X) L).filter (fun q => !(q.1 == i) && (!(q.1 == i + 1) && !(q.1 + 1 == i && q.2.category == 2))))) : z_lv X (z_put (z_put L i v) (i + 1) zU) ls' := by
  refine ⟨h.1, h.2.1, fun j hne => ?_⟩
  rw [z_nth_put] at hne ⊢
  by_cases hc0 : j = i + 1 ∧ i + 1 < (z_put L i v).length
  · rw [if_pos hc0] at hne
    exact absurd rfl hne
  · rw [if_neg hc0] at hne ⊢
    have hji1 : j ≠ i + 1 := fun e => by
      subst e
      have : (z_put L i v).length ≤ i + 1 := Nat.not_lt.mp fun q => hc0 ⟨rfl, q⟩
      exact hne (z_nth_out _ _ this)
    rw [z_nth_put] at hne ⊢
    by_cases hc : j = i ∧ i < L.length
    · rw [if_pos hc] at hne ⊢
      obtain ⟨rfl, -⟩ := hc
      exact h.2.2 _ List.mem_cons_self
    · rw [if_neg hc] at hne ⊢
      have hji : j ≠ i := fun e => by
        subst e
        have : L.length ≤ j := Nat.not_lt.mp fun q => hc ⟨rfl, q⟩
        exact hne (z_nth_out L j this)
      refine h.2.2 (j, z_cv (x_al X) (z_nth L j)) (List.mem_cons_of_mem _ (List.mem_filter.mpr ⟨z_pl_in hne, ?_⟩))
      have h1 : (j == i) = false := by simpa using hji
      have h1' : (j == i + 1) = false := by simpa using hji1
      simp only [h1, h1', Bool.not_false, Bool.true_and, Bool.not_eq_true', Bool.and_eq_false_iff]
      by_cases h2 : j + 1 = i
      · subst h2
        right
        have h3 : z_isJ (z_nth L j) = false := by simpa [z_nj] using hj
        simpa using z_isJ_cat (α := x_al X) h3
      · left
        simpa using h2
theorem z_so_ls {i len : Nat} (row : ∀ {H : Heap} {locs : List Loc} {ls : Array Slot} {rest : List Value} {x : Int64} {lv : List (Nat × Value)}, lv_has ls (x_c X).maxLocals lv → (∀ ls' : Array Slot, lv_has ls' (x_c X).maxLocals ((i, Value.long x) :: lv.filter (fun q => !(q.1 == i) && (!(q.1 == i + 1) && !(q.1 + 1 == i && q.2.category == 2)))) → x_W X H locs (F0 (x_m X) (pc + len) ls' rest)) → x_W X H locs (F0 (x_m X) pc ls (.long x :: rest))) : z_So X pc (pc + len) (z_ls i) := by
  refine z_so_mk fun L st M => ?_
  rcases st with _ | ⟨x | x | q | u, r⟩ <;> first | exact Or.inl fun _ => rfl | skip
  refine Or.inr ⟨_, _, _, fun _ => rfl, fun hw H locs ls hR hl ho hs => ?_⟩
  refine row (z_pl_has (z_lv_clr i hl)) (fun ls' h' => ?_)
  exact hw H locs ls' hR (z_lv_put2 (v := zJ x) (fun h => by cases h) (z_nj_clr L i) h') (z_ok_put (v := zU) trivial (z_ok_put (hs _ List.mem_cons_self) (z_ok_clr i ho))) (fun v hv => hs v (List.mem_cons_of_mem _ hv))
theorem z_so_lstore_n (hC : z_Cx X own cc nL ret kd) {k : Fin 4} {i : Nat} (hd : decode cc pc = .ok (.lstore_n k, 1)) (hi : (k : Nat) = i) (hn : i + 1 < nL) : z_So X pc (pc + 1) (z_ls i) := z_so_ls (fun h kk => lv_lstore_n hC.1 hC.2.1 hd hi h (by rw [hC.2.2.1]; exact hn) rfl kk)
theorem z_so_lstore (hC : z_Cx X own cc nL ret kd) {i : Nat} (hd : decode cc pc = .ok (.lstore i, 2)) (hn : i + 1 < nL) : z_So X pc (pc + 2) (z_ls i) := z_so_ls (fun h kk => lv_lstore hC.1 hC.2.1 hd h (by rw [hC.2.2.1]; exact hn) rfl kk)
theorem z_ot_inc (i : Nat) (n : Int) : z_Ot (z_inc i n) := by
  intro L st M
  unfold z_inc
  rcases z_nth L i with x | x | q | u
  · exact Or.inr ⟨_, _, _, fun _ => rfl⟩
  all_goals exact Or.inl fun _ => rfl
theorem z_so_iinc (hC : z_Cx X own cc nL ret kd) {i : Nat} {n : Int} (hd : decode cc pc = .ok (.iinc i n, 3)) (hn : i < nL) : z_So X pc (pc + 3) (z_inc i n) := by
  refine z_so_mk fun L st M => ?_
  unfold z_inc
  rcases he : z_nth L i with x | x | q | u
  · refine Or.inr ⟨_, _, _, fun _ => rfl, fun hw H locs ls hR hl ho hs => ?_⟩
    have h1 := hl.2.2 i (by rw [he]; intro h; cases h)
    rw [he] at h1
    have hm := z_pl_in (α := x_al X) (L := L) (i := i) (by rw [he]; intro h; cases h)
    rw [he] at hm
    obtain ⟨k, hk⟩ := List.getElem?_of_mem hm
    have hj : z_nj L i = true := by
      cases i with
      | zero => rfl
      | succ j =>
        cases hq : z_isJ (z_nth L j) with
        | false => simp [z_nj, hq]
        | true =>
          rcases hz : z_nth L j with y | y | y | y
          · rw [hz] at hq; cases hq
          · have h2 := hl.2.2 j (by rw [hz]; intro h; cases h)
            rw [hz] at h2
            have h3 := hl.2.1.1 j _ h2 (by simp [z_cv, Value.category])
            rw [h1] at h3
            cases h3
          · rw [hz] at hq; cases hq
          · rw [hz] at hq; cases hq
    refine lv_iinc (v := Int32.ofInt (z_w32 (x + n))) hC.1 hC.2.1 hd (z_pl_has hl) hk (by rw [z_of32, Int32.ofInt_add]) (by rw [hC.2.2.1]; exact hn) rfl (fun ls' h' => ?_)
    exact hw H locs ls' hR (z_lv_put (v := zI (z_w32 (x + n))) (fun h => by cases h) hj h') (z_ok_put (z_r32 _) ho) hs
  all_goals exact Or.inl fun _ => rfl
end
