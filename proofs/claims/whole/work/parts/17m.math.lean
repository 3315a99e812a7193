/-! ===== Math.max, min, abs ===== -/
section
variable {X : zX} {own : String} {cc : ByteArray} {nL : Nat} {ret : Option FieldType} {kd : Nat} {pc : Nat} {P : Nat → Nat}
theorem z_ot_m2 (f : Int → Int → Int) : z_Ot (z_m2 f) := by
  intro L st M
  rcases st with _ | ⟨y | y | q | u, _ | ⟨x | x | q | u, r⟩⟩ <;> first | exact Or.inl fun _ => rfl | skip
  cases hb : Nat.ble (z_wt r) 8
  · exact Or.inl fun _ => by simp [z_m2, hb]
  · exact Or.inr ⟨L, zI (f x y) :: r, M, fun _ => by simp [z_m2, hb]⟩
theorem z_ot_mj2 (f : Int → Int → Int) : z_Ot (z_mj2 f) := by
  intro L st M
  rcases st with _ | ⟨y | y | q | u, _ | ⟨x | x | q | u, r⟩⟩ <;> first | exact Or.inl fun _ => rfl | skip
  cases hb : Nat.ble (z_wt r) 8
  · exact Or.inl fun _ => by simp [z_mj2, hb]
  · exact Or.inr ⟨L, zJ (f x y) :: r, M, fun _ => by simp [z_mj2, hb]⟩
theorem z_ot_mj1 (f : Int → Int) : z_Ot (z_mj1 f) := by
  intro L st M
  rcases st with _ | ⟨x | x | q | u, r⟩ <;> first | exact Or.inl fun _ => rfl | skip
  cases hb : Nat.ble (z_wt r) 8
  · exact Or.inl fun _ => by simp [z_mj1, hb]
  · exact Or.inr ⟨L, zJ (f x) :: r, M, fun _ => by simp [z_mj1, hb]⟩
theorem z_so_m2 {f : Int → Int → Int} {F : Int32 → Int32 → Int32} (hf : ∀ x y, z_rI x → z_rI y → Int32.ofInt (f x y) = F (Int32.ofInt x) (Int32.ofInt y) ∧ z_rI (f x y)) (row : ∀ {H : Heap} {locs : List Loc} {ls : Array Slot} {rest : List Value} {x y : Int32}, (x_c X).maxLocals = ls.size → (rest.map fun v => v.category).sum ≤ 8 → x_W X H locs (F0 (x_m X) (pc + 3) ls (.int (F x y) :: rest)) → x_W X H locs (F0 (x_m X) pc ls (.int y :: .int x :: rest))) : z_So X pc (pc + 3) (z_m2 f) := by
  refine z_so_mk fun L st M => ?_
  rcases st with _ | ⟨y | y | q | u, _ | ⟨x | x | q | u, r⟩⟩ <;> first | exact Or.inl fun _ => rfl | skip
  cases hb : Nat.ble (z_wt r) 8
  · exact Or.inl fun _ => by simp [z_m2, hb]
  · refine Or.inr ⟨L, zI (f x y) :: r, M, fun _ => by simp [z_m2, hb], fun hw H locs ls hR hl ho hs => ?_⟩
    have hy : z_rI y := hs _ List.mem_cons_self
    have hx : z_rI x := hs _ (List.mem_cons_of_mem _ List.mem_cons_self)
    refine row hl.1.symm (Nat.le_trans (z_wt_map r) (Nat.le_of_ble_eq_true hb)) ?_
    rw [← (hf x y hx hy).1]
    exact hw H locs ls hR hl ho (fun v hv => by rcases List.mem_cons.mp hv with rfl | h; exact (hf x y hx hy).2; exact hs v (List.mem_cons_of_mem _ (List.mem_cons_of_mem _ h)))
theorem z_so_mj2 {f : Int → Int → Int} {F : Int64 → Int64 → Int64} (hf : ∀ x y, z_rJ x → z_rJ y → Int64.ofInt (f x y) = F (Int64.ofInt x) (Int64.ofInt y) ∧ z_rJ (f x y)) (row : ∀ {H : Heap} {locs : List Loc} {ls : Array Slot} {rest : List Value} {x y : Int64}, (x_c X).maxLocals = ls.size → (rest.map fun v => v.category).sum ≤ 8 → x_W X H locs (F0 (x_m X) (pc + 3) ls (.long (F x y) :: rest)) → x_W X H locs (F0 (x_m X) pc ls (.long y :: .long x :: rest))) : z_So X pc (pc + 3) (z_mj2 f) := by
  refine z_so_mk fun L st M => ?_
  rcases st with _ | ⟨y | y | q | u, _ | ⟨x | x | q | u, r⟩⟩ <;> first | exact Or.inl fun _ => rfl | skip
  cases hb : Nat.ble (z_wt r) 8
  · exact Or.inl fun _ => by simp [z_mj2, hb]
  · refine Or.inr ⟨L, zJ (f x y) :: r, M, fun _ => by simp [z_mj2, hb], fun hw H locs ls hR hl ho hs => ?_⟩
    have hy : z_rJ y := hs _ List.mem_cons_self
    have hx : z_rJ x := hs _ (List.mem_cons_of_mem _ List.mem_cons_self)
    refine row hl.1.symm (Nat.le_trans (z_wt_map r) (Nat.le_of_ble_eq_true hb)) ?_
    rw [← (hf x y hx hy).1]
    exact hw H locs ls hR hl ho (fun v hv => by rcases List.mem_cons.mp hv with rfl | h; exact (hf x y hx hy).2; exact hs v (List.mem_cons_of_mem _ (List.mem_cons_of_mem _ h)))
theorem z_so_mj1 {f : Int → Int} {F : Int64 → Int64} (hf : ∀ x, z_rJ x → Int64.ofInt (f x) = F (Int64.ofInt x) ∧ z_rJ (f x)) (row : ∀ {H : Heap} {locs : List Loc} {ls : Array Slot} {rest : List Value} {x : Int64}, (x_c X).maxLocals = ls.size → (rest.map fun v => v.category).sum ≤ 8 → x_W X H locs (F0 (x_m X) (pc + 3) ls (.long (F x) :: rest)) → x_W X H locs (F0 (x_m X) pc ls (.long x :: rest))) : z_So X pc (pc + 3) (z_mj1 f) := by
  refine z_so_mk fun L st M => ?_
  rcases st with _ | ⟨x | x | q | u, r⟩ <;> first | exact Or.inl fun _ => rfl | skip
  cases hb : Nat.ble (z_wt r) 8
  · exact Or.inl fun _ => by simp [z_mj1, hb]
  · refine Or.inr ⟨L, zJ (f x) :: r, M, fun _ => by simp [z_mj1, hb], fun hw H locs ls hR hl ho hs => ?_⟩
    have hx : z_rJ x := hs _ List.mem_cons_self
    refine row hl.1.symm (Nat.le_trans (z_wt_map r) (Nat.le_of_ble_eq_true hb)) ?_
    rw [← (hf x hx).1]
    exact hw H locs ls hR hl ho (fun v hv => by rcases List.mem_cons.mp hv with rfl | h; exact (hf x hx).2; exact hs v (List.mem_cons_of_mem _ h))
/-- room for a call of Math -/
theorem z_mroom (hC : z_Cx X own cc nL ret kd) (hk : 1 ≤ kd) : 1 ≤ (x_R X).frames ∧ 38 ≤ (x_R X).locals := by
  obtain ⟨-, -, h3, h4⟩ := hC.2.2.2.2.2.2.2.2.1
  exact ⟨Nat.le_trans hk h3, Nat.le_trans (by omega) h4⟩
theorem z_so_max (hC : z_Cx X own cc nL ret kd) (hk : 1 ≤ kd) {ix : Nat} (h1 : Cond.methodLink own ix Lib.Math.max.name ∈ z_tbl) (h2 : Cond.static Lib.Math.max.name ∈ z_tbl) (h3 : Cond.initialized "java/lang/Math" ∈ z_tbl) (h4 : Cond.code Lib.Math.max.name Lib.Math.max.code 2 (some .int) ∈ z_tbl) (hd : decode cc pc = .ok (.invokestatic ix, 3)) : z_So X pc (pc + 3) (z_m2 z_max) := by
  have hr := z_mroom hC hk
  obtain ⟨hx, hb, hml, hown, hts, hlk, hrt, hK, hrm, hQ⟩ := hC
  refine z_so_m2 (F := fun a b => if a < b then b else a) (fun a b ha hb => ?_) (fun hs hw k => va_mmax hx hb hs hown (hts _ h1) (hts _ h2) (hts _ h3) (hts _ h4) hr.1 (by omega) hrm.1 hrm.2.1 hd k)
  unfold z_max
  by_cases h : a < b
  · rw [if_pos h, if_pos ((z_lt32 ha hb).mpr h)]; exact ⟨rfl, hb⟩
  · rw [if_neg h, if_neg (fun q => h ((z_lt32 ha hb).mp q))]; exact ⟨rfl, ha⟩
theorem z_so_min (hC : z_Cx X own cc nL ret kd) (hk : 1 ≤ kd) {ix : Nat} (h1 : Cond.methodLink own ix Lib.Math.min.name ∈ z_tbl) (h2 : Cond.static Lib.Math.min.name ∈ z_tbl) (h3 : Cond.initialized "java/lang/Math" ∈ z_tbl) (h4 : Cond.code Lib.Math.min.name Lib.Math.min.code 2 (some .int) ∈ z_tbl) (hd : decode cc pc = .ok (.invokestatic ix, 3)) : z_So X pc (pc + 3) (z_m2 z_min) := by
  have hr := z_mroom hC hk
  obtain ⟨hx, hb, hml, hown, hts, hlk, hrt, hK, hrm, hQ⟩ := hC
  refine z_so_m2 (F := fun a b => if b < a then b else a) (fun a b ha hb => ?_) (fun hs hw k => va_mmin hx hb hs hown (hts _ h1) (hts _ h2) (hts _ h3) (hts _ h4) hr.1 (by omega) hrm.1 hrm.2.1 hd k)
  unfold z_min
  by_cases h : b < a
  · rw [if_pos h, if_pos ((z_lt32 hb ha).mpr h)]; exact ⟨rfl, hb⟩
  · rw [if_neg h, if_neg (fun q => h ((z_lt32 hb ha).mp q))]; exact ⟨rfl, ha⟩
theorem z_so_lmax (hC : z_Cx X own cc nL ret kd) (hk : 1 ≤ kd) {ix : Nat} (h1 : Cond.methodLink own ix Lib.MathLoose.max_long.x ∈ z_tbl) (h2 : Cond.static Lib.MathLoose.max_long.x ∈ z_tbl) (h3 : Cond.initialized "java/lang/Math" ∈ z_tbl) (h4 : Cond.code Lib.MathLoose.max_long.x Lib.MathLoose.max_long.code 4 (some .long) ∈ z_tbl) (hd : decode cc pc = .ok (.invokestatic ix, 3)) : z_So X pc (pc + 3) (z_mj2 z_lmax) := by
  have hr := z_mroom hC hk
  obtain ⟨hx, hb, hml, hown, hts, hlk, hrt, hK, hrm, hQ⟩ := hC
  refine z_so_mj2 (F := fun a b => if b < a then a else b) (fun a b ha hb => ?_) (fun {H locs ls rest x y} hs hw k => ?_)
  · unfold z_lmax
    by_cases h : b < a
    · rw [if_pos h, if_pos ((z_lt64 hb ha).mpr h)]; exact ⟨rfl, ha⟩
    · rw [if_neg h, if_neg (fun q => h ((z_lt64 hb ha).mp q))]; exact ⟨rfl, hb⟩
  · intro T hT X0
    obtain ⟨vm', X', st⟩ := va_max_longV X0 hx hown (hts _ h1) (hts _ h2) (hts _ h3) (hts _ h4) (g := F0 (x_m X) pc ls (.long y :: .long x :: rest)) rfl hs.symm rfl (by rw [hb]; exact hd) hr.1 (by show 2 * 0 + _ + 15 ≤ _; omega) hrm.1 hrm.2.1
    obtain ⟨t, a1, b1⟩ := k (T.setVm vm') hT X'
    exact ⟨t, st t a1, b1⟩
theorem z_so_lmin (hC : z_Cx X own cc nL ret kd) (hk : 1 ≤ kd) {ix : Nat} (h1 : Cond.methodLink own ix Lib.MathLoose.min_long.x ∈ z_tbl) (h2 : Cond.static Lib.MathLoose.min_long.x ∈ z_tbl) (h3 : Cond.initialized "java/lang/Math" ∈ z_tbl) (h4 : Cond.code Lib.MathLoose.min_long.x Lib.MathLoose.min_long.code 4 (some .long) ∈ z_tbl) (hd : decode cc pc = .ok (.invokestatic ix, 3)) : z_So X pc (pc + 3) (z_mj2 z_lmin) := by
  have hr := z_mroom hC hk
  obtain ⟨hx, hb, hml, hown, hts, hlk, hrt, hK, hrm, hQ⟩ := hC
  refine z_so_mj2 (F := fun a b => if b < a then b else a) (fun a b ha hb => ?_) (fun {H locs ls rest x y} hs hw k => ?_)
  · unfold z_lmin
    by_cases h : b < a
    · rw [if_pos h, if_pos ((z_lt64 hb ha).mpr h)]; exact ⟨rfl, hb⟩
    · rw [if_neg h, if_neg (fun q => h ((z_lt64 hb ha).mp q))]; exact ⟨rfl, ha⟩
  · intro T hT X0
    obtain ⟨vm', X', st⟩ := va_min_longV X0 hx hown (hts _ h1) (hts _ h2) (hts _ h3) (hts _ h4) (g := F0 (x_m X) pc ls (.long y :: .long x :: rest)) rfl hs.symm rfl (by rw [hb]; exact hd) hr.1 (by show 2 * 0 + _ + 15 ≤ _; omega) hrm.1 hrm.2.1
    obtain ⟨t, a1, b1⟩ := k (T.setVm vm') hT X'
    exact ⟨t, st t a1, b1⟩
theorem z_so_labs (hC : z_Cx X own cc nL ret kd) (hk : 1 ≤ kd) {ix : Nat} (h1 : Cond.methodLink own ix Lib.MathLoose.abs_long.x ∈ z_tbl) (h2 : Cond.static Lib.MathLoose.abs_long.x ∈ z_tbl) (h3 : Cond.initialized "java/lang/Math" ∈ z_tbl) (h4 : Cond.code Lib.MathLoose.abs_long.x Lib.MathLoose.abs_long.code 2 (some .long) ∈ z_tbl) (hd : decode cc pc = .ok (.invokestatic ix, 3)) : z_So X pc (pc + 3) (z_mj1 z_labs) := by
  have hr := z_mroom hC hk
  obtain ⟨hx, hb, hml, hown, hts, hlk, hrt, hK, hrm, hQ⟩ := hC
  refine z_so_mj1 (F := fun a => if 0 < a then a else -a) (fun a ha => ?_) (fun {H locs ls rest x} hs hw k => ?_)
  · unfold z_labs
    have h0 : z_rJ 0 := ⟨by decide, by decide⟩
    have h64 : (0 : Int64) < Int64.ofInt a ↔ 0 < a := z_lt64 h0 ha
    by_cases h : 0 < a
    · rw [if_pos h, if_pos (h64.mpr h)]; exact ⟨rfl, ha⟩
    · rw [if_neg h, if_neg (fun q => h (h64.mp q)), z_of64, Int64.ofInt_neg]; exact ⟨rfl, z_r64 _⟩
  · intro T hT X0
    obtain ⟨vm', X', st⟩ := va_abs_longV X0 hx hown (hts _ h1) (hts _ h2) (hts _ h3) (hts _ h4) (g := F0 (x_m X) pc ls (.long x :: rest)) rfl hs.symm rfl (by rw [hb]; exact hd) hr.1 (by show 2 * 0 + _ + 13 ≤ _; omega) hrm.1 hrm.2.1
    obtain ⟨t, a1, b1⟩ := k (T.setVm vm') hT X'
    exact ⟨t, st t a1, b1⟩
end
