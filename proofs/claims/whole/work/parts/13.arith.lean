/-! ===== numbers, branches, ends ===== -/
theorem z_rI_0 : z_rI 0 := ⟨by decide, by decide⟩
theorem z_rI_1 : z_rI 1 := ⟨by decide, by decide⟩
theorem z_lt32 {x y : Int} (hx : z_rI x) (hy : z_rI y) : Int32.ofInt x < Int32.ofInt y ↔ x < y := by rw [Int32.lt_iff_toInt_lt, z_ti hx, z_ti hy]
theorem z_le32 {x y : Int} (hx : z_rI x) (hy : z_rI y) : Int32.ofInt x ≤ Int32.ofInt y ↔ x ≤ y := by rw [Int32.le_iff_toInt_le, z_ti hx, z_ti hy]
theorem z_eq32 {x y : Int} (hx : z_rI x) (hy : z_rI y) : Int32.ofInt x = Int32.ofInt y ↔ x = y := by rw [← Int32.toInt_inj, z_ti hx, z_ti hy]
theorem z_lt64 {x y : Int} (hx : z_rJ x) (hy : z_rJ y) : Int64.ofInt x < Int64.ofInt y ↔ x < y := by rw [Int64.lt_iff_toInt_lt, z_tj hx, z_tj hy]
theorem z_eq64 {x y : Int} (hx : z_rJ x) (hy : z_rJ y) : Int64.ofInt x = Int64.ofInt y ↔ x = y := by rw [← Int64.toInt_inj, z_tj hx, z_tj hy]
theorem z_of0 : Int32.ofInt 0 = 0 := rfl
theorem z_of0j : Int64.ofInt 0 = 0 := rfl
section
variable {X : zX} {own : String} {cc : ByteArray} {nL : Nat} {ret : Option FieldType} {kd : Nat} {pc : Nat} {P : Nat → Nat}
theorem z_ot_i2 (f : Int → Int → Int) : z_Ot (z_i2 f) := by
  intro L st M
  rcases st with _ | ⟨x | x | q | u, _ | ⟨y | y | q | u, r⟩⟩ <;> first | exact Or.inr ⟨_, _, _, fun _ => rfl⟩ | exact Or.inl fun _ => rfl
theorem z_ot_j2 (f : Int → Int → Int) : z_Ot (z_j2 f) := by
  intro L st M
  rcases st with _ | ⟨x | x | q | u, _ | ⟨y | y | q | u, r⟩⟩ <;> first | exact Or.inr ⟨_, _, _, fun _ => rfl⟩ | exact Or.inl fun _ => rfl
theorem z_so_i2 {f : Int → Int → Int} {F : Int32 → Int32 → Int32} (hf : ∀ x y, z_rI x → z_rI y → Int32.ofInt (f x y) = F (Int32.ofInt x) (Int32.ofInt y) ∧ z_rI (f x y)) (row : ∀ {H : Heap} {locs : List Loc} {ls : Array Slot} {rest : List Value} {x y : Int32}, x_W X H locs (F0 (x_m X) (pc + 1) ls (.int (F x y) :: rest)) → x_W X H locs (F0 (x_m X) pc ls (.int y :: .int x :: rest))) : z_So X pc (pc + 1) (z_i2 f) := by
  refine z_so_mk fun L st M => ?_
  rcases st with _ | ⟨y | y | q | u, _ | ⟨x | x | q | u, r⟩⟩ <;> first | exact Or.inl fun _ => rfl | skip
  refine Or.inr ⟨_, _, _, fun _ => rfl, fun hw H locs ls hR hl ho hs => ?_⟩
  have hy : z_rI y := hs _ List.mem_cons_self
  have hx : z_rI x := hs _ (List.mem_cons_of_mem _ List.mem_cons_self)
  refine row ?_
  rw [← (hf x y hx hy).1]
  exact hw H locs ls hR hl ho (fun v hv => by rcases List.mem_cons.mp hv with rfl | h; exact (hf x y hx hy).2; exact hs v (List.mem_cons_of_mem _ (List.mem_cons_of_mem _ h)))
theorem z_so_j2 {f : Int → Int → Int} {F : Int64 → Int64 → Int64} (hf : ∀ x y, z_rJ x → z_rJ y → Int64.ofInt (f x y) = F (Int64.ofInt x) (Int64.ofInt y) ∧ z_rJ (f x y)) (row : ∀ {H : Heap} {locs : List Loc} {ls : Array Slot} {rest : List Value} {x y : Int64}, x_W X H locs (F0 (x_m X) (pc + 1) ls (.long (F x y) :: rest)) → x_W X H locs (F0 (x_m X) pc ls (.long y :: .long x :: rest))) : z_So X pc (pc + 1) (z_j2 f) := by
  refine z_so_mk fun L st M => ?_
  rcases st with _ | ⟨y | y | q | u, _ | ⟨x | x | q | u, r⟩⟩ <;> first | exact Or.inl fun _ => rfl | skip
  refine Or.inr ⟨_, _, _, fun _ => rfl, fun hw H locs ls hR hl ho hs => ?_⟩
  have hy : z_rJ y := hs _ List.mem_cons_self
  have hx : z_rJ x := hs _ (List.mem_cons_of_mem _ List.mem_cons_self)
  refine row ?_
  rw [← (hf x y hx hy).1]
  exact hw H locs ls hR hl ho (fun v hv => by rcases List.mem_cons.mp hv with rfl | h; exact (hf x y hx hy).2; exact hs v (List.mem_cons_of_mem _ (List.mem_cons_of_mem _ h)))
theorem z_so_iadd (hC : z_Cx X own cc nL ret kd) (hd : decode cc pc = .ok (.iadd, 1)) : z_So X pc (pc + 1) (z_i2 z_add) := z_so_i2 (fun x y _ _ => ⟨by unfold z_add; rw [z_of32, Int32.ofInt_add], z_r32 _⟩) (fun k => lv_iadd hC.1 hC.2.1 hd k)
theorem z_so_isub (hC : z_Cx X own cc nL ret kd) (hd : decode cc pc = .ok (.isub, 1)) : z_So X pc (pc + 1) (z_i2 z_sub) := z_so_i2 (fun x y _ _ => ⟨by unfold z_sub; rw [z_of32, Int32.ofInt_sub], z_r32 _⟩) (fun k => lv_isub hC.1 hC.2.1 hd k)
theorem z_so_imul (hC : z_Cx X own cc nL ret kd) (hd : decode cc pc = .ok (.imul, 1)) : z_So X pc (pc + 1) (z_i2 z_mul) := z_so_i2 (fun x y _ _ => ⟨by unfold z_mul; rw [z_of32, Int32.ofInt_mul], z_r32 _⟩) (fun k => lv_imul hC.1 hC.2.1 hd k)
theorem z_so_iand (hC : z_Cx X own cc nL ret kd) (hd : decode cc pc = .ok (.iand, 1)) : z_So X pc (pc + 1) (z_i2 z_and) := z_so_i2 (fun x y _ _ => ⟨z_oft _, z_rti _⟩) (fun k => lv_iand hC.1 hC.2.1 hd k)
theorem z_so_ior (hC : z_Cx X own cc nL ret kd) (hd : decode cc pc = .ok (.ior, 1)) : z_So X pc (pc + 1) (z_i2 z_or) := z_so_i2 (fun x y _ _ => ⟨z_oft _, z_rti _⟩) (fun k => lv_ior hC.1 hC.2.1 hd k)
theorem z_so_ixor (hC : z_Cx X own cc nL ret kd) (hd : decode cc pc = .ok (.ixor, 1)) : z_So X pc (pc + 1) (z_i2 z_xor) := z_so_i2 (fun x y _ _ => ⟨z_oft _, z_rti _⟩) (fun k => lv_ixor hC.1 hC.2.1 hd k)
theorem z_so_ishl (hC : z_Cx X own cc nL ret kd) (hd : decode cc pc = .ok (.ishl, 1)) : z_So X pc (pc + 1) (z_i2 z_shl) := z_so_i2 (F := fun x y => x <<< (y &&& 31)) (fun x y _ _ => ⟨z_oft _, z_rti _⟩) (fun k => lv_ishl hC.1 hC.2.1 hd k)
theorem z_so_ishr (hC : z_Cx X own cc nL ret kd) (hd : decode cc pc = .ok (.ishr, 1)) : z_So X pc (pc + 1) (z_i2 z_shr) := z_so_i2 (F := fun x y => x >>> (y &&& 31)) (fun x y _ _ => ⟨z_oft _, z_rti _⟩) (fun k => lv_ishr hC.1 hC.2.1 hd k)
theorem z_so_iushr (hC : z_Cx X own cc nL ret kd) (hd : decode cc pc = .ok (.iushr, 1)) : z_So X pc (pc + 1) (z_i2 z_ushr) := z_so_i2 (F := fun x y => (x.toUInt32 >>> (y.toUInt32 &&& Int32.toUInt32 31)).toInt32) (fun x y _ _ => ⟨z_oft _, z_rti _⟩) (fun k => lv_iushr hC.1 hC.2.1 hd rfl k)
theorem z_so_ladd (hC : z_Cx X own cc nL ret kd) (hd : decode cc pc = .ok (.ladd, 1)) : z_So X pc (pc + 1) (z_j2 z_ladd) := z_so_j2 (fun x y _ _ => ⟨by unfold z_ladd; rw [z_of64, Int64.ofInt_add], z_r64 _⟩) (fun k => lv_ladd hC.1 hC.2.1 hd k)
theorem z_so_lsub (hC : z_Cx X own cc nL ret kd) (hd : decode cc pc = .ok (.lsub, 1)) : z_So X pc (pc + 1) (z_j2 z_lsub) := z_so_j2 (fun x y _ _ => ⟨by unfold z_lsub; rw [z_of64, Int64.ofInt_sub], z_r64 _⟩) (fun k => lv_lsub hC.1 hC.2.1 hd k)
theorem z_so_lmul (hC : z_Cx X own cc nL ret kd) (hd : decode cc pc = .ok (.lmul, 1)) : z_So X pc (pc + 1) (z_j2 z_lmul) := z_so_j2 (fun x y _ _ => ⟨by unfold z_lmul; rw [z_of64, Int64.ofInt_mul], z_r64 _⟩) (fun k => lv_lmul hC.1 hC.2.1 hd k)
theorem z_so_land (hC : z_Cx X own cc nL ret kd) (hd : decode cc pc = .ok (.land, 1)) : z_So X pc (pc + 1) (z_j2 z_land) := z_so_j2 (fun x y _ _ => ⟨z_oftj _, z_rtj _⟩) (fun k => lv_land hC.1 hC.2.1 hd k)
/-! division: Java's is cut towards 0 -/
theorem z_div32 {x y : Int} (hx : z_rI x) (hy : z_rI y) : Int32.ofInt (z_w32 (x.tdiv y)) = Int32.ofInt x / Int32.ofInt y := by
  rw [z_of32]
  apply Int32.toInt_inj.mp
  rw [Int32.toInt_div, z_ti hx, z_ti hy, Int32.toInt_ofInt]
theorem z_div64 {x y : Int} (hx : z_rJ x) (hy : z_rJ y) : Int64.ofInt (z_w64 (x.tdiv y)) = Int64.ofInt x / Int64.ofInt y := by
  rw [z_of64]
  apply Int64.toInt_inj.mp
  rw [Int64.toInt_div, z_tj hx, z_tj hy, Int64.toInt_ofInt]
theorem z_tmod_rI {x y : Int} (hx : z_rI x) : z_rI (x.tmod y) := by
  obtain ⟨h1, h2⟩ := hx
  have a := Int.natAbs_tmod x y
  have b := Nat.mod_le x.natAbs y.natAbs
  rcases Int.le_total 0 x with h | h
  · have c := Int.tmod_nonneg y h
    exact ⟨by omega, by omega⟩
  · have c : 0 ≤ (-x).tmod y := Int.tmod_nonneg y (by omega)
    rw [Int.neg_tmod] at c
    exact ⟨by omega, by omega⟩
theorem z_tmod_rJ {x y : Int} (hx : z_rJ x) : z_rJ (x.tmod y) := by
  obtain ⟨h1, h2⟩ := hx
  have a := Int.natAbs_tmod x y
  have b := Nat.mod_le x.natAbs y.natAbs
  rcases Int.le_total 0 x with h | h
  · have c := Int.tmod_nonneg y h
    exact ⟨by omega, by omega⟩
  · have c : 0 ≤ (-x).tmod y := Int.tmod_nonneg y (by omega)
    rw [Int.neg_tmod] at c
    exact ⟨by omega, by omega⟩
theorem z_rem32 {x y : Int} (hx : z_rI x) (hy : z_rI y) : Int32.ofInt (x.tmod y) = Int32.ofInt x - Int32.ofInt x / Int32.ofInt y * Int32.ofInt y := by
  rw [← z_div32 hx hy, z_of32, ← Int32.ofInt_mul, ← Int32.ofInt_sub]
  congr 1
  have := Int.tmod_def x y
  rw [this, Int.mul_comm]
theorem z_rem64 {x y : Int} (hx : z_rJ x) (hy : z_rJ y) : Int64.ofInt (x.tmod y) = Int64.ofInt x - Int64.ofInt x / Int64.ofInt y * Int64.ofInt y := by
  rw [← z_div64 hx hy, z_of64, ← Int64.ofInt_mul, ← Int64.ofInt_sub]
  congr 1
  have := Int.tmod_def x y
  rw [this, Int.mul_comm]
theorem z_ot_i2d (f : Int → Int → Int) : z_Ot (z_i2d f) := by
  intro L st M
  rcases st with _ | ⟨y | y | q | u, _ | ⟨x | x | q | u, r⟩⟩ <;> first | exact Or.inl fun _ => rfl | skip
  by_cases h : y = 0
  · exact Or.inl fun _ => by simp [z_i2d, h]
  · exact Or.inr ⟨L, zI (f x y) :: r, M, fun _ => by simp [z_i2d, h]⟩
theorem z_ot_j2d (f : Int → Int → Int) : z_Ot (z_j2d f) := by
  intro L st M
  rcases st with _ | ⟨y | y | q | u, _ | ⟨x | x | q | u, r⟩⟩ <;> first | exact Or.inl fun _ => rfl | skip
  by_cases h : y = 0
  · exact Or.inl fun _ => by simp [z_j2d, h]
  · exact Or.inr ⟨L, zJ (f x y) :: r, M, fun _ => by simp [z_j2d, h]⟩
theorem z_so_i2d {f : Int → Int → Int} {F : Int32 → Int32 → Int32} (hf : ∀ x y, z_rI x → z_rI y → Int32.ofInt (f x y) = F (Int32.ofInt x) (Int32.ofInt y) ∧ z_rI (f x y)) (row : ∀ {H : Heap} {locs : List Loc} {ls : Array Slot} {rest : List Value} {x y : Int32}, ¬ y = 0 → x_W X H locs (F0 (x_m X) (pc + 1) ls (.int (F x y) :: rest)) → x_W X H locs (F0 (x_m X) pc ls (.int y :: .int x :: rest))) : z_So X pc (pc + 1) (z_i2d f) := by
  refine z_so_mk fun L st M => ?_
  rcases st with _ | ⟨y | y | q | u, _ | ⟨x | x | q | u, r⟩⟩ <;> first | exact Or.inl fun _ => rfl | skip
  by_cases h0 : y = 0
  · exact Or.inl fun _ => by simp [z_i2d, h0]
  refine Or.inr ⟨L, zI (f x y) :: r, M, fun _ => by simp [z_i2d, h0], fun hw H locs ls hR hl ho hs => ?_⟩
  have hy : z_rI y := hs _ List.mem_cons_self
  have hx : z_rI x := hs _ (List.mem_cons_of_mem _ List.mem_cons_self)
  refine row (fun q => h0 ((z_eq32 hy z_rI_0).mp q)) ?_
  rw [← (hf x y hx hy).1]
  exact hw H locs ls hR hl ho (fun v hv => by rcases List.mem_cons.mp hv with rfl | h; exact (hf x y hx hy).2; exact hs v (List.mem_cons_of_mem _ (List.mem_cons_of_mem _ h)))
theorem z_so_j2d {f : Int → Int → Int} {F : Int64 → Int64 → Int64} (hf : ∀ x y, z_rJ x → z_rJ y → Int64.ofInt (f x y) = F (Int64.ofInt x) (Int64.ofInt y) ∧ z_rJ (f x y)) (row : ∀ {H : Heap} {locs : List Loc} {ls : Array Slot} {rest : List Value} {x y : Int64}, ¬ y = 0 → x_W X H locs (F0 (x_m X) (pc + 1) ls (.long (F x y) :: rest)) → x_W X H locs (F0 (x_m X) pc ls (.long y :: .long x :: rest))) : z_So X pc (pc + 1) (z_j2d f) := by
  refine z_so_mk fun L st M => ?_
  rcases st with _ | ⟨y | y | q | u, _ | ⟨x | x | q | u, r⟩⟩ <;> first | exact Or.inl fun _ => rfl | skip
  by_cases h0 : y = 0
  · exact Or.inl fun _ => by simp [z_j2d, h0]
  refine Or.inr ⟨L, zJ (f x y) :: r, M, fun _ => by simp [z_j2d, h0], fun hw H locs ls hR hl ho hs => ?_⟩
  have hy : z_rJ y := hs _ List.mem_cons_self
  have hx : z_rJ x := hs _ (List.mem_cons_of_mem _ List.mem_cons_self)
  refine row (fun q => h0 ((z_eq64 hy ⟨by decide, by decide⟩).mp q)) ?_
  rw [← (hf x y hx hy).1]
  exact hw H locs ls hR hl ho (fun v hv => by rcases List.mem_cons.mp hv with rfl | h; exact (hf x y hx hy).2; exact hs v (List.mem_cons_of_mem _ (List.mem_cons_of_mem _ h)))
theorem z_so_idiv (hC : z_Cx X own cc nL ret kd) (hd : decode cc pc = .ok (.idiv, 1)) : z_So X pc (pc + 1) (z_i2d z_div) := z_so_i2d (fun x y hx hy => ⟨z_div32 hx hy, z_r32 _⟩) (fun h k => lv_idiv hC.1 hC.2.1 hd h k)
theorem z_so_irem (hC : z_Cx X own cc nL ret kd) (hd : decode cc pc = .ok (.irem, 1)) : z_So X pc (pc + 1) (z_i2d z_rem) := z_so_i2d (F := fun x y => x - x / y * y) (fun x y hx hy => ⟨z_rem32 hx hy, z_tmod_rI hx⟩) (fun h k => lv_irem hC.1 hC.2.1 hd h k)
theorem z_so_ldiv (hC : z_Cx X own cc nL ret kd) (hd : decode cc pc = .ok (.ldiv, 1)) : z_So X pc (pc + 1) (z_j2d z_ldiv) := z_so_j2d (fun x y hx hy => ⟨z_div64 hx hy, z_r64 _⟩) (fun h k => lv_ldiv hC.1 hC.2.1 hd h k)
theorem z_so_lrem (hC : z_Cx X own cc nL ret kd) (hd : decode cc pc = .ok (.lrem, 1)) : z_So X pc (pc + 1) (z_j2d z_lrem) := z_so_j2d (F := fun x y => x - x / y * y) (fun x y hx hy => ⟨z_rem64 hx hy, z_tmod_rJ hx⟩) (fun h k => lv_lrem hC.1 hC.2.1 hd h k)
theorem z_ot_j1 (f : Int → Int) : z_Ot (z_j1 f) := by
  intro L st M
  rcases st with _ | ⟨x | x | q | u, r⟩ <;> first | exact Or.inr ⟨_, _, _, fun _ => rfl⟩ | exact Or.inl fun _ => rfl
theorem z_so_lneg (hC : z_Cx X own cc nL ret kd) (hd : decode cc pc = .ok (.lneg, 1)) : z_So X pc (pc + 1) (z_j1 z_lneg) := by
  refine z_so_mk fun L st M => ?_
  rcases st with _ | ⟨x | x | q | u, r⟩ <;> first | exact Or.inl fun _ => rfl | skip
  refine Or.inr ⟨_, _, _, fun _ => rfl, fun hw H locs ls hR hl ho hs => ?_⟩
  refine lv_lneg hC.1 hC.2.1 hd ?_
  have e : Int64.ofInt (z_lneg x) = -Int64.ofInt x := by unfold z_lneg; rw [z_of64, Int64.ofInt_neg]
  rw [← e]
  exact hw H locs ls hR hl ho (fun v hv => by rcases List.mem_cons.mp hv with rfl | h; exact z_r64 _; exact hs v (List.mem_cons_of_mem _ h))
theorem z_ot_lcmp : z_Ot z_lcmp := by
  intro L st M
  rcases st with _ | ⟨x | x | q | u, _ | ⟨y | y | q | u, r⟩⟩ <;> first | exact Or.inr ⟨_, _, _, fun _ => rfl⟩ | exact Or.inl fun _ => rfl
theorem z_so_lcmp (hC : z_Cx X own cc nL ret kd) (hd : decode cc pc = .ok (.lcmp, 1)) : z_So X pc (pc + 1) z_lcmp := by
  refine z_so_mk fun L st M => ?_
  rcases st with _ | ⟨y | y | q | u, _ | ⟨x | x | q | u, r⟩⟩ <;> first | exact Or.inl fun _ => rfl | skip
  refine Or.inr ⟨_, _, _, fun _ => rfl, fun hw H locs ls hR hl ho hs => ?_⟩
  have hy : z_rJ y := hs _ List.mem_cons_self
  have hx : z_rJ x := hs _ (List.mem_cons_of_mem _ List.mem_cons_self)
  refine W.lcmp hC.1 hC.2.1 hd ?_
  have e : lg_cmp (Int64.ofInt x) (Int64.ofInt y) = Int32.ofInt (if x < y then -1 else if x = y then 0 else 1) := by
    unfold lg_cmp
    have h1 : Int64.ofInt x > Int64.ofInt y ↔ y < x := z_lt64 hy hx
    have h2 := z_eq64 hx hy
    by_cases a : y < x
    · have b : ¬ x = y := by omega
      have d : ¬ x < y := by omega
      rw [if_pos (h1.mpr a), if_neg d, if_neg b]; rfl
    · by_cases b : x = y
      · have d : ¬ x < y := by omega
        rw [if_neg (fun q => a (h1.mp q)), if_pos (h2.mpr b), if_neg d, if_pos b]; rfl
      · have d : x < y := by omega
        rw [if_neg (fun q => a (h1.mp q)), if_neg (fun q => b (h2.mp q)), if_pos d]; rfl
  rw [e]
  exact hw H locs ls hR hl ho (fun v hv => by
    rcases List.mem_cons.mp hv with rfl | h
    · show z_rI _
      unfold z_rI
      split
      · decide
      · split <;> decide
    · exact hs v (List.mem_cons_of_mem _ (List.mem_cons_of_mem _ h)))
theorem z_ot_i2l : z_Ot z_i2l := by
  intro L st M
  rcases st with _ | ⟨x | x | q | u, r⟩ <;> first | exact Or.inr ⟨_, _, _, fun _ => rfl⟩ | exact Or.inl fun _ => rfl
theorem z_ot_l2i : z_Ot z_l2i := by
  intro L st M
  rcases st with _ | ⟨x | x | q | u, r⟩ <;> first | exact Or.inr ⟨_, _, _, fun _ => rfl⟩ | exact Or.inl fun _ => rfl
theorem z_rIJ {x : Int} (h : z_rI x) : z_rJ x := ⟨by have := h.1; omega, by have := h.2; omega⟩
theorem z_so_i2l (hC : z_Cx X own cc nL ret kd) (hd : decode cc pc = .ok (.i2l, 1)) : z_So X pc (pc + 1) z_i2l := by
  refine z_so_mk fun L st M => ?_
  rcases st with _ | ⟨x | x | q | u, r⟩ <;> first | exact Or.inl fun _ => rfl | skip
  refine Or.inr ⟨_, _, _, fun _ => rfl, fun hw H locs ls hR hl ho hs => ?_⟩
  have hx : z_rI x := hs _ List.mem_cons_self
  refine lv_i2l (v := Int64.ofInt x) hC.1 hC.2.1 hd ?_ ?_
  · apply Int64.toInt_inj.mp
    rw [Int32.toInt_toInt64, z_ti hx, z_tj (z_rIJ hx)]
  · exact hw H locs ls hR hl ho (fun v hv => by rcases List.mem_cons.mp hv with rfl | h; exact z_rIJ hx; exact hs v (List.mem_cons_of_mem _ h))
theorem z_so_l2i (hC : z_Cx X own cc nL ret kd) (hd : decode cc pc = .ok (.l2i, 1)) : z_So X pc (pc + 1) z_l2i := by
  refine z_so_mk fun L st M => ?_
  rcases st with _ | ⟨x | x | q | u, r⟩ <;> first | exact Or.inl fun _ => rfl | skip
  refine Or.inr ⟨_, _, _, fun _ => rfl, fun hw H locs ls hR hl ho hs => ?_⟩
  have hx : z_rJ x := hs _ List.mem_cons_self
  refine lv_l2i (v := Int32.ofInt (z_w32 x)) hC.1 hC.2.1 hd ?_ ?_
  · rw [z_of32]
    apply Int32.toInt_inj.mp
    rw [Int64.toInt_toInt32, z_tj hx, Int32.toInt_ofInt]
  · exact hw H locs ls hR hl ho (fun v hv => by rcases List.mem_cons.mp hv with rfl | h; exact z_r32 _; exact hs v (List.mem_cons_of_mem _ h))
theorem z_ot_dup : z_Ot z_dup := by
  intro L st M
  rcases st with _ | ⟨x | x | q | u, r⟩ <;> first | exact Or.inr ⟨_, _, _, fun _ => rfl⟩ | exact Or.inl fun _ => rfl
theorem z_ot_dup2 : z_Ot z_dup2 := by
  intro L st M
  rcases st with _ | ⟨x | x | q | u, _ | ⟨y | y | q | u, r⟩⟩ <;> first | exact Or.inr ⟨_, _, _, fun _ => rfl⟩ | exact Or.inl fun _ => rfl
theorem z_ot_popI : z_Ot z_popI := by
  intro L st M
  rcases st with _ | ⟨x | x | q | u, r⟩ <;> first | exact Or.inr ⟨_, _, _, fun _ => rfl⟩ | exact Or.inl fun _ => rfl
theorem z_so_dup (hC : z_Cx X own cc nL ret kd) (hd : decode cc pc = .ok (.dup, 1)) : z_So X pc (pc + 1) z_dup := by
  refine z_so_mk fun L st M => ?_
  rcases st with _ | ⟨x | x | q | u, r⟩ <;> first | exact Or.inl fun _ => rfl | skip
  · refine Or.inr ⟨_, _, _, fun _ => rfl, fun hw H locs ls hR hl ho hs => lv_dup hC.1 hC.2.1 hd rfl (hw H locs ls hR hl ho (fun v hv => ?_))⟩
    rcases List.mem_cons.mp hv with rfl | h
    · exact hs _ List.mem_cons_self
    · exact hs v h
  · refine Or.inr ⟨_, _, _, fun _ => rfl, fun hw H locs ls hR hl ho hs => lv_dup hC.1 hC.2.1 hd rfl (hw H locs ls hR hl ho (fun v hv => ?_))⟩
    rcases List.mem_cons.mp hv with rfl | h
    · exact hs _ List.mem_cons_self
    · exact hs v h
theorem z_so_dup2 (hC : z_Cx X own cc nL ret kd) (hd : decode cc pc = .ok (.dup2, 1)) : z_So X pc (pc + 1) z_dup2 := by
  refine z_so_mk fun L st M => ?_
  rcases st with _ | ⟨x | x | q | u, _ | ⟨y | y | w | u, r⟩⟩ <;> first | exact Or.inl fun _ => rfl | skip
  · refine Or.inr ⟨_, _, _, fun _ => rfl, fun hw H locs ls hR hl ho hs => lv_dup2_11 hC.1 hC.2.1 hd rfl rfl (hw H locs ls hR hl ho (fun v hv => ?_))⟩
    rcases List.mem_cons.mp hv with rfl | h
    · exact hs _ List.mem_cons_self
    · rcases List.mem_cons.mp h with rfl | h
      · exact hs _ (List.mem_cons_of_mem _ List.mem_cons_self)
      · exact hs v h
  all_goals
    refine Or.inr ⟨_, _, _, fun _ => rfl, fun hw H locs ls hR hl ho hs => lv_dup2_2 hC.1 hC.2.1 hd rfl (hw H locs ls hR hl ho (fun v hv => ?_))⟩
    rcases List.mem_cons.mp hv with rfl | h
    · exact hs _ List.mem_cons_self
    · exact hs v h
/-! ends -/
theorem z_tl_if {c : Int → Prop} {dc : ∀ x, Decidable (c x)} {t f : zTm} (ht : z_Tl t) (hf : z_Tl f) : z_Tl (fun L st M g => match st with | .inl x :: r => @ite _ (c x) (dc x) (t L r M g) (f L r M g) | _ => none) := by
  intro L st M
  rcases st with _ | ⟨x | x | q | u, r⟩
  · exact Or.inl ⟨none, fun _ => rfl⟩
  · by_cases h : c x
    · rcases ht L r M with ⟨o, h2⟩ | ⟨l, L2, st2, M2, h2⟩
      · exact Or.inl ⟨o, fun g => by simp only [if_pos h]; exact h2 g⟩
      · exact Or.inr ⟨l, L2, st2, M2, fun g => by simp only [if_pos h]; exact h2 g⟩
    · rcases hf L r M with ⟨o, h2⟩ | ⟨l, L2, st2, M2, h2⟩
      · exact Or.inl ⟨o, fun g => by simp only [if_neg h]; exact h2 g⟩
      · exact Or.inr ⟨l, L2, st2, M2, fun g => by simp only [if_neg h]; exact h2 g⟩
  all_goals exact Or.inl ⟨none, fun _ => rfl⟩
theorem z_tl_if2 {c : Int → Int → Prop} {dc : ∀ x y, Decidable (c x y)} {t f : zTm} (ht : z_Tl t) (hf : z_Tl f) : z_Tl (fun L st M g => match st with | .inl y :: .inl x :: r => @ite _ (c x y) (dc x y) (t L r M g) (f L r M g) | _ => none) := by
  intro L st M
  rcases st with _ | ⟨y | y | q | u, _ | ⟨x | x | q | u, r⟩⟩ <;> first | exact Or.inl ⟨none, fun _ => rfl⟩ | skip
  by_cases h : c x y
  · rcases ht L r M with ⟨o, h2⟩ | ⟨l, L2, st2, M2, h2⟩
    · exact Or.inl ⟨o, fun g => by simp only [if_pos h]; exact h2 g⟩
    · exact Or.inr ⟨l, L2, st2, M2, fun g => by simp only [if_pos h]; exact h2 g⟩
  · rcases hf L r M with ⟨o, h2⟩ | ⟨l, L2, st2, M2, h2⟩
    · exact Or.inl ⟨o, fun g => by simp only [if_neg h]; exact h2 g⟩
    · exact Or.inr ⟨l, L2, st2, M2, fun g => by simp only [if_neg h]; exact h2 g⟩
theorem z_tl_ifeq {t f : zTm} (ht : z_Tl t) (hf : z_Tl f) : z_Tl (z_ifeq t f) := z_tl_if (c := fun x => x = 0) ht hf
theorem z_tl_iflt {t f : zTm} (ht : z_Tl t) (hf : z_Tl f) : z_Tl (z_iflt t f) := z_tl_if (c := fun x => x < 0) ht hf
theorem z_tl_ifle {t f : zTm} (ht : z_Tl t) (hf : z_Tl f) : z_Tl (z_ifle t f) := z_tl_if (c := fun x => x ≤ 0) ht hf
theorem z_tl_icmpeq {t f : zTm} (ht : z_Tl t) (hf : z_Tl f) : z_Tl (z_icmpeq t f) := z_tl_if2 (c := fun x y => x = y) ht hf
theorem z_tl_icmplt {t f : zTm} (ht : z_Tl t) (hf : z_Tl f) : z_Tl (z_icmplt t f) := z_tl_if2 (c := fun x y => x < y) ht hf
theorem z_tl_icmple {t f : zTm} (ht : z_Tl t) (hf : z_Tl f) : z_Tl (z_icmple t f) := z_tl_if2 (c := fun x y => x ≤ y) ht hf
/-- a branch goes on as one of two blocks does -/
theorem z_st_sub {pc pt : Nat} {t : zTm} {L st r : List zV} {M : zM} {T : zTm} (hg : ∀ g, T L st M g = t L r M g) (ht : z_St X P pt t) (hw : z_Wn X pt L r M → z_Wn X pc L st M) :
    (∀ q, (∀ g, T L st M g = some (.inl q)) → x_po X q → z_Wn X pc L st M) ∧
    (∀ n L' st' M', (∀ g, T L st M g = some (.inr (n, L', st', M'))) → z_Wn X (P n) L' st' M' → z_Wn X pc L st M) ∧
    (∀ n L' st' M', (∀ g, T L st M g = g n L' st' M') → z_Wn X (P n) L' st' M' → z_Wn X pc L st M) := by
  obtain ⟨h1, h2, h3⟩ := ht L r M
  exact ⟨fun q hq hp => hw (h1 q (fun g => (hg g).symm.trans (hq g)) hp), fun n L' st' M' hq hp => hw (h2 n L' st' M' (fun g => (hg g).symm.trans (hq g)) hp), fun n L' st' M' hq hp => hw (h3 n L' st' M' (fun g => (hg g).symm.trans (hq g)) hp)⟩
theorem z_st_none {pc : Nat} {L st : List zV} {M : zM} {T : zTm} (hg : ∀ g, T L st M g = none) :
    (∀ q, (∀ g, T L st M g = some (.inl q)) → x_po X q → z_Wn X pc L st M) ∧
    (∀ n L' st' M', (∀ g, T L st M g = some (.inr (n, L', st', M'))) → z_Wn X (P n) L' st' M' → z_Wn X pc L st M) ∧
    (∀ n L' st' M', (∀ g, T L st M g = g n L' st' M') → z_Wn X (P n) L' st' M' → z_Wn X pc L st M) := by
  refine ⟨fun q hq => ?_, fun n L' st' M' hq => ?_, fun n L' st' M' hq => ?_⟩
  · have := (hg z_g0).symm.trans (hq z_g0); cases this
  · have := (hg z_g0).symm.trans (hq z_g0); cases this
  · have := (hg z_g0).symm.trans (hq z_g0); cases this
def z_ifp (c : Int → Prop) (dc : ∀ x, Decidable (c x)) (t f : zTm) : zTm := fun L st M g => match st with
  | .inl x :: r => @ite _ (c x) (dc x) (t L r M g) (f L r M g)
  | _ => none
def z_ifq (c : Int → Int → Prop) (dc : ∀ x y, Decidable (c x y)) (t f : zTm) : zTm := fun L st M g => match st with
  | .inl y :: .inl x :: r => @ite _ (c x y) (dc x y) (t L r M g) (f L r M g)
  | _ => none
theorem z_st_if {c : Int → Prop} {dc : ∀ x, Decidable (c x)} {pt pf : Nat} {t f : zTm} {C : Int32 → Prop} (hc : ∀ x, z_rI x → (C (Int32.ofInt x) ↔ c x)) (ht : z_St X P pt t) (hf : z_St X P pf f)
    (row : ∀ {H : Heap} {locs : List Loc} {ls : Array Slot} {rest : List Value} {x : Int32}, (C x → x_W X H locs (F0 (x_m X) pt ls rest)) → (¬ C x → x_W X H locs (F0 (x_m X) pf ls rest)) → x_W X H locs (F0 (x_m X) pc ls (.int x :: rest))) : z_St X P pc (z_ifp c dc t f) := by
  intro L st M
  rcases st with _ | ⟨v | v | v | v, r⟩
  · exact z_st_none (T := z_ifp c dc t f) (fun _ => rfl)
  · by_cases h : c v
    · refine z_st_sub (T := z_ifp c dc t f) (t := t) (pt := pt) (r := r) (fun g => by simp only [z_ifp, if_pos h]) ht (fun hw H locs ls hR hl ho hs => ?_)
      have hx : z_rI v := hs _ List.mem_cons_self
      exact row (fun _ => hw H locs ls hR hl ho (fun w hv => hs w (List.mem_cons_of_mem _ hv))) (fun q => absurd ((hc v hx).mpr h) q)
    · refine z_st_sub (T := z_ifp c dc t f) (t := f) (pt := pf) (r := r) (fun g => by simp only [z_ifp, if_neg h]) hf (fun hw H locs ls hR hl ho hs => ?_)
      have hx : z_rI v := hs _ List.mem_cons_self
      exact row (fun q => absurd ((hc v hx).mp q) h) (fun _ => hw H locs ls hR hl ho (fun w hv => hs w (List.mem_cons_of_mem _ hv)))
  all_goals exact z_st_none (T := z_ifp c dc t f) (fun _ => rfl)
theorem z_st_if2 {c : Int → Int → Prop} {dc : ∀ x y, Decidable (c x y)} {pt pf : Nat} {t f : zTm} {C : Int32 → Int32 → Prop} (hc : ∀ x y, z_rI x → z_rI y → (C (Int32.ofInt x) (Int32.ofInt y) ↔ c x y)) (ht : z_St X P pt t) (hf : z_St X P pf f)
    (row : ∀ {H : Heap} {locs : List Loc} {ls : Array Slot} {rest : List Value} {x y : Int32}, (C x y → x_W X H locs (F0 (x_m X) pt ls rest)) → (¬ C x y → x_W X H locs (F0 (x_m X) pf ls rest)) → x_W X H locs (F0 (x_m X) pc ls (.int y :: .int x :: rest))) : z_St X P pc (z_ifq c dc t f) := by
  intro L st M
  rcases st with _ | ⟨w | w | w | w, _ | ⟨v | v | v | v, r⟩⟩
  case cons.inl.cons.inl =>
    by_cases h : c v w
    · refine z_st_sub (T := z_ifq c dc t f) (t := t) (pt := pt) (r := r) (fun g => by simp only [z_ifq, if_pos h]) ht (fun hw H locs ls hR hl ho hs => ?_)
      have hy : z_rI w := hs _ List.mem_cons_self
      have hx : z_rI v := hs _ (List.mem_cons_of_mem _ List.mem_cons_self)
      exact row (fun _ => hw H locs ls hR hl ho (fun u hv => hs u (List.mem_cons_of_mem _ (List.mem_cons_of_mem _ hv)))) (fun q => absurd ((hc v w hx hy).mpr h) q)
    · refine z_st_sub (T := z_ifq c dc t f) (t := f) (pt := pf) (r := r) (fun g => by simp only [z_ifq, if_neg h]) hf (fun hw H locs ls hR hl ho hs => ?_)
      have hy : z_rI w := hs _ List.mem_cons_self
      have hx : z_rI v := hs _ (List.mem_cons_of_mem _ List.mem_cons_self)
      exact row (fun q => absurd ((hc v w hx hy).mp q) h) (fun _ => hw H locs ls hR hl ho (fun u hv => hs u (List.mem_cons_of_mem _ (List.mem_cons_of_mem _ hv))))
  all_goals exact z_st_none (T := z_ifq c dc t f) (fun _ => rfl)
/-! the twelve branches: 't' is where it jumps -/
theorem z_st_ifeq (hC : z_Cx X own cc nL ret kd) {off : Int} {tgt : Nat} {t f : zTm} (hd : decode cc pc = .ok (.ifCond .eq off, 3)) (ht : (pc : Int) + off = (tgt : Int)) (h1 : z_St X P tgt t) (h2 : z_St X P (pc + 3) f) : z_St X P pc (z_ifeq t f) := z_st_if (c := fun v => v = 0) (C := fun v => v = 0) (fun v hv => z_eq32 hv z_rI_0) h1 h2 (fun a b => lv_if_eq hC.1 hC.2.1 hd ht a b)
theorem z_st_ifne (hC : z_Cx X own cc nL ret kd) {off : Int} {tgt : Nat} {t f : zTm} (hd : decode cc pc = .ok (.ifCond .ne off, 3)) (ht : (pc : Int) + off = (tgt : Int)) (h1 : z_St X P tgt t) (h2 : z_St X P (pc + 3) f) : z_St X P pc (z_ifeq f t) := z_st_if (c := fun v => v = 0) (C := fun v => v = 0) (fun v hv => z_eq32 hv z_rI_0) h2 h1 (fun a b => lv_if_ne hC.1 hC.2.1 hd ht b a)
theorem z_st_iflt (hC : z_Cx X own cc nL ret kd) {off : Int} {tgt : Nat} {t f : zTm} (hd : decode cc pc = .ok (.ifCond .lt off, 3)) (ht : (pc : Int) + off = (tgt : Int)) (h1 : z_St X P tgt t) (h2 : z_St X P (pc + 3) f) : z_St X P pc (z_iflt t f) := z_st_if (c := fun v => v < 0) (C := fun v => v < 0) (fun v hv => z_lt32 hv z_rI_0) h1 h2 (fun a b => lv_if_lt hC.1 hC.2.1 hd ht a b)
theorem z_st_ifle (hC : z_Cx X own cc nL ret kd) {off : Int} {tgt : Nat} {t f : zTm} (hd : decode cc pc = .ok (.ifCond .le off, 3)) (ht : (pc : Int) + off = (tgt : Int)) (h1 : z_St X P tgt t) (h2 : z_St X P (pc + 3) f) : z_St X P pc (z_ifle t f) := z_st_if (c := fun v => v ≤ 0) (C := fun v => v ≤ 0) (fun v hv => z_le32 hv z_rI_0) h1 h2 (fun a b => lv_if_le hC.1 hC.2.1 hd ht a b)
theorem z_nlt32 (v w : Int32) : ¬ v < w ↔ w ≤ v := by rw [Int32.lt_iff_toInt_lt, Int32.le_iff_toInt_le]; omega
theorem z_nle32 (v w : Int32) : ¬ v ≤ w ↔ w < v := by rw [Int32.lt_iff_toInt_lt, Int32.le_iff_toInt_le]; omega
end
