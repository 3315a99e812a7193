section
/-! ===== the start: classes, the String constant ===== -/
theorem st_K {s : State} {args : Array Value} (hts : ∀ w ∈ z_tbl, w.before args s = true) : ∃ D : va_G, va_K D vwCl [] s := by
  obtain ⟨c0, i0, h0⟩ := u_known (C := RX0) (T := TX0) (N := 13) (n := 13) hts z_inX0 (hts _ (z_in (i := 319) (by decide +kernel) rfl))
  obtain ⟨c1, i1, h1⟩ := u_known (C := RX1) (T := TX1) (N := 7) (n := 7) hts z_inX1 (hts _ (z_in (i := 656) (by decide +kernel) rfl))
  obtain ⟨c2, i2, h2⟩ := u_known (C := RX2) (T := TX2) (N := 2) (n := 2) hts z_inX2 (hts _ (z_in (i := 503) (by decide +kernel) rfl))
  obtain ⟨c3, i3, h3⟩ := u_known (C := RX3) (T := TX3) (N := 7) (n := 7) hts z_inX3 (hts _ (z_in (i := 411) (by decide +kernel) rfl))
  obtain ⟨c4, i4, h4⟩ := u_known (C := RX4) (T := TX4) (N := 2) (n := 2) hts z_inX4 (hts _ (z_in (i := 642) (by decide +kernel) rfl))
  obtain ⟨c5, i5, h5⟩ := u_known (C := RX5) (T := TX5) (N := 3) (n := 3) hts z_inX5 (hts _ (z_in (i := 624) (by decide +kernel) rfl))
  obtain ⟨c6, i6, h6⟩ := u_known (C := RX6) (T := TX6) (N := 6) (n := 6) hts z_inX6 (hts _ (z_in (i := 465) (by decide +kernel) rfl))
  obtain ⟨c7, i7, h7⟩ := u_known (C := RX7) (T := TX7) (N := 10) (n := 10) hts z_inX7 (hts _ (z_in (i := 209) (by decide +kernel) rfl))
  obtain ⟨c8, i8, h8⟩ := u_known (C := RX8) (T := TX8) (N := 6) (n := 6) hts z_inX8 (hts _ (z_in (i := 369) (by decide +kernel) rfl))
  obtain ⟨c9, i9, h9⟩ := u_known (C := RX9) (T := TX9) (N := 6) (n := 6) hts z_inX9 (hts _ (z_in (i := 325) (by decide +kernel) rfl))
  obtain ⟨c10, i10, h10⟩ := u_known (C := RX10) (T := TX10) (N := 13) (n := 13) hts z_inX10 (hts _ (z_in (i := 215) (by decide +kernel) rfl))
  obtain ⟨c11, i11, h11⟩ := u_known (C := RX11) (T := TX11) (N := 8) (n := 8) hts z_inX11 (hts _ (z_in (i := 201) (by decide +kernel) rfl))
  obtain ⟨c12, i12, h12⟩ := u_known (C := RX12) (T := TX12) (N := 66) (n := 66) hts z_inX12 (hts _ (z_in (i := 1409) (by decide +kernel) rfl))
  refine ⟨(fun k => match k with | 0 => c0 | 1 => c1 | 2 => c2 | 3 => c3 | 4 => c4 | 5 => c5 | 6 => c6 | 7 => c7 | 8 => c8 | 9 => c9 | 10 => c10 | 11 => c11 | _ => c12, fun k => match k with | 0 => i0 | 1 => i1 | 2 => i2 | 3 => i3 | 4 => i4 | 5 => i5 | 6 => i6 | 7 => i7 | 8 => i8 | 9 => i9 | 10 => i10 | 11 => i11 | _ => i12), ?_, fun k q h => by simp at h⟩
  intro k q hq
  match k, hq with
  | 0, hq => cases hq; exact h0
  | 1, hq => cases hq; exact h1
  | 2, hq => cases hq; exact h2
  | 3, hq => cases hq; exact h3
  | 4, hq => cases hq; exact h4
  | 5, hq => cases hq; exact h5
  | 6, hq => cases hq; exact h6
  | 7, hq => cases hq; exact h7
  | 8, hq => cases hq; exact h8
  | 9, hq => cases hq; exact h9
  | 10, hq => cases hq; exact h10
  | 11, hq => cases hq; exact h11
  | 12, hq => cases hq; exact h12
  | k + 13, hq => simp [vwCl] at hq
abbrev stF : List Cond := flatC (Jvm.Cond.and given_1 narrow_1)
abbrev stT : Term := Term.string RX10 52
abbrev stV : Term := Term.field stT "java/lang/String" "value" "[B"
theorem st_in {s : State} {args : Array Value} (h : (Jvm.Cond.and given_1 narrow_1).before args s = true) {w : Cond} {i : Nat} (hi : stF[i]? = some w) : w.before args s = true := flat_of_before _ h w (List.mem_of_getElem? hi)
theorem st_el : ∀ j : Nat, j < sgN → stF[43 + j]? = some (Cond.eq (.elem stV (.int (Int32.ofNat j))) (.int (sgB.getD j 0))) := by decide +kernel
theorem st_E {s : State} {args : Array Value} (h : (Jvm.Cond.and given_1 narrow_1).before args s = true) (ht : ∀ w ∈ lw_tbl, w.before args s = true) : ∃ g : sgG, sg_E g (fun q => s.heap.size ≤ q) s s.heap := by
  have hA : ∀ a : Nat, a < s.heap.size → ¬ (fun q => s.heap.size ≤ q) a := fun a h => Nat.not_le.mpr h
  obtain ⟨adK, adV, hS, hT⟩ := vk_Sof (args := args) (s := s) (N := 1) (tm := fun _ => stT) (len := [sgN]) (byt := [sgB]) (A := fun q => s.heap.size ≤ q) (fun i hi => by rw [show i = 0 by omega]; decide) (fun i _ => st_in h (i := 39) (by decide +kernel)) (fun i _ => st_in h (i := 40) (by decide +kernel)) (fun i _ => st_in h (i := 41) (by decide +kernel)) (fun i hi => by rw [show i = 0 by omega]; exact st_in h (i := 42) (by decide +kernel)) (fun i hi j hj => by
    have e : i = 0 := by omega
    subst e
    exact st_in h (st_el j hj)) (fun i j hi hj hij => by omega) hA
  have h1 : (Cond.stringRef RX10 52 sgL).before args s = true := ht _ (List.mem_of_getElem? (i := 220) (by decide +kernel))
  have hz : va_Z RJ0 "COMPACT_STRINGS" "Z" (.int 1) (fun q => s.heap.size ≤ q) s s.heap := va_Zof (args := args) (ht _ (List.mem_of_getElem? (i := 230) (by decide +kernel))) (ht _ (List.mem_of_getElem? (i := 179) (by decide +kernel))) (va_eqi (st_in h (i := 4) (by decide +kernel))) hA
  have hf : (Cond.isRef (.static RJ3 "SIOOBE_FORMATTER" "Ljava/util/function/BiFunction;")).before args s = true := st_in h (i := 5) (by decide +kernel)
  have hv : ∃ o : Option Nat, (Term.static RJ3 "SIOOBE_FORMATTER" "Ljava/util/function/BiFunction;").eval args s none [] s = some (va_rf o) := by
    cases hv : (Term.static RJ3 "SIOOBE_FORMATTER" "Ljava/util/function/BiFunction;").eval args s none [] s with
    | none => simp [Cond.before, Cond.holds, Cond.value, hv] at hf
    | some w =>
      cases w with
      | ref a => exact ⟨some a, rfl⟩
      | null => exact ⟨none, rfl⟩
      | _ => simp [Cond.before, Cond.holds, Cond.value, hv] at hf
  obtain ⟨o, ho⟩ := hv
  exact ⟨(adK, adV, o), hS, vk_R.of h1 (hT 0 (by decide)), hz, va_Zof (args := args) (ht _ (List.mem_of_getElem? (i := 246) (by decide +kernel))) (ht _ (List.mem_of_getElem? (i := 181) (by decide +kernel))) ho hA⟩
end
