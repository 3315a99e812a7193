/-! ===== bits of numbers ===== -/
theorem of_nat (n : Nat) : Int32.ofInt (n : Int) = nI n := Int32.toBitVec_inj.mp (BitVec.ofInt_natCast 32 n)
theorem nI_ti {n : Nat} (h : n < 2147483648) : (nI n).toInt = n := by
  show (BitVec.ofNat 32 n).toInt = n
  rw [BitVec.toInt_eq_toNat_cond, BitVec.toNat_ofNat, Nat.mod_eq_of_lt (by omega)]
  split <;> omega
theorem or_nat {a b : Nat} (ha : a < 2147483648) (hb : b < 2147483648) : z_or a b = ((a ||| b : Nat) : Int) := by
  unfold z_or
  have e : nI a ||| nI b = nI (a ||| b) := by
    refine Int32.toBitVec_inj.mp (BitVec.eq_of_toNat_eq ?_)
    rw [Int32.toBitVec_or, BitVec.toNat_or]
    show (BitVec.ofNat 32 a).toNat ||| (BitVec.ofNat 32 b).toNat = (BitVec.ofNat 32 (a ||| b)).toNat
    rw [BitVec.toNat_ofNat, BitVec.toNat_ofNat, BitVec.toNat_ofNat, Nat.mod_eq_of_lt (by omega), Nat.mod_eq_of_lt (by omega), Nat.mod_eq_of_lt (Nat.or_lt_two_pow (n := 32) (by omega) (by omega))]
  rw [of_nat, of_nat, e, nI_ti (Nat.or_lt_two_pow (n := 31) ha hb)]
theorem or_add {m : Nat} {a b : Nat} (hb : b < 2 ^ m) (h : 2 ^ m * a + b < 2147483648) : z_or ((2 ^ m * a : Nat) : Int) b = ((2 ^ m * a + b : Nat) : Int) := by
  rw [or_nat (by omega) (by omega), Nat.two_pow_add_eq_or_of_lt hb]
theorem shl_5 {a : Nat} (h : a < 33554432) : z_shl a 5 = ((2 ^ 5 * a : Nat) : Int) := by
  unfold z_shl
  rw [of_nat, pk_shlN (n := a) (Int32.ofInt 5 &&& 31) 5 (by decide) (by omega), nI_ti (by omega)]
  omega
theorem and_31 (y : Int) : z_and y 2147483647 = y % 2147483648 := by
  unfold z_and
  have e : (Int32.ofInt y &&& Int32.ofInt 2147483647).toBitVec.toNat = (y % 4294967296).toNat % 2147483648 := by
    rw [Int32.toBitVec_and, BitVec.toNat_and]
    have e1 : (Int32.ofInt y).toBitVec.toNat = (y % 4294967296).toNat := by
      show (BitVec.ofInt 32 y).toNat = _
      rw [BitVec.toNat_ofInt]
      rfl
    have e2 : (Int32.ofInt 2147483647).toBitVec.toNat = 2 ^ 31 - 1 := by decide
    rw [e1, e2, Nat.and_two_pow_sub_one_eq_mod]
  show (Int32.ofInt y &&& Int32.ofInt 2147483647).toBitVec.toInt = _
  rw [BitVec.toInt_eq_toNat_cond, e]
  split <;> omega
theorem land_31 {y : Int} (h0 : 0 ≤ y) (h1 : y < 9223372036854775808) : z_land y 2147483647 = y % 2147483648 := by
  unfold z_land
  have e : (Int64.ofInt y &&& Int64.ofInt 2147483647).toBitVec.toNat = (y % 18446744073709551616).toNat % 2147483648 := by
    rw [Int64.toBitVec_and, BitVec.toNat_and]
    have e1 : (Int64.ofInt y).toBitVec.toNat = (y % 18446744073709551616).toNat := by
      show (BitVec.ofInt 64 y).toNat = _
      rw [BitVec.toNat_ofInt]
      rfl
    have e2 : (Int64.ofInt 2147483647).toBitVec.toNat = 2 ^ 31 - 1 := by decide
    rw [e1, e2, Nat.and_two_pow_sub_one_eq_mod]
  show (Int64.ofInt y &&& Int64.ofInt 2147483647).toBitVec.toInt = _
  rw [BitVec.toInt_eq_toNat_cond, e]
  split <;> omega
/-! the numbers of DRAWS -/
def nx (s : Int) : Int := (s * 1103515245 + 12345) % 2147483648
def dr (s b : Int) : Int := s / 65536 % b
theorem nx_rng (s : Int) : 0 ≤ nx s ∧ nx s < 2147483648 := by unfold nx; omega
theorem nx_i {s : Int} : z_and (z_add (z_mul s 1103515245) 12345) 2147483647 = nx s := by
  rw [and_31]
  unfold z_add z_mul z_w32 nx
  omega
theorem nx_l {s : Int} (h0 : 0 ≤ s) (h1 : s < 2147483648) : z_land (z_ladd (z_lmul s 1103515245) 12345) 2147483647 = nx s := by
  have e1 : z_lmul s 1103515245 = s * 1103515245 := z_w64_id (by omega) (by omega)
  have e2 : z_ladd (s * 1103515245) 12345 = s * 1103515245 + 12345 := z_w64_id (by omega) (by omega)
  rw [e1, e2, land_31 (by omega) (by omega)]
  rfl
theorem dr_rng {s b : Int} (hb : 0 < b) : 0 ≤ dr s b ∧ dr s b < b := ⟨Int.emod_nonneg _ (by omega), Int.emod_lt_of_pos _ hb⟩
theorem dr_i {s b : Int} (h0 : 0 ≤ s) (h1 : s < 2147483648) (hb : 0 < b) : z_rem (z_div s 65536) b = dr s b := by
  unfold z_rem z_div dr
  rw [Int.tdiv_eq_ediv_of_nonneg h0, z_w32_id (by omega) (by omega), Int.tmod_eq_emod_of_nonneg (by omega)]
theorem dr_l {s b : Int} (h0 : 0 ≤ s) (h1 : s < 2147483648) (hb : 0 < b) (hb1 : b < 1000) : z_w32 (z_lrem (z_ldiv s 65536) b) = dr s b := by
  have hd := dr_rng (s := s) hb
  unfold z_lrem z_ldiv
  rw [Int.tdiv_eq_ediv_of_nonneg h0, z_w64_id (by omega) (by omega), Int.tmod_eq_emod_of_nonneg (by omega)]
  exact z_w32_id (by unfold dr at hd; omega) (by unfold dr at hd; omega)
section
variable {M V : zM} {c : Int}
theorem e_X1_drawBelow {s b : Int} (h : M 79 2 = s) (h0 : 0 ≤ s) (h1 : s < 2147483648) (hb : 0 < b) : zm_X1_drawBelow zLa [zA 1 79, zI b] M = some ([zI (dr (nx s) b)], z_wr M 79 2 (nx s)) := by
  have hr := nx_rng s
  rw [zr_X1_drawBelow]
  refine z_out_some ?_
  rw [zb_X1_drawBelow_0, h, nx_i, z_lt_eq, if_neg (by omega), if_neg (by decide), if_neg (by omega), z_wr_eq, dr_i hr.1 hr.2 hb]
theorem e_X12_drawn {s b : Int} (h : M 84 65 = s) (h0 : 0 ≤ s) (h1 : s < 2147483648) (hb : 0 < b) (hb1 : b < 1000) : zm_X12_drawn zLa [zA 12 84, zI b] M = some ([zI (dr (nx s) b)], z_wr M 84 65 (nx s)) := by
  have hr := nx_rng s
  rw [zr_X12_drawn]
  refine z_out_some ?_
  rw [zb_X12_drawn_0, h, nx_l h0 h1, z_lt_eq, if_neg (by decide), if_neg (by omega), z_wr_eq, dr_l hr.1 hr.2 hb hb1]
end
