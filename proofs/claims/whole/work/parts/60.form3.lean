/-! ===== formulas: the reference works them out ===== -/
/-- only the flag of errors may differ -/
abbrev f64 (m m' : zM) : Prop := ∀ a k, (a ≠ 84 ∨ k ≠ 64) → m' a k = m a k
theorem f64.rf (m : zM) : f64 m m := fun _ _ _ => rfl
theorem f64.wr (m : zM) (v : Int) : f64 m (z_wr m 84 64 v) := fun a k h => z_wr_ne (by omega)
theorem f64.sm {m m' : zM} (h : f64 m m') : Sm m m' := fun a k q => h a k (by
  refine Classical.byContradiction (fun r => q ?_)
  have : a = 84 ∧ k = 64 := by omega
  obtain ⟨rfl, rfl⟩ := this
  decide)
theorem f64.sq {m m' : zM} (h : f64 m m') : Sq m m' := fun a k q => h a k (by unfold Scq at q; omega)
/-- a value and the flag behind it, by what ought to come and the flag ahead -/
abbrev rS (o : Option Int) (g v g' : Int) : Prop := (g = 0 ∧ ((∃ x, o = some x ∧ v = x ∧ g' = 0) ∨ (o = none ∧ g' = 1))) ∨ (g = 1 ∧ g' = 1)
abbrev g01 (m : zM) : Prop := m 84 64 = 0 ∨ m 84 64 = 1
section
variable {m : zM}
theorem e_X12_bounded (hg : g01 m) (x : Int) : ∃ v m', zm_X12_bounded zLa [zA 12 84, zJ x] m = some ([zJ v], m') ∧ f64 m m' ∧ inM v ∧ rS (bnd x) (m 84 64) v (m' 84 64) := by
  have i0 : inM 0 := ⟨by decide, by decide⟩
  rw [zr_X12_bounded, zb_X12_bounded_0]
  simp only [cmp3, z_lt_eq, z_wr_eq]
  rcases hg with hg | hg
  · rw [if_pos hg]
    by_cases q1 : x ≤ 1000000000000
    · rw [if_pos q1]
      by_cases q2 : x < -1000000000000
      · rw [if_pos q2, if_neg (by decide)]
        exact ⟨0, _, rfl, f64.wr m 1, i0, Or.inl ⟨hg, Or.inr ⟨by unfold bnd; rw [if_pos q1, if_pos q2], z_wr_eq _ _ _ _⟩⟩⟩
      · rw [if_neg q2, if_pos trivial]
        exact ⟨x, _, rfl, f64.wr m 0, ⟨by omega, by omega⟩, Or.inl ⟨hg, Or.inl ⟨x, by unfold bnd; rw [if_pos q1, if_neg q2], rfl, z_wr_eq _ _ _ _⟩⟩⟩
    · rw [if_neg q1, if_neg (by decide)]
      exact ⟨0, _, rfl, f64.wr m 1, i0, Or.inl ⟨hg, Or.inr ⟨by unfold bnd; rw [if_neg q1], z_wr_eq _ _ _ _⟩⟩⟩
  · rw [if_neg (by omega), if_neg (by decide)]
    exact ⟨0, _, rfl, f64.wr m 1, i0, Or.inr ⟨hg, z_wr_eq _ _ _ _⟩⟩
theorem lneg_eq {x : Int} (h : inM x) : z_lneg x = -x := by unfold z_lneg; rw [z_w64_id (by omega) (by omega)]
theorem t2 (hg : g01 m) {a b : Int} (w2 w4 w5 : zV) (y : Int) (hy : y = 0 ∨ y = 1) (hm : y = 0 → inM (a * b)) : ∃ v m', z_ev (zcd_X12_times zLa) 2 [zA 12 84, zJ a, w2, zJ b, w4, w5] [zI y] m = some (.inl ([zJ v], m')) ∧ f64 m m' ∧ inM v ∧ rS (if y = 0 then some (a * b) else none) (m 84 64) v (m' 84 64) := by
  have i0 : inM 0 := ⟨by decide, by decide⟩
  rw [zb_X12_times_2]
  simp only [z_lt_eq, z_wr_eq]
  rcases hg with hg | hg
  · rw [if_pos hg]
    rcases hy with rfl | rfl
    · rw [if_pos rfl, if_pos rfl, if_pos trivial]
      unfold z_lmul
      rw [z_w64_in (hm rfl)]
      exact ⟨a * b, _, rfl, f64.wr m 0, hm rfl, Or.inl ⟨hg, Or.inl ⟨a * b, rfl, rfl, z_wr_eq _ _ _ _⟩⟩⟩
    · rw [if_neg (by decide), if_neg (by decide), if_neg (by decide)]
      exact ⟨0, _, rfl, f64.wr m 1, i0, Or.inl ⟨hg, Or.inr ⟨rfl, z_wr_eq _ _ _ _⟩⟩⟩
  · rw [if_neg (by omega), if_neg (by decide)]
    exact ⟨0, _, rfl, f64.wr m 1, i0, Or.inr ⟨hg, z_wr_eq _ _ _ _⟩⟩
theorem op_times {a b : Int} : op2 1015 a b = (if a = 0 then some 0 else if b = 0 then some 0 else if zab b ≤ 1000000000000 / zab a then some (a * b) else none) := rfl
theorem t1 (hg : g01 m) {a b : Int} (ha : inM a) (a0 : a ≠ 0) (b0 : b ≠ 0) (w2 w4 w5 : zV) : ∃ v m', z_ev (zcd_X12_times zLa) 1 [zA 12 84, zJ a, w2, zJ b, w4, w5] [zJ (zab b)] m = some (.inl ([zJ v], m')) ∧ f64 m m' ∧ inM v ∧ rS (op2 1015 a b) (m 84 64) v (m' 84 64) := by
  have hp := zab_pos a0
  have eo : op2 1015 a b = (if zab b ≤ 1000000000000 / zab a then some (a * b) else none) := by rw [op_times, if_neg a0, if_neg b0]
  rw [zb_X12_times_1, eo, lneg_eq ha]
  simp only [cmp3]
  have fin : ∀ (z : Int), z = zab a → ∃ v m', (if zab b ≤ z_ldiv 1000000000000 z then z_ev (zcd_X12_times zLa) 2 [zA 12 84, zJ a, w2, zJ b, w4, w5] [zI 0] m else z_ev (zcd_X12_times zLa) 2 [zA 12 84, zJ a, w2, zJ b, w4, w5] [zI 1] m) = some (.inl ([zJ v], m')) ∧ f64 m m' ∧ inM v ∧ rS (if zab b ≤ 1000000000000 / zab a then some (a * b) else none) (m 84 64) v (m' 84 64) := by
    intro z hz
    subst hz
    rw [ldiv_m hp]
    by_cases q : zab b ≤ 1000000000000 / zab a
    · rw [if_pos q, if_pos q]
      obtain ⟨v, m', e, h1, h2, h3⟩ := t2 hg (a := a) (b := b) w2 w4 w5 0 (Or.inl rfl) (fun _ => mul_in a0 q)
      exact ⟨v, m', e, h1, h2, h3⟩
    · rw [if_neg q, if_neg q]
      obtain ⟨v, m', e, h1, h2, h3⟩ := t2 hg (a := a) (b := b) w2 w4 w5 1 (Or.inr rfl) (fun r => absurd r (by decide))
      exact ⟨v, m', e, h1, h2, h3⟩
  by_cases q : a < 0
  · rw [if_pos q, if_neg (by omega)]
    exact fin (-a) (by unfold zab; rw [if_pos q])
  · rw [if_neg q, if_neg a0]
    exact fin a (by unfold zab; rw [if_neg q])
theorem e_X12_times (hg : g01 m) {a b : Int} (ha : inM a) (hb : inM b) : ∃ v m', zm_X12_times zLa [zA 12 84, zJ a, zJ b] m = some ([zJ v], m') ∧ f64 m m' ∧ inM v ∧ rS (op2 1015 a b) (m 84 64) v (m' 84 64) := by
  rw [zr_X12_times, zb_X12_times_0]
  simp only [cmp3]
  have i0 : inM (0 : Int) := ⟨by decide, by decide⟩
  by_cases q1 : a = 0
  · obtain ⟨v, m', e, h1, h2, h3⟩ := t2 hg (a := a) (b := b) zU zU zU 0 (Or.inl rfl) (fun _ => by rw [q1, Int.zero_mul]; exact i0)
    rw [if_pos q1, e, op_times, if_pos q1]
    refine ⟨v, m', rfl, h1, h2, ?_⟩
    rwa [if_pos rfl, q1, Int.zero_mul] at h3
  rw [if_neg q1]
  by_cases q2 : b = 0
  · obtain ⟨v, m', e, h1, h2, h3⟩ := t2 hg (a := a) (b := b) zU zU zU 0 (Or.inl rfl) (fun _ => by rw [q2, Int.mul_zero]; exact i0)
    rw [if_pos q2, e, op_times, if_neg q1, if_pos q2]
    refine ⟨v, m', rfl, h1, h2, ?_⟩
    rwa [if_pos rfl, q2, Int.mul_zero] at h3
  rw [if_neg q2]
  obtain ⟨v, m', e, h1, h2, h3⟩ := t1 hg (a := a) (b := b) ha q1 q2 zU zU zU
  refine ⟨v, m', ?_, h1, h2, h3⟩
  by_cases q : b < 0
  · have : zab b = -b := by unfold zab; rw [if_pos q]
    rw [if_pos q, lneg_eq hb, ← this, e]
    rfl
  · have : zab b = b := by unfold zab; rw [if_neg q]
    rw [if_neg q]
    rw [this] at e
    rw [e]
    rfl
/-- the class's sign of a knot's -/
def cdK (K : Int) : Int := if K = 3 then 1115 else if K = 4 then 1114 else if K < 11 then 1012 + K else 1002 + K
theorem e_X12_compares (K a b : Int) (h0 : 5 ≤ K) (h1 : K ≤ 10) (m : zM) : ∃ x, zm_X12_compares zLa [zI K, zJ a, zJ b] m = some ([zI x], m) ∧ op2 (cdK K) a b = some (if x = 0 then 0 else 1) := by
  rw [zr_X12_compares, zb_X12_compares_0]
  simp only [cmp3]
  rcases (by omega : K = 5 ∨ K = 6 ∨ K = 7 ∨ K = 8 ∨ K = 9 ∨ K = 10) with rfl | rfl | rfl | rfl | rfl | rfl
  · have e : op2 (cdK 5) a b = some (if a < b then 1 else 0) := rfl
    rw [if_pos rfl, e]
    split
    · exact ⟨1, rfl, rfl⟩
    · exact ⟨0, rfl, rfl⟩
  · have e : op2 (cdK 6) a b = some (if a ≤ b then 1 else 0) := rfl
    rw [if_neg (by decide), if_pos rfl, e]
    split
    · exact ⟨1, rfl, rfl⟩
    · exact ⟨0, rfl, rfl⟩
  · have e : op2 (cdK 7) a b = some (if a = b then 1 else 0) := rfl
    rw [if_neg (by decide), if_neg (by decide), if_pos rfl, e]
    split
    · exact ⟨1, rfl, rfl⟩
    · exact ⟨0, rfl, rfl⟩
  · have e : op2 (cdK 8) a b = some (if a = b then 0 else 1) := rfl
    rw [if_neg (by decide), if_neg (by decide), if_neg (by decide), if_pos rfl, e]
    split
    · exact ⟨0, rfl, rfl⟩
    · exact ⟨1, rfl, rfl⟩
  · have e : op2 (cdK 9) a b = some (if a < b then 0 else 1) := rfl
    rw [if_neg (by decide), if_neg (by decide), if_neg (by decide), if_neg (by decide), if_pos rfl, e]
    split
    · exact ⟨0, rfl, rfl⟩
    · exact ⟨1, rfl, rfl⟩
  · have e : op2 (cdK 10) a b = some (if a ≤ b then 0 else 1) := rfl
    rw [if_neg (by decide), if_neg (by decide), if_neg (by decide), if_neg (by decide), if_neg (by decide), e]
    split
    · exact ⟨0, rfl, rfl⟩
    · exact ⟨1, rfl, rfl⟩
variable {n : Int}
theorem wo_num (hR : LayR m) (n0 : 0 ≤ n) (n1 : n < 128) (hK : m 107 n = 0) : zm_X12_worthOf zLa [zA 12 84, zI n] m = some ([zJ (m 108 n)], m) := by
  have hΛ := zLo_ok
  have hn : 0 ≤ n ∧ n < 128 := ⟨n0, n1⟩
  rw [zr_X12_worthOf, zb_X12_worthOf_0]
  simp only [hR, hΛ]
  rw [if_pos hn, if_pos hK, if_pos hn]
  rfl
theorem wo_name (hR : LayR m) (n0 : 0 ≤ n) (n1 : n < 128) (hK : m 107 n = 1) (p0 : 0 ≤ m 108 n) (p1 : m 108 n < 10) : zm_X12_worthOf zLa [zA 12 84, zI n] m = some ([zJ (m 114 (m 108 n))], m) := by
  have hΛ := zLo_ok
  have hn : 0 ≤ n ∧ n < 128 := ⟨n0, n1⟩
  rw [zr_X12_worthOf, zb_X12_worthOf_0]
  simp only [hR, hΛ]
  rw [if_pos hn, if_neg (by omega), if_pos hn, if_pos hK, if_pos hn, if_pos ⟨p0, p1⟩]
  rfl
theorem wo_not (hR : LayR m) (n0 : 0 ≤ n) (n1 : n < 128) (hK : m 107 n = 2) (p0 : 0 ≤ m 108 n) (p1 : m 108 n < 64) : zm_X12_worthOf zLa [zA 12 84, zI n] m = some ([zJ (if m 115 (m 108 n) = 0 then 1 else 0)], m) := by
  have hΛ := zLo_ok
  have hn : 0 ≤ n ∧ n < 128 := ⟨n0, n1⟩
  rw [zr_X12_worthOf, zb_X12_worthOf_0]
  simp only [hR, hΛ, cmp3]
  rw [if_pos hn, if_neg (by omega), if_pos hn, if_neg (by omega), if_pos hn, if_pos ⟨p0, p1⟩, if_pos hn, if_pos hK]
  split <;> rfl
theorem wo_bin (hR : LayR m) (hg : g01 m) (n0 : 0 ≤ n) (n1 : n < 128) {K : Int} (hK : m 107 n = K) (k0 : 3 ≤ K) (k1 : K ≤ 14) (p0 : 0 ≤ m 108 n) (p1 : m 108 n < 64) (q0 : 0 ≤ m 109 n) (q1 : m 109 n < 64) (ha : inM (m 115 (m 108 n))) (hb : inM (m 115 (m 109 n))) : ∃ v m', zm_X12_worthOf zLa [zA 12 84, zI n] m = some ([zJ v], m') ∧ f64 m m' ∧ inM v ∧ rS (op2 (cdK K) (m 115 (m 108 n)) (m 115 (m 109 n))) (m 84 64) v (m' 84 64) := by
  have hΛ := zLo_ok
  have hn : 0 ≤ n ∧ n < 128 := ⟨n0, n1⟩
  have i0 : inM (0 : Int) := ⟨by decide, by decide⟩
  have i1 : inM (1 : Int) := ⟨by decide, by decide⟩
  rw [zr_X12_worthOf, zb_X12_worthOf_0]
  simp only [hR, hΛ, cmp3]
  rw [if_pos hn, if_neg (by omega), if_pos hn, if_neg (by omega), if_pos hn, if_pos ⟨p0, p1⟩, if_pos hn, if_neg (by omega), if_pos hn, if_pos ⟨q0, q1⟩, if_pos hn]
  generalize m 115 (m 108 n) = a at *
  generalize m 115 (m 109 n) = b at *
  -- one that no error comes of
  have sure : ∀ (v : Int) (o : Option Int), inM v → o = some v → ∃ v' m', some ([zJ v], m) = some ([zJ v'], m') ∧ f64 m m' ∧ inM v' ∧ rS o (m 84 64) v' (m' 84 64) := by
    intro v o hv ho
    refine ⟨v, m, rfl, f64.rf m, hv, ?_⟩
    rcases hg with hg | hg
    · exact Or.inl ⟨hg, Or.inl ⟨v, ho, rfl, hg⟩⟩
    · exact Or.inr ⟨hg, hg⟩
  rw [hK]
  by_cases r3 : K = 3
  · subst r3
    have e : op2 (cdK 3) a b = some (if a = 0 then 0 else if b = 0 then 0 else 1) := rfl
    rw [if_pos rfl, e]
    by_cases s1 : a = 0
    · rw [if_pos s1, if_pos s1]; exact sure 0 _ i0 rfl
    rw [if_neg s1, if_neg s1]
    by_cases s2 : b = 0
    · rw [if_pos s2, if_pos s2]; exact sure 0 _ i0 rfl
    · rw [if_neg s2, if_neg s2]; exact sure 1 _ i1 rfl
  rw [if_neg r3]
  by_cases r4 : K = 4
  · subst r4
    have e : op2 (cdK 4) a b = some (if a = 0 then (if b = 0 then 0 else 1) else 1) := rfl
    rw [if_pos rfl, e]
    by_cases s1 : a = 0
    · rw [if_pos s1, if_pos s1]
      by_cases s2 : b = 0
      · rw [if_pos s2, if_pos s2]; exact sure 0 _ i0 rfl
      · rw [if_neg s2, if_neg s2]; exact sure 1 _ i1 rfl
    · rw [if_neg s1, if_neg s1]; exact sure 1 _ i1 rfl
  rw [if_neg r4]
  by_cases rc : K ≤ 10
  · obtain ⟨x, ex, ox⟩ := e_X12_compares K a b (by omega) rc m
    have key : ∃ v m', z_out (z_bI (zm_X12_compares zLa [zI K, zJ a, zJ b] m) (fun r2 M1 => if r2 = 0 then some (.inl ([zJ 0], M1)) else some (.inl ([zJ 1], M1)))) = some ([zJ v], m') ∧ f64 m m' ∧ inM v ∧ rS (op2 (cdK K) a b) (m 84 64) v (m' 84 64) := by
      rw [ex, z_bI_mk, ox]
      by_cases s : x = 0
      · rw [if_pos s, if_pos s]; exact sure 0 _ i0 rfl
      · rw [if_neg s, if_neg s]; exact sure 1 _ i1 rfl
    rcases (by omega : K = 5 ∨ K = 6 ∨ K = 7 ∨ K = 8 ∨ K = 9 ∨ K = 10) with rfl | rfl | rfl | rfl | rfl | rfl
    · rw [if_pos rfl, if_pos hn]; exact key
    · rw [if_neg (by decide), if_pos rfl, if_pos hn]; exact key
    · rw [if_neg (by decide), if_neg (by decide), if_pos rfl, if_pos hn]; exact key
    · rw [if_neg (by decide), if_neg (by decide), if_neg (by decide), if_pos rfl, if_pos hn]; exact key
    · rw [if_neg (by decide), if_neg (by decide), if_neg (by decide), if_neg (by decide), if_pos rfl, if_pos hn]; exact key
    · rw [if_neg (by decide), if_neg (by decide), if_neg (by decide), if_neg (by decide), if_neg (by decide), if_pos rfl, if_pos hn]; exact key
  rw [if_neg (by omega), if_neg (by omega), if_neg (by omega), if_neg (by omega), if_neg (by omega), if_neg (by omega)]
  by_cases r11 : K = 11
  · subst r11
    have e : op2 (cdK 11) a b = bnd (a + b) := rfl
    obtain ⟨v, m', ev, h1, h2, h3⟩ := e_X12_bounded hg (a + b)
    unfold z_ladd
    rw [if_pos rfl, z_w64_id (by omega) (by omega), ev, e]
    exact ⟨v, m', rfl, h1, h2, h3⟩
  rw [if_neg r11]
  by_cases r12 : K = 12
  · subst r12
    have e : op2 (cdK 12) a b = bnd (a - b) := rfl
    obtain ⟨v, m', ev, h1, h2, h3⟩ := e_X12_bounded hg (a - b)
    unfold z_lsub
    rw [if_pos rfl, z_w64_id (by omega) (by omega), ev, e]
    exact ⟨v, m', rfl, h1, h2, h3⟩
  rw [if_neg r12]
  by_cases r13 : K = 13
  · subst r13
    have e : op2 (cdK 13) a b = op2 1015 a b := rfl
    obtain ⟨v, m', ev, h1, h2, h3⟩ := e_X12_times hg ha hb
    rw [if_pos rfl, ev, e]
    exact ⟨v, m', rfl, h1, h2, h3⟩
  rw [if_neg r13]
  have r14 : K = 14 := by omega
  subst r14
  have e : op2 (cdK 14) a b = (if b = 0 then none else some (a.tdiv b)) := rfl
  rw [if_pos rfl]
  simp only [z_lt_eq, z_wr_eq]
  rcases hg with hg | hg
  · rw [if_pos hg]
    by_cases s : b = 0
    · have e2 : op2 (cdK 14) a b = none := by rw [e, if_pos s]
      rw [e2, if_pos s, if_neg (by decide)]
      exact ⟨0, _, rfl, f64.wr m 1, i0, Or.inl ⟨hg, Or.inr ⟨rfl, z_wr_eq _ _ _ _⟩⟩⟩
    · have e2 : op2 (cdK 14) a b = some (a.tdiv b) := by rw [e, if_neg s]
      rw [e2, if_neg s, if_pos trivial, if_neg s]
      unfold z_ldiv
      rw [z_w64_in (tdiv_in ha s)]
      exact ⟨a.tdiv b, _, rfl, f64.wr m 0, tdiv_in ha s, Or.inl ⟨hg, Or.inl ⟨_, rfl, rfl, z_wr_eq _ _ _ _⟩⟩⟩
  · rw [if_neg (by omega), if_neg (by decide)]
    exact ⟨0, _, rfl, f64.wr m 1, i0, Or.inr ⟨hg, z_wr_eq _ _ _ _⟩⟩
end
