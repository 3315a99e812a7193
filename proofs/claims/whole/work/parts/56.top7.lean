/-! ===== odds ===== -/
noncomputable def ci {α : Type} (p : Prop) (a b : α) : α := @ite α p (Classical.propDecidable p) a b
theorem ci_pos {α : Type} {p : Prop} {a b : α} (h : p) : ci p a b = a := by unfold ci; rw [if_pos h]
theorem ci_neg {α : Type} {p : Prop} {a b : α} (h : ¬ p) : ci p a b = b := by unfold ci; rw [if_neg h]
def flN {α : Type} (g : Int → α → α) (a : α) : Nat → α
  | 0 => a
  | n + 1 => g n (flN g a n)
def fl {α : Type} (g : Int → α → α) (a : α) (n : Int) : α := flN g a n.toNat
theorem fl_s {α : Type} (g : Int → α → α) (a : α) {n : Int} (h : 0 ≤ n) : fl g a (n + 1) = g n (fl g a n) := by
  unfold fl
  have e : (n + 1).toNat = n.toNat + 1 := by omega
  rw [e]
  show g (n.toNat : Int) (flN g a n.toNat) = _
  rw [Int.toNat_of_nonneg h]
/-- as many as there are boxes, at most -/
theorem cnt_add1 {q q' : Int → Prop} {y : Int} (hq : ¬ q y) (h : ∀ k, q' k ↔ (q k ∨ k = y)) (y0 : 0 ≤ y) : ∀ m, 0 ≤ m → cnt q' m = cnt q m + b2i (y < m) := sm_ind (by rw [b2i_neg (by omega)]; rfl) (fun m hm ih => by
  rw [cnt_s _ hm, cnt_s _ hm, ih]
  by_cases r : m = y
  · subst r
    rw [b2i_neg (p := m < m) (by omega), b2i_pos (p := q' m) ((h m).2 (Or.inr rfl)), b2i_neg hq, b2i_pos (p := m < m + 1) (by omega)]
  · rw [b2i_congr (p := q' m) (q := q m) ⟨fun z => ((h m).1 z).resolve_right r, fun z => (h m).2 (Or.inl z)⟩, b2i_congr (p := y < m + 1) (q := y < m) (by omega)]
    omega)
theorem pigeon {p : Int → Prop} {f : Int → Int} {N m : Int} (m0 : 0 ≤ m) (hf : ∀ i, 0 ≤ i → i < N → p i → 0 ≤ f i ∧ f i < m) (hi : ∀ i j, 0 ≤ i → i < j → j < N → p i → p j → f i ≠ f j) : ∀ n, 0 ≤ n → n ≤ N → cnt p n ≤ m := by
  have H : ∀ n, 0 ≤ n → n ≤ N → cnt p n = cnt (fun y => ∃ i, 0 ≤ i ∧ i < n ∧ p i ∧ f i = y) m := by
    refine sm_ind (p := fun n => n ≤ N → cnt p n = cnt (fun y => ∃ i, 0 ≤ i ∧ i < n ∧ p i ∧ f i = y) m) (fun _ => ?_) (fun n hn ih hN => ?_)
    · have : ∀ m, 0 ≤ m → cnt (fun y => ∃ i : Int, 0 ≤ i ∧ i < 0 ∧ p i ∧ f i = y) m = 0 := sm_ind rfl (fun m hm ih => by
        rw [cnt_s _ hm, ih, b2i_neg (fun ⟨i, a, b, _⟩ => by omega)]; rfl)
      rw [this m m0]; rfl
    · rw [cnt_s _ hn, ih (by omega)]
      rcases Classical.em (p n) with r | r
      · have hfn := hf n hn (by omega) r
        rw [cnt_add1 (q := fun y => ∃ i, 0 ≤ i ∧ i < n ∧ p i ∧ f i = y) (q' := fun y => ∃ i, 0 ≤ i ∧ i < n + 1 ∧ p i ∧ f i = y) (y := f n) (fun ⟨i, a, b, d, e⟩ => hi i n a b (by omega) d r e) (fun k => ⟨fun ⟨i, a, b, d, e⟩ => by
          rcases (by omega : i < n ∨ i = n) with z | z
          · exact Or.inl ⟨i, a, z, d, e⟩
          · exact Or.inr (by rw [← e, z]), fun z => by
          rcases z with ⟨i, a, b, d, e⟩ | z
          · exact ⟨i, a, by omega, d, e⟩
          · exact ⟨n, hn, by omega, r, z.symm⟩⟩) hfn.1 m m0, b2i_pos r, b2i_pos hfn.2]
      · rw [b2i_neg r, Int.add_zero]
        exact cnt_congr (fun k _ _ => ⟨fun ⟨i, a, b, d, e⟩ => ⟨i, a, by omega, d, e⟩, fun ⟨i, a, b, d, e⟩ => ⟨i, a, by
          rcases (by omega : i < n ∨ i = n) with z | z
          · exact z
          · subst z; exact absurd d r, d, e⟩⟩)
  intro n hn hN
  rw [H n hn hN]
  exact (cnt_rng _ m0).2
/-! the greatest common divisor, as both loops find it -/
def sG (a b : Int) : Int := (Nat.gcd a.toNat b.toNat : Nat)
theorem sG_0 {a : Int} (h : 0 ≤ a) : sG a 0 = a := by
  unfold sG
  rw [show (0 : Int).toNat = 0 from rfl, Nat.gcd_zero_right]
  exact Int.toNat_of_nonneg h
theorem sG_s {a b : Int} (ha : 0 ≤ a) (hb : 0 < b) : sG a b = sG b (a % b) := by
  unfold sG
  rw [Int.toNat_emod ha (by omega), Nat.gcd_comm a.toNat, Nat.gcd_rec b.toNat a.toNat, Nat.gcd_comm]
theorem sG_rng {a b : Int} (ha : 0 < a) (hb : 0 < b) : 1 ≤ sG a b ∧ sG a b ≤ a ∧ sG a b ≤ b := by
  unfold sG
  have h1 := Nat.gcd_pos_of_pos_left (m := a.toNat) b.toNat (by omega)
  have h2 := Nat.gcd_le_left (m := a.toNat) b.toNat (by omega)
  have h3 : Nat.gcd a.toNat b.toNat ≤ b.toNat := Nat.gcd_le_right a.toNat (by omega)
  omega
theorem tmod_pos {a b : Int} (ha : 0 ≤ a) : a.tmod b = a % b := Int.tmod_eq_emod_of_nonneg ha
theorem tdiv_pos {a b : Int} (ha : 0 ≤ a) : a.tdiv b = a / b := Int.tdiv_eq_ediv_of_nonneg ha
theorem z_ldiv_pos {a b : Int} (ha : 0 ≤ a) (h1 : a < 9223372036854775808) (hb : 1 ≤ b) : z_ldiv a b = a / b := by
  have h2 : a / b ≤ a := Int.ediv_le_self b ha
  have h3 : 0 ≤ a / b := Int.ediv_nonneg ha (by omega)
  unfold z_ldiv
  rw [tdiv_pos ha, z_w64_id (by omega) (by omega)]
theorem half_mod {b r : Int} (hr : 0 < r) (h : r < b) : 2 * (b % r) < b := by
  have h1 := Int.emod_lt_of_pos b hr
  have h2 := Int.emod_nonneg b (by omega : r ≠ 0)
  have h3 := Int.emod_add_mul_ediv b r
  have h4 : 1 ≤ b / r := by
    rw [Int.le_ediv_iff_mul_le hr]; omega
  have h5 : r * 1 ≤ r * (b / r) := Int.mul_le_mul_of_nonneg_left h4 (by omega)
  omega
def pw2 : Nat → Int
  | 0 => 1
  | n + 1 => 2 * pw2 n
theorem sh_loop (M : zM) : ∀ (n : Nat) (a b i : Int) (w2 w4 w6 w7 : zV), 0 < a → 0 ≤ b → b < pw2 n → 0 ≤ i → i + 2 * n ≤ 199 → ∃ u2 u3 u4 u5 u6 u7, z_ev (zcd_X5_shorten zLa) 1 [zA 5 75, zJ a, w2, zJ b, w4, zI i, w6, w7] [] M = z_ev (zcd_X5_shorten zLa) 2 [zA 5 75, zJ (sG a b), u2, u3, u4, u5, u6, u7] [] M := by
  have stop : ∀ (a i : Int) (w2 w4 w6 w7 : zV), 0 < a → ∃ u2 u3 u4 u5 u6 u7, z_ev (zcd_X5_shorten zLa) 1 [zA 5 75, zJ a, w2, zJ 0, w4, zI i, w6, w7] [] M = z_ev (zcd_X5_shorten zLa) 2 [zA 5 75, zJ (sG a 0), u2, u3, u4, u5, u6, u7] [] M := by
    intro a i w2 w4 w6 w7 ha
    rw [zb_X5_shorten_1, sG_0 (by omega)]
    by_cases q : i < 200
    · rw [if_pos q, if_pos (by decide)]
      exact ⟨_, _, _, _, _, _, rfl⟩
    · rw [if_neg q]
      exact ⟨_, _, _, _, _, _, rfl⟩
  have step : ∀ (a b i : Int) (w2 w4 w6 w7 : zV), 0 < a → 0 < b → 0 ≤ i → i < 200 → z_ev (zcd_X5_shorten zLa) 1 [zA 5 75, zJ a, w2, zJ b, w4, zI i, w6, w7] [] M = z_ev (zcd_X5_shorten zLa) 1 [zA 5 75, zJ b, zU, zJ (a % b), zU, zI (i + 1), zJ (a % b), zU] [] M := by
    intro a b i w2 w4 w6 w7 ha hb hi0 hi1
    rw [zb_X5_shorten_1, if_pos hi1, if_neg (by rw [if_neg (by omega), if_neg (by omega)]; decide), if_neg (by omega), z_w32_id (by omega) (by omega)]
    unfold z_lrem
    rw [tmod_pos (by omega)]
  intro n
  induction n with
  | zero =>
    intro a b i w2 w4 w6 w7 ha hb0 hb1 hi0 hi1
    have : b = 0 := by have : pw2 0 = 1 := rfl; omega
    subst this
    exact stop a i w2 w4 w6 w7 ha
  | succ n ih =>
    intro a b i w2 w4 w6 w7 ha hb0 hb1 hi0 hi1
    have hp : pw2 (n + 1) = 2 * pw2 n := rfl
    by_cases q : b = 0
    · subst q; exact stop a i w2 w4 w6 w7 ha
    rw [step a b i w2 w4 w6 w7 ha (by omega) hi0 (by omega), sG_s (by omega) (by omega)]
    have r0 := Int.emod_nonneg a (by omega : b ≠ 0)
    have r1 := Int.emod_lt_of_pos a (by omega : 0 < b)
    by_cases q2 : a % b = 0
    · rw [q2]; exact stop b _ _ _ _ _ (by omega)
    rw [step b (a % b) (i + 1) _ _ _ _ (by omega) (by omega) (by omega) (by omega), sG_s (by omega) (by omega)]
    have h2 := half_mod (b := b) (r := a % b) (by omega) r1
    exact ih (a % b) (b % (a % b)) (i + 1 + 1) _ _ _ _ (by omega) (Int.emod_nonneg _ (by omega)) (by omega) (by omega) (by omega)
theorem co_loop (M : zM) : ∀ (n : Nat) (a b : Int) (w0 w1 w2 w3 w5 w7 w8 w9 : zV), 0 < a → 0 ≤ b → b < n → z_ev (zcd_X12_common zLa) 1 [w0, w1, w2, w3, zJ a, w5, zJ b, w7, w8, w9] [] M = some (.inl ([zJ (sG a b)], M)) := by
  intro n
  induction n with
  | zero => intro a b w0 w1 w2 w3 w5 w7 w8 w9 ha hb0 hb1; omega
  | succ n ih =>
    intro a b w0 w1 w2 w3 w5 w7 w8 w9 ha hb0 hb1
    rw [zb_X12_common_1]
    by_cases q : b = 0
    · subst q; rw [if_pos (by decide), sG_0 (by omega)]
    rw [if_neg (by rw [if_neg (by omega), if_neg q]; decide), if_neg q, sG_s (by omega) (by omega)]
    unfold z_lrem
    rw [tmod_pos (by omega)]
    have r0 := Int.emod_nonneg a q
    have r1 := Int.emod_lt_of_pos a (by omega : 0 < b)
    exact ih b (a % b) _ _ _ _ _ _ _ _ (by omega) r0 (by omega)
theorem e_X12_common {a b : Int} (ha : 0 < a) (hb : 0 < b) (M : zM) : zm_X12_common zLa [zJ a, zJ b] M = some ([zJ (sG a b)], M) := by
  rw [zr_X12_common]
  refine z_out_some ?_
  rw [zb_X12_common_0, co_loop M (b + 1).toNat a b _ _ _ _ _ _ _ _ ha (by omega) (by omega)]
abbrev oC (m : zM) (s : Int × Int) : Prop := m 75 0 = s.1 ∧ m 75 1 = s.2
abbrev oR (m : zM) (s : Int × Int) : Prop := m 84 58 = s.1 ∧ m 84 59 = s.2
def oG (s : Int × Int) : Int × Int := (s.1 / sG s.1 s.2, s.2 / sG s.1 s.2)
abbrev oOk (s : Int × Int) : Prop := 1 ≤ s.1 ∧ s.1 < 9223372036854775808 ∧ 1 ≤ s.2 ∧ s.2 < 9223372036854775808
theorem e_X5_shorten {m : zM} {s : Int × Int} (h : oC m s) (hr : oOk s) : ∃ m', zm_X5_shorten zLa [zA 5 75] m = some ([], m') ∧ Sm m m' ∧ oC m' (oG s) ∧ m' 75 2 = m 75 2 := by
  obtain ⟨a, b⟩ := s
  simp only [oC, oOk] at h hr
  obtain ⟨u2, u3, u4, u5, u6, u7, e⟩ := sh_loop m 63 a b 0 zU zU zU zU (by omega) (by omega) (by have : pw2 63 = 9223372036854775808 := rfl; omega) (by omega) (by omega)
  have hg := sG_rng (a := a) (b := b) (by omega) (by omega)
  have e0 : zm_X5_shorten zLa [zA 5 75] m = z_out (z_ev (zcd_X5_shorten zLa) 2 [zA 5 75, zJ (sG a b), u2, u3, u4, u5, u6, u7] [] m) := by
    rw [zr_X5_shorten, zb_X5_shorten_0, h.1, h.2, e]
  by_cases q : sG a b = 1
  · refine ⟨m, ?_, Sm.rf m, ?_, rfl⟩
    · rw [e0]
      refine z_out_some ?_
      rw [zb_X5_shorten_2, q, if_pos (by decide)]
    · unfold oG
      dsimp only
      rw [q, Int.ediv_one, Int.ediv_one]
      exact h
  · refine ⟨z_wr (z_wr m 75 0 (a / sG a b)) 75 1 (b / sG a b), ?_, (Sm.wr (by decide)).tr (Sm.wr (by decide)), ⟨?_, ?_⟩, ?_⟩
    · rw [e0]
      refine z_out_some ?_
      rw [zb_X5_shorten_2, if_neg (by rw [if_neg (by omega), if_neg q]; decide), if_neg (by omega), z_lt_eq, if_neg (by omega), z_lt_eq, h.1, z_wr_ne (Or.inr (by decide)), h.2, z_ldiv_pos (by omega) (by omega) (by omega), z_ldiv_pos (by omega) (by omega) (by omega)]
    · rw [z_wr_ne (Or.inr (by decide)), z_wr_eq]; rfl
    · rw [z_wr_eq]; rfl
    · rw [z_wr_ne (Or.inr (by decide)), z_wr_ne (Or.inr (by decide))]
theorem e_X12_least {m : zM} {s : Int × Int} (h : oR m s) (hr : oOk s) : ∃ m', zm_X12_least zLa [zA 12 84] m = some ([], m') ∧ Sm m m' ∧ oR m' (oG s) := by
  obtain ⟨a, b⟩ := s
  simp only [oR, oOk] at h hr
  have hg := sG_rng (a := a) (b := b) (by omega) (by omega)
  refine ⟨z_wr (z_wr m 84 58 (a / sG a b)) 84 59 (b / sG a b), ?_, (Sm.wr (by decide)).tr (Sm.wr (by decide)), ?_, ?_⟩
  · rw [zr_X12_least]
    refine z_out_some ?_
    rw [zb_X12_least_0, h.1, h.2, e_X12_common (by omega) (by omega), z_bJ_mk, if_neg (by omega), z_lt_eq, if_neg (by omega), z_lt_eq, h.1, z_wr_ne (Or.inr (by decide)), h.2, z_ldiv_pos (by omega) (by omega) (by omega), z_ldiv_pos (by omega) (by omega) (by omega)]
  · rw [z_wr_ne (Or.inr (by decide)), z_wr_eq]; rfl
  · rw [z_wr_eq]; rfl
/-- one word's worth -/
noncomputable def oX (tr : Int) (r : Prop) (w : Int) (s : Int × Int) : Int × Int := (s.1 * (cite r tr (10 - tr) * w), s.2 * cite r 10 (10 * (w - 1)))
def bd : Nat → Int
  | 0 => 99
  | n + 1 => 81 * bd n
theorem bd_8 {n : Int} (h0 : 0 ≤ n) (h1 : n ≤ 8) : bd n.toNat ≤ 183448958404110600000 ∧ bd n.toNat < 9223372036854775808 := by
  have : ∀ k : Fin 9, bd k.val ≤ 183448958404110600000 ∧ bd k.val < 9223372036854775808 := by decide
  exact this ⟨n.toNat, by omega⟩
abbrev oB (s : Int × Int) (j : Int) : Prop := 1 ≤ s.1 ∧ s.1 ≤ bd j.toNat ∧ 1 ≤ s.2 ∧ s.2 ≤ bd j.toNat
theorem mul_rng {a f b : Int} (a1 : 1 ≤ a) (a2 : a ≤ b) (f1 : 1 ≤ f) (f2 : f ≤ 81) : 1 ≤ a * f ∧ a * f ≤ 81 * b := by
  have h1 : 1 * 1 ≤ a * f := Int.mul_le_mul a1 f1 (by omega) (by omega)
  have h2 : a * f ≤ b * 81 := Int.mul_le_mul a2 f2 (by omega) (by omega)
  omega
theorem oX_rng {tr w j : Int} {r : Prop} {s : Int × Int} (t0 : 1 ≤ tr) (t1 : tr ≤ 9) (w0 : 2 ≤ w) (w1 : w ≤ 9) (j0 : 0 ≤ j) (h : oB s j) : oB (oX tr r w s) (j + 1) := by
  have e : bd (j + 1).toNat = 81 * bd j.toNat := by rw [show (j + 1).toNat = j.toNat + 1 by omega]; rfl
  have hc1 : 1 ≤ cite r tr (10 - tr) ∧ cite r tr (10 - tr) ≤ 9 := by
    rcases Classical.em r with q | q
    · rw [cite_pos q]; omega
    · rw [cite_neg q]; omega
  have hc2 : 1 ≤ cite r 10 (10 * (w - 1)) ∧ cite r 10 (10 * (w - 1)) ≤ 81 := by
    rcases Classical.em r with q | q
    · rw [cite_pos q]; omega
    · rw [cite_neg q]; omega
  have hf : 1 ≤ cite r tr (10 - tr) * w ∧ cite r tr (10 - tr) * w ≤ 81 := by
    have h1 : 1 * 1 ≤ cite r tr (10 - tr) * w := Int.mul_le_mul hc1.1 (by omega) (by omega) (by omega)
    have h2 : cite r tr (10 - tr) * w ≤ 9 * 9 := Int.mul_le_mul hc1.2 w1 (by omega) (by omega)
    omega
  have ha := mul_rng h.1 h.2.1 hf.1 hf.2
  have hb := mul_rng h.2.2.1 h.2.2.2 hc2.1 hc2.2
  unfold oB oX
  dsimp only
  omega
theorem oG_rng {s : Int × Int} {j : Int} (h : oB s j) : oB (oG s) j := by
  have hg := sG_rng (a := s.1) (b := s.2) (by omega) (by omega)
  have h1 : s.1 / sG s.1 s.2 ≤ s.1 := Int.ediv_le_self _ (by omega)
  have h2 : s.2 / sG s.1 s.2 ≤ s.2 := Int.ediv_le_self _ (by omega)
  have h3 : 1 ≤ s.1 / sG s.1 s.2 := by rw [Int.le_ediv_iff_mul_le (by omega)]; omega
  have h4 : 1 ≤ s.2 / sG s.1 s.2 := by rw [Int.le_ediv_iff_mul_le (by omega)]; omega
  unfold oB oG
  dsimp only
  omega
theorem oB_ok {s : Int × Int} {j : Int} (h : oB s j) (j0 : 0 ≤ j) (j1 : j ≤ 8) : oOk s := by
  have := bd_8 j0 j1
  exact ⟨h.1, by omega, h.2.2.1, by omega⟩
theorem e_X5_takeOne {m : zM} {s : Int × Int} {tr w : Int} {r : Prop} (h : oC m s) (ht : m 75 2 = tr) (t0 : 1 ≤ tr) (t1 : tr ≤ 9) (w0 : 2 ≤ w) (w1 : w ≤ 9) {j : Int} (j0 : 0 ≤ j) (j1 : j < 8) (hb : oB s j) : ∃ m', zm_X5_takeOne zLa [zA 5 75, zI (b2i r), zI w] m = some ([], m') ∧ Sm m m' ∧ oC m' (oG (oX tr r w s)) ∧ m' 75 2 = tr := by
  have hb2 := oX_rng (r := r) t0 t1 w0 w1 j0 hb
  have hok := oB_ok hb2 (by omega) (by omega)
  have hbd := bd_8 (n := j) j0 (by omega)
  have hm1 : ∀ x, 1 ≤ x → x ≤ 9 → z_mul x w = x * w := fun x x0 x1 => by
    have h1 : 1 * 1 ≤ x * w := Int.mul_le_mul x0 (by omega) (by omega) (by omega)
    have h2 : x * w ≤ 9 * 9 := Int.mul_le_mul x1 w1 (by omega) (by omega)
    exact z_mul_id (by omega) (by omega)
  rcases Classical.em r with q | q
  · have e1 : oX tr r w s = (s.1 * (tr * w), s.2 * 10) := by unfold oX; rw [cite_pos q, cite_pos q]
    rw [e1] at hok ⊢
    simp only [oOk] at hok
    obtain ⟨m', e, hs, hc, h2⟩ := e_X5_shorten (m := z_wr (z_wr m 75 0 (s.1 * (tr * w))) 75 1 (s.2 * 10)) (s := (s.1 * (tr * w), s.2 * 10)) ⟨by rw [z_wr_ne (Or.inr (by decide)), z_wr_eq], by rw [z_wr_eq]⟩ hok
    refine ⟨m', ?_, ((Sm.wr (by decide)).tr (Sm.wr (by decide))).tr hs, hc, ?_⟩
    · rw [zr_X5_takeOne]
      refine z_out_some ?_
      rw [zb_X5_takeOne_0, b2i_pos q, if_neg (by decide), zb_X5_takeOne_1, z_lt_eq, if_neg (by decide), z_lt_eq, h.1, ht, hm1 tr t0 t1, z_wr_ne (Or.inr (by decide)), h.2]
      unfold z_lmul
      rw [z_w64_id (by omega) (by omega), z_w64_id (by omega) (by omega), e, z_bV_mk]
    · rw [h2, z_wr_ne (Or.inr (by decide)), z_wr_ne (Or.inr (by decide)), ht]
  · have e1 : oX tr r w s = (s.1 * ((10 - tr) * w), s.2 * (10 * (w - 1))) := by unfold oX; rw [cite_neg q, cite_neg q]
    rw [e1] at hok ⊢
    simp only [oOk] at hok
    obtain ⟨m', e, hs, hc, h2⟩ := e_X5_shorten (m := z_wr (z_wr m 75 0 (s.1 * ((10 - tr) * w))) 75 1 (s.2 * (10 * (w - 1)))) (s := (s.1 * ((10 - tr) * w), s.2 * (10 * (w - 1)))) ⟨by rw [z_wr_ne (Or.inr (by decide)), z_wr_eq], by rw [z_wr_eq]⟩ hok
    refine ⟨m', ?_, ((Sm.wr (by decide)).tr (Sm.wr (by decide))).tr hs, hc, ?_⟩
    · rw [zr_X5_takeOne]
      refine z_out_some ?_
      rw [zb_X5_takeOne_0, b2i_neg q, if_pos rfl, zb_X5_takeOne_1, z_lt_eq, if_pos rfl, z_lt_eq, h.1, ht, z_sub_id (a := 10) (by omega) (by omega), hm1 (10 - tr) (by omega) (by omega), z_wr_ne (Or.inr (by decide)), h.2, z_sub_id (a := w) (by omega) (by omega), z_mul_id (by omega) (by omega)]
      unfold z_lmul
      rw [z_w64_id (by omega) (by omega), z_w64_id (by omega) (by omega), e, z_bV_mk]
    · rw [h2, z_wr_ne (Or.inr (by decide)), z_wr_ne (Or.inr (by decide)), ht]
theorem e_X12_weighs {m V : zM} {s : Int × Int} {tr y : Int} {r : Prop} (hm : mOk m V) (h : oR m s) (ht : m 84 47 = tr) (t0 : 1 ≤ tr) (t1 : tr ≤ 9) (y0 : 0 ≤ y) (y1 : y < V 1 0) {j : Int} (j0 : 0 ≤ j) (j1 : j < 8) (hb : oB s j) : ∃ m', zm_X12_weighs zLa [zA 12 84, zI y, zI (b2i r)] m = some ([], m') ∧ Sm m m' ∧ oR m' (oG (oX tr r (V 3 y) s)) := by
  have hN := hm.2.2.1
  have hw := hm.2.2.2.1 y y0 y1
  have mt := hm.2.1.2.1 y y0 y1
  have hΛ2 := zLo_ok
  have hR := hm.1
  generalize hwe : V 3 y = w at *
  have hb2 := oX_rng (r := r) t0 t1 (w := w) (by omega) (by omega) j0 hb
  have hok := oB_ok hb2 (by omega) (by omega)
  have hm1 : ∀ x, 1 ≤ x → x ≤ 9 → z_mul x w = x * w := fun x x0 x1 => by
    have h1 : 1 * 1 ≤ x * w := Int.mul_le_mul x0 (by omega) (by omega) (by omega)
    have h2 : x * w ≤ 9 * 9 := Int.mul_le_mul x1 (by omega) (by omega) (by omega)
    exact z_mul_id (by omega) (by omega)
  rcases Classical.em r with q | q
  · have e1 : oX tr r w s = (s.1 * (tr * w), s.2 * 10) := by unfold oX; rw [cite_pos q, cite_pos q]
    rw [e1] at hok ⊢
    simp only [oOk] at hok
    obtain ⟨m', e, hs, hc⟩ := e_X12_least (m := z_wr (z_wr m 84 58 (s.1 * (tr * w))) 84 59 (s.2 * 10)) (s := (s.1 * (tr * w), s.2 * 10)) ⟨by rw [z_wr_ne (Or.inr (by decide)), z_wr_eq], by rw [z_wr_eq]⟩ hok
    refine ⟨m', ?_, ((Sm.wr (by decide)).tr (Sm.wr (by decide))).tr hs, hc⟩
    rw [zr_X12_weighs]
    refine z_out_some ?_
    rw [zb_X12_weighs_0, b2i_pos q, if_neg (by decide)]
    simp only [hR, hΛ2]
    rw [if_pos (by omega), z_lt_eq, z_lt_eq, h.1, ht, mt.2.1, hm1 tr t0 t1, z_wr_ne (Or.inr (by decide)), h.2]
    unfold z_lmul
    rw [z_w64_id (by omega) (by omega), z_w64_id (by omega) (by omega), e, z_bV_mk]
  · have e1 : oX tr r w s = (s.1 * ((10 - tr) * w), s.2 * (10 * (w - 1))) := by unfold oX; rw [cite_neg q, cite_neg q]
    rw [e1] at hok ⊢
    simp only [oOk] at hok
    obtain ⟨m', e, hs, hc⟩ := e_X12_least (m := z_wr (z_wr m 84 58 (s.1 * ((10 - tr) * w))) 84 59 (s.2 * (10 * (w - 1)))) (s := (s.1 * ((10 - tr) * w), s.2 * (10 * (w - 1)))) ⟨by rw [z_wr_ne (Or.inr (by decide)), z_wr_eq], by rw [z_wr_eq]⟩ hok
    refine ⟨m', ?_, ((Sm.wr (by decide)).tr (Sm.wr (by decide))).tr hs, hc⟩
    have h22 : ∀ v, z_wr m 84 58 v 84 22 = 88 := fun v => by rw [z_wr_ne (Or.inr (by decide))]; simp only [hR]
    rw [zr_X12_weighs]
    refine z_out_some ?_
    rw [zb_X12_weighs_0, b2i_neg q, if_pos rfl]
    simp only [hR, hΛ2]
    rw [if_pos (by omega), z_lt_eq, h22, la_88, if_pos (by omega), z_lt_eq, h.1, ht, mt.2.1, z_wr_ne (M := m) (b := 88) (Or.inl (by decide)), mt.2.1, z_sub_id (a := 10) (by omega) (by omega), hm1 (10 - tr) (by omega) (by omega), z_wr_ne (Or.inr (by decide)), h.2, z_sub_id (a := w) (by omega) (by omega)]
    unfold z_lmul
    rw [z_w64_id (n := 10 * (w - 1)) (by omega) (by omega), z_w64_id (by omega) (by omega), z_w64_id (by omega) (by omega), e, z_bV_mk]

