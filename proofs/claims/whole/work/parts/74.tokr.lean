/-! ===== tokens: the reference ===== -/
abbrev kR (B : Int → Int) (n : Int) (M : zM) : Prop := M 84 0 = 85 ∧ M 84 3 = 86 ∧ M 84 6 = n ∧ (∀ j, 0 ≤ j → j < n → M 85 j = B j) ∧ wR M
abbrev fU (M m : zM) : Prop := ∀ a k, ¬ (a = 84 ∧ 7 ≤ k ∧ k ≤ 10) → m a k = M a k
theorem fU.rf (M : zM) : fU M M := fun _ _ _ => rfl
theorem fU.tr {M m m2 : zM} (h : fU M m) (h2 : fU m m2) : fU M m2 := fun a k q => (h2 a k q).trans (h a k q)
theorem fU.wr {M : zM} {k v : Int} (h : 7 ≤ k ∧ k ≤ 10) : fU M (z_wr M 84 k v) := fun a j q => z_wr_ne (by omega)
theorem kR.fr {B : Int → Int} {n : Int} {M m : zM} (hf : fU M m) (h : kR B n M) : kR B n m := ⟨(hf _ _ (by omega)).trans h.1, (hf _ _ (by omega)).trans h.2.1, (hf _ _ (by omega)).trans h.2.2.1, fun j a b => (hf _ _ (by omega)).trans (h.2.2.2.1 j a b), fun j a b => (hf _ _ (by omega)).trans (h.2.2.2.2 j a b)⟩
/-! the words in the reference's order and in the class's -/
def WL : List (List Int) := [[116, 104, 105, 110, 103], [116, 101, 108, 108, 101, 114], [97, 115, 107], [115, 97, 121], [112, 97, 103, 101], [108, 97, 119], [98, 97, 114], [106, 117, 114, 121], [105, 115], [112, 97, 112, 101, 114], [112, 111, 108, 105, 99, 101], [98, 101, 103, 105, 110, 115], [101, 110, 100, 115], [116, 97, 112, 101], [97, 110, 100], [111, 114], [110, 111, 116], [97, 103, 101], [104, 111, 117, 114, 115], [111, 102, 102], [97, 115, 107, 115], [108, 101, 100], [114, 105, 103, 104, 116], [119, 114, 111, 110, 103], [110, 101, 119], [112, 117, 116], [108, 105, 110, 101, 115]]
def WC : List (List Int) := [[116, 104, 105, 110, 103], [105, 115], [112, 97, 112, 101, 114], [112, 111, 108, 105, 99, 101], [116, 101, 108, 108, 101, 114], [98, 101, 103, 105, 110, 115], [101, 110, 100, 115], [116, 97, 112, 101], [97, 115, 107], [115, 97, 121], [112, 97, 103, 101], [108, 97, 119], [98, 97, 114], [106, 117, 114, 121], [111, 114], [97, 110, 100], [110, 111, 116], [97, 103, 101], [104, 111, 117, 114, 115], [111, 102, 102], [97, 115, 107, 115], [108, 101, 100], [114, 105, 103, 104, 116], [119, 114, 111, 110, 103], [110, 101, 119], [112, 117, 116], [108, 105, 110, 101, 115]]
def rkL : List Int := [0, 8, 9, 10, 1, 11, 12, 13, 2, 3, 4, 5, 6, 7, 15, 14, 16, 17, 18, 19, 20, 21, 22, 23, 24, 25, 26]
def rk (K : Int) : Int := rkL.getD (K - 1100).toNat 99
def resW (tx : List Int) : List (List Int) → Int → Int
  | [], _ => -1
  | w :: ws, k => if w = tx then k else resW tx ws (k + 1)
def txt (B : Int → Int) (p : Int) : Nat → List Int
  | 0 => []
  | l + 1 => B p :: txt B (p + 1) l
def atW (g : Int → Int) : List Int → Int → Bool
  | [], f => decide (g f = 32)
  | y :: w, f => decide (g f = y) && decide (y ≠ 32) && atW g w (f + 1)
def atF (g : Int → Int) : List (List Int) → Int → Bool
  | [], f => decide (f = 132)
  | w :: ws, f => atW g w f && decide (0 ≤ f) && decide (f + w.length < 132) && atF g ws (f + w.length + 1)
theorem atF_WL : atF lTb WL 0 = true := by decide +kernel
section
variable {B : Int → Int} {n p : Int} {M : zM}
theorem r_small (h : kR B n M) {k : Int} (k0 : 0 ≤ k) (n1 : n ≤ 800) : zm_X12_isSmall zLa [zA 12 84, zI k] M = some ([zI (b2i (k < n ∧ isL (B k)))], M) := by
  rw [zr_X12_isSmall]
  refine z_out_some ?_
  rw [zb_X12_isSmall_0, h.2.2.1, h.1, la_85]
  by_cases q : k < n
  case neg => rw [if_neg q, b2i_neg (fun r => q r.1)]
  have hk : 0 ≤ k ∧ k < 800 := ⟨k0, by omega⟩
  rw [if_pos q, if_pos hk, h.2.2.2.1 k k0 q, if_pos hk]
  repeat' split
  all_goals first | (rw [b2i_pos (by omega)]; done) | (rw [b2i_neg (by omega)]; done) | (exfalso; omega)
theorem r_dig (h : kR B n M) {k : Int} (k0 : 0 ≤ k) (n1 : n ≤ 800) : zm_X12_isDigit zLa [zA 12 84, zI k] M = some ([zI (b2i (k < n ∧ isDg (B k)))], M) := by
  rw [zr_X12_isDigit]
  refine z_out_some ?_
  rw [zb_X12_isDigit_0, h.2.2.1, h.1, la_85]
  by_cases q : k < n
  case neg => rw [if_neg q, b2i_neg (fun r => q r.1)]
  have hk : 0 ≤ k ∧ k < 800 := ⟨k0, by omega⟩
  rw [if_pos q, if_pos hk, h.2.2.2.1 k k0 q, if_pos hk]
  repeat' split
  all_goals first | (rw [b2i_pos (by omega)]; done) | (rw [b2i_neg (by omega)]; done) | (exfalso; omega)
theorem r_skip (h : kR B n M) {q : Int} (q0 : 0 ≤ q) (n1 : n ≤ 800) (hq : M 84 7 = q) (qp : q ≤ p) (pn : p ≤ n) (hb : ∀ j, q ≤ j → j < p → B j = 32 ∨ B j = 10) (he : p = n ∨ (p < n ∧ ¬ (B p = 32 ∨ B p = 10))) : ∃ m, z_ev (zcd_X12_take zLa) 1 [zA 12 84] [] M = z_ev (zcd_X12_take zLa) 2 [zA 12 84] [] m ∧ fU M m ∧ m 84 7 = p := by
  obtain ⟨m, e, hf, h4⟩ := lp_ex (fun _ (m : zM) => z_ev (zcd_X12_take zLa) 1 [zA 12 84] [] m) (fun i m => fU M m ∧ m 84 7 = i) (n := p) q (fun i m hi0 hi1 ⟨hf, h4⟩ => by
    have hk := h.fr hf
    refine ⟨z_wr m 84 7 (i + 1), ?_, hf.tr (fU.wr (by omega)), z_wr_eq _ _ _ _⟩
    rw [zb_X12_take_1, h4, hk.2.2.1, if_pos (by omega), hk.1, la_85, if_pos ⟨by omega, by omega⟩, hk.2.2.2.1 i (by omega) (by omega)]
    rcases hb i hi0 hi1 with r | r
    · rw [if_neg (by omega), if_pos ⟨by omega, by omega⟩, if_pos r, z_lt_eq, z_add_id (by omega) (by omega)]
    · rw [if_pos r, z_lt_eq, z_add_id (by omega) (by omega)]) (s := M) qp ⟨fU.rf M, hq⟩
  try dsimp only at e
  have hk := h.fr hf
  refine ⟨m, ?_, hf, h4⟩
  rw [e, zb_X12_take_1, h4, hk.2.2.1]
  rcases he with r | ⟨r, r2⟩
  · rw [if_neg (by omega)]
  · rw [if_pos r, hk.1, la_85, if_pos ⟨by omega, by omega⟩, hk.2.2.2.1 p (by omega) (by omega), if_neg (by omega), if_pos ⟨by omega, by omega⟩, if_neg (by omega)]
/-- how far a word in the table goes -/
theorem r_scan (h : kR B n M) : ∀ (w : List Int) (f s : Int), atW lTb w (f + s) = true → 0 ≤ f → 0 ≤ s → f + s + w.length < 132 → ∀ (x1 x2 x3 : Int) (w6 w7 : zV), -1000 < x1 → x1 < 1000 → -1000 < x2 → x2 < 1000 → z_ev (zcd_X12_wordAt zLa) 2 [zA 12 84, zI x1, zI x2, zI x3, zI f, zI s, w6, w7] [] M = z_ev (zcd_X12_wordAt zLa) 3 [zA 12 84, zI x1, zI x2, zI x3, zI f, zI (s + w.length), zI (b2i (s + w.length = x2 - x1)), zI 0] [] M := by
  intro w
  induction w with
  | nil =>
    intro f s hw f0 s0 hl x1 x2 x3 w6 w7 a1 a2 a3 a4
    have hw' : lTb (f + s) = 32 := of_decide_eq_true hw
    have hl' : f + s < 132 := by simpa using hl
    have e0 : s + (([] : List Int).length : Int) = s := by simp
    rw [e0, zb_X12_wordAt_2, h.2.1, la_86, z_add_id (by omega) (by omega), if_pos ⟨by omega, hl'⟩, h.2.2.2.2 (f + s) (by omega) hl', if_pos hw', z_sub_id (by omega) (by omega)]
    by_cases q : s = x2 - x1
    · rw [if_pos q, b2i_pos q]
    · rw [if_neg q, b2i_neg q]
  | cons y w ih =>
    intro f s hw f0 s0 hl x1 x2 x3 w6 w7 a1 a2 a3 a4
    have hw' : (decide (lTb (f + s) = y) && decide (y ≠ 32) && atW lTb w (f + s + 1)) = true := hw
    rw [Bool.and_eq_true, Bool.and_eq_true] at hw'
    obtain ⟨⟨b1, b2⟩, b3⟩ := hw'
    have b1' := of_decide_eq_true b1
    have b2' := of_decide_eq_true b2
    have hln : ((y :: w).length : Int) = w.length + 1 := by simp
    rw [hln] at hl ⊢
    rw [(by omega : f + s + 1 = f + (s + 1))] at b3
    rw [zb_X12_wordAt_2, h.2.1, la_86, z_add_id (by omega) (by omega), if_pos ⟨by omega, by omega⟩, h.2.2.2.2 (f + s) (by omega) (by omega), if_neg (by omega), z_w32_id (by omega) (by omega), ih f (s + 1) b3 f0 (by omega) (by omega) x1 x2 x3 w6 w7 a1 a2 a3 a4, (by omega : s + 1 + (w.length : Int) = s + (w.length + 1))]
/-- a word in the table beside the text -/
theorem r_cmp (h : kR B n M) (n1 : n ≤ 800) : ∀ (w : List Int) (f s : Int), atW lTb w (f + s) = true → 0 ≤ f → 0 ≤ s → f + s + w.length < 132 → ∀ (x1 x2 x3 : Int), 0 ≤ x1 → x2 ≤ n → x1 + s + w.length = x2 → 0 ≤ x3 → x3 < 100 → (w = txt B (x1 + s) w.length → z_ev (zcd_X12_wordAt zLa) 3 [zA 12 84, zI x1, zI x2, zI x3, zI f, zI (s + w.length), zI 1, zI s] [] M = some (.inl ([zI x3], M))) ∧ (w ≠ txt B (x1 + s) w.length → ∃ w5 w6 w7, z_ev (zcd_X12_wordAt zLa) 3 [zA 12 84, zI x1, zI x2, zI x3, zI f, zI (s + w.length), zI 1, zI s] [] M = z_ev (zcd_X12_wordAt zLa) 1 [zA 12 84, zI x1, zI x2, zI (x3 + 1), zI (f + s + w.length + 1), w5, w6, w7] [] M) := by
  intro w
  induction w with
  | nil =>
    intro f s hw f0 s0 hl x1 x2 x3 a1 a2 a3 a4 a5
    have e0 : s + (([] : List Int).length : Int) = s := by simp
    refine ⟨fun _ => ?_, fun r => absurd rfl r⟩
    rw [e0, zb_X12_wordAt_3, if_neg (by omega), if_neg (by decide)]
  | cons y w ih =>
    intro f s hw f0 s0 hl x1 x2 x3 a1 a2 a3 a4 a5
    have hw' : (decide (lTb (f + s) = y) && decide (y ≠ 32) && atW lTb w (f + s + 1)) = true := hw
    rw [Bool.and_eq_true, Bool.and_eq_true] at hw'
    obtain ⟨⟨b1, b2⟩, b3⟩ := hw'
    have b1' := of_decide_eq_true b1
    have hln : ((y :: w).length : Int) = w.length + 1 := by simp
    have etx : txt B (x1 + s) (y :: w).length = B (x1 + s) :: txt B (x1 + (s + 1)) w.length := by
      rw [(by omega : x1 + (s + 1) = x1 + s + 1)]; rfl
    rw [hln] at hl a3
    rw [(by omega : f + s + 1 = f + (s + 1))] at b3
    have hi := ih f (s + 1) b3 f0 (by omega) (by omega) x1 x2 x3 a1 a2 (by omega) a4 a5
    rw [hln, etx, (by omega : s + ((w.length : Int) + 1) = s + 1 + w.length), zb_X12_wordAt_3, if_pos (by omega), if_neg (by decide), h.2.1, la_86, z_add_id (a := f) (b := s) (by omega) (by omega), if_pos ⟨by omega, by omega⟩, h.1, la_85, z_add_id (a := x1) (b := s) (by omega) (by omega), if_pos ⟨by omega, by omega⟩, h.2.2.2.2 (f + s) (by omega) (by omega), b1', h.2.2.2.1 (x1 + s) (by omega) (by omega), z_w32_id (by omega) (by omega)]
    by_cases q : y = B (x1 + s)
    · rw [if_pos q]
      refine ⟨fun r => hi.1 (List.cons.inj r).2, fun r => ?_⟩
      obtain ⟨w5, w6, w7, e⟩ := hi.2 (fun z => r (by rw [← q, ← z]))
      exact ⟨w5, w6, w7, by rw [e, (by omega : f + (s + 1) + (w.length : Int) + 1 = f + s + (w.length + 1) + 1)]⟩
    · rw [if_neg q]
      refine ⟨fun r => absurd (List.cons.inj r).1 q, fun _ => ?_⟩
      rw [zb_X12_wordAt_3]
      rcases Nat.eq_zero_or_pos w.length with z | z
      · rw [if_neg (by omega), if_pos rfl, z_w32_id (by omega) (by omega), z_add_id (a := s + 1 + (w.length : Int)) (by omega) (by omega), z_add_id (by omega) (by omega)]
        exact ⟨_, _, _, by rw [(by omega : f + (s + 1 + (w.length : Int) + 1) = f + s + (w.length + 1) + 1)]⟩
      · rw [if_pos (by omega), if_pos rfl, if_pos rfl, z_w32_id (by omega) (by omega), z_add_id (a := s + 1 + (w.length : Int)) (by omega) (by omega), z_add_id (by omega) (by omega)]
        exact ⟨_, _, _, by rw [(by omega : f + (s + 1 + (w.length : Int) + 1) = f + s + (w.length + 1) + 1)]⟩
theorem txt_len (B : Int → Int) : ∀ (l : Nat) (p : Int), (txt B p l).length = l := by
  intro l
  induction l with
  | zero => intro p; rfl
  | succ l ih => intro p; show (txt B (p + 1) l).length + 1 = l + 1; rw [ih]
theorem rr_words (h : kR B n M) (n1 : n ≤ 800) {l : Nat} (p0 : 0 ≤ p) (pl : p + l ≤ n) : ∀ (ws : List (List Int)) (f k : Int) (w5 w6 w7 : zV), atF lTb ws f = true → 0 ≤ k → k + ws.length ≤ 50 → z_ev (zcd_X12_wordAt zLa) 1 [zA 12 84, zI p, zI (p + l), zI k, zI f, w5, w6, w7] [] M = some (.inl ([zI (resW (txt B p l) ws k)], M)) := by
  intro ws
  induction ws with
  | nil =>
    intro f k w5 w6 w7 hf k0 k1
    have hf' : f = 132 := of_decide_eq_true hf
    rw [zb_X12_wordAt_1, h.2.1, la_86, if_neg (by omega)]
    rfl
  | cons w ws ih =>
    intro f k w5 w6 w7 hf k0 k1
    have hf' : (atW lTb w f && decide (0 ≤ f) && decide (f + w.length < 132) && atF lTb ws (f + w.length + 1)) = true := hf
    rw [Bool.and_eq_true, Bool.and_eq_true, Bool.and_eq_true] at hf'
    obtain ⟨⟨⟨b1, b2⟩, b3⟩, b4⟩ := hf'
    have b2' := of_decide_eq_true b2
    have b3' := of_decide_eq_true b3
    have hln : ((w :: ws).length : Int) = ws.length + 1 := by simp
    rw [hln] at k1
    have hz : atW lTb w (f + 0) = true := by rw [Int.add_zero]; exact b1
    rw [zb_X12_wordAt_1, h.2.1, la_86, if_pos (by omega), r_scan h w f 0 hz b2' (by decide) (by omega) p (p + l) k w6 w7 (by omega) (by omega) (by omega) (by omega)]
    have ers : resW (txt B p l) (w :: ws) k = if w = txt B p l then k else resW (txt B p l) ws (k + 1) := rfl
    rw [ers]
    by_cases q : w.length = l
    · have hc := r_cmp h n1 w f 0 hz b2' (by decide) (by omega) p (p + l) k p0 pl (by omega) k0 (by omega)
      rw [b2i_pos (by omega)]
      rw [Int.add_zero p, q] at hc
      rw [q]
      by_cases q2 : w = txt B p l
      · rw [if_pos q2]; exact hc.1 q2
      · rw [if_neg q2]
        obtain ⟨v5, v6, v7, e⟩ := hc.2 q2
        rw [e, (by omega : f + 0 + (l : Int) + 1 = f + w.length + 1)]
        exact ih _ (k + 1) _ _ _ b4 (by omega) (by omega)
    · rw [if_neg (fun r => q (by rw [r, txt_len])), b2i_neg (by omega), zb_X12_wordAt_3]
      have go : ∀ v5 v6 v7 : zV, z_ev (zcd_X12_wordAt zLa) 1 [zA 12 84, zI p, zI (p + l), zI (z_w32 (k + 1)), zI (z_add f (z_add (0 + (w.length : Int)) 1)), v5, v6, v7] [] M = some (.inl ([zI (resW (txt B p l) ws (k + 1))], M)) := fun v5 v6 v7 => by
        rw [z_w32_id (by omega) (by omega), z_add_id (a := 0 + (w.length : Int)) (by omega) (by omega), z_add_id (by omega) (by omega), (by omega : f + (0 + (w.length : Int) + 1) = f + w.length + 1)]
        exact ih _ (k + 1) _ _ _ b4 (by omega) (by omega)
      by_cases q3 : (0 : Int) < 0 + (w.length : Int)
      · rw [if_pos q3, if_pos rfl, if_pos rfl]; exact go _ _ _
      · rw [if_neg q3, if_pos rfl]; exact go _ _ _
theorem r_wordAt (h : kR B n M) (n1 : n ≤ 800) {l : Nat} (p0 : 0 ≤ p) (pl : p + l ≤ n) : zm_X12_wordAt zLa [zA 12 84, zI p, zI (p + l)] M = some ([zI (resW (txt B p l) WL 0)], M) := by
  rw [zr_X12_wordAt]
  refine z_out_some ?_
  rw [zb_X12_wordAt_0]
  exact rr_words h n1 p0 pl WL 0 0 _ _ _ atF_WL (by decide) (by decide)
/-- the reference's packed letters -/
def rvF (B : Int → Int) (p l k a : Int) : Int := if k < l then z_or (z_shl a 5) (z_sub (B (p + k)) 96) else z_or (z_shl a 5) 0
def rv (B : Int → Int) (p l : Int) : Int := fld (rvF B p l) 0 6
theorem r_packed (h : kR B n M) (n1 : n ≤ 800) {l : Int} (p0 : 0 ≤ p) (l0 : 0 ≤ l) (pl : p + l ≤ n) : zm_X12_packed zLa [zA 12 84, zI p, zI (p + l)] M = some ([zI (rv B p l)], M) := by
  have e := lp_fld (fun i (a : Int) => z_ev (zcd_X12_packed zLa) 1 [zA 12 84, zI p, zI (p + l), zI a, zI (p + i)] [] M) (rvF B p l) 0 (n := 6) (by decide) (fun i a hi0 hi1 hI => by
    rw [zb_X12_packed_1, z_add_id (by omega) (by omega), if_pos (by omega), z_w32_id (by omega) (by omega), (by omega : p + i + 1 = p + (i + 1)), h.1, la_85]
    unfold rvF
    by_cases q : i < l
    · rw [if_pos (by omega), if_pos ⟨by omega, by omega⟩, if_pos q, h.2.2.2.1 _ (by omega) (by omega)]
    · rw [if_neg (by omega), if_neg q])
  try dsimp only at e
  rw [Int.add_zero] at e
  rw [zr_X12_packed]
  refine z_out_some ?_
  rw [zb_X12_packed_0, e, zb_X12_packed_1, z_add_id (by omega) (by omega), if_neg (by omega)]
  rfl
/-- the reference's number -/
def nw (B : Int → Int) (p j : Int) : Int := fld (fun k a => if a ≤ 999 then 10 * a + B (p + k) - 48 else a) 0 j
abbrev eN (v w : Int) : Prop := (0 ≤ v ∧ v ≤ 999 ∧ w = v) ∨ (v = 1000 ∧ 1000 ≤ w ∧ w ≤ 9999)
theorem nw_eN {e : Int} (hl : ∀ j, p ≤ j → j < e → isDg (B j)) : ∀ j, 0 ≤ j → p + j ≤ e → eN (nv B p j) (nw B p j) := by
  refine sm_ind (p := fun j => p + j ≤ e → eN (nv B p j) (nw B p j)) (fun _ => Or.inl ⟨by show (0:Int) ≤ 0; decide, by show (0:Int) ≤ 999; decide, rfl⟩) (fun j hj ih hp => ?_)
  have := ih (by omega)
  have hd := hl (p + j) (by omega) (by omega)
  unfold eN nv nw at this ⊢
  rw [fld_s _ _ hj, fld_s _ _ hj]
  (repeat' split) <;> omega
end
