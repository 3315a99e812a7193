/-! ===== tokens: one token, both sides ===== -/
def sgc (K : Int) : Int := if K = 1010 then 59 else if K = 1011 then 40 else if K = 1012 then 41 else if K = 1013 then 43 else if K = 1014 then 45 else if K = 1015 then 42 else 47
def eR (K A kd wh : Int) : Prop := (K = 1000 ∧ kd = 0) ∨ (K = 1001 ∧ kd = 6) ∨ (K = 1002 ∧ kd = 3 ∧ eN A wh) ∨ (K = 1003 ∧ kd = 2 ∧ wh = A) ∨ (1010 ≤ K ∧ K ≤ 1016 ∧ kd = 4 ∧ wh = sgc K) ∨ (1017 ≤ K ∧ K ≤ 1022 ∧ kd = 5 ∧ wh = K - 1017) ∨ (1100 ≤ K ∧ K ≤ 1126 ∧ kd = 1 ∧ wh = rk K)
section
variable {B : Int → Int} {n p : Int} {M : zM}
theorem rs_4 {b x2 x3 : Int} {w1 : zV} (h9 : M 84 9 = b) : z_ev (zcd_X12_takeSign zLa) 4 [zA 12 84, w1, zI x2, zI x3] [] M = some (.inl ([], z_wr (z_wr M 84 8 5) 84 9 (if b = 61 then 2 else if b = 60 then (if x2 = 0 then (if x3 = 0 then 0 else 3) else 1) else (if x2 = 0 then 5 else 4)))) := by
  rw [zb_X12_takeSign_4, z_lt_eq, z_wr_ne (M := M) (by omega), h9]
  by_cases q1 : b = 61
  · rw [if_pos q1, if_pos q1, z_lt_eq]
  rw [if_neg q1, if_neg q1]
  by_cases q2 : b = 60
  · rw [if_pos q2, if_pos q2]
    by_cases q3 : x2 = 0
    · rw [if_pos q3, if_pos q3]
      by_cases q4 : x3 = 0
      · rw [if_pos q4, if_pos q4, z_lt_eq]
      · rw [if_neg q4, if_neg q4, z_lt_eq]
    · rw [if_neg q3, if_neg q3, z_lt_eq]
  · rw [if_neg q2, if_neg q2]
    by_cases q3 : x2 = 0
    · rw [if_pos q3, if_pos q3, z_lt_eq]
    · rw [if_neg q3, if_neg q3, z_lt_eq]
theorem r_sign (h : kR B n M) (p0 : 0 ≤ p) (n1 : n ≤ 800) (pn : p < n) (h7 : M 84 7 = p) (A : Int) : ∃ m, zm_X12_takeSign zLa [zA 12 84] M = some ([], m) ∧ fU M m ∧ m 84 7 = p + sN (B p) (nxB B n p) ∧ m 84 10 = M 84 10 ∧ eR (sK (B p) (nxB B n p)) A (m 84 8) (m 84 9) := by
  have f2 : fU M (z_wr (z_wr M 84 9 (B p)) 84 7 (p + 1)) := (fU.wr (by omega)).tr (fU.wr (by omega))
  have k2 := h.fr f2
  have m9 : z_wr (z_wr M 84 9 (B p)) 84 7 (p + 1) 84 9 = B p := by rw [z_wr_ne (by omega), z_wr_eq]
  have m7 : z_wr (z_wr M 84 9 (B p)) 84 7 (p + 1) 84 7 = p + 1 := z_wr_eq _ _ _ _
  have m10 : z_wr (z_wr M 84 9 (B p)) 84 7 (p + 1) 84 10 = M 84 10 := by rw [z_wr_ne (by omega), z_wr_ne (by omega)]
  rw [zr_X12_takeSign, zb_X12_takeSign_0, h7, h.1, la_85, if_pos ⟨by omega, by omega⟩, h.2.2.2.1 p p0 pn, z_lt_eq, z_wr_ne (M := M) (a := 84) (i := 9) (b := 84) (j := 7) (by omega), h7, z_add_id (by omega) (by omega), z_lt_eq]
  generalize z_wr (z_wr M 84 9 (B p)) 84 7 (p + 1) = m2 at f2 k2 m9 m7 m10 ⊢
  have hd : (if p + 1 < n then if 0 ≤ p + 1 ∧ p + 1 < 800 then z_ev (zcd_X12_takeSign zLa) 1 [zA 12 84, zU, zU, zU] [zI (m2 85 (p + 1))] m2 else none else z_ev (zcd_X12_takeSign zLa) 1 [zA 12 84, zU, zU, zU] [zI (0:Int)] m2) = z_ev (zcd_X12_takeSign zLa) 1 [zA 12 84, zU, zU, zU] [zI (nxB B n p)] m2 := by
    unfold nxB
    by_cases q : p + 1 < n
    · rw [if_pos q, if_pos ⟨by omega, by omega⟩, if_pos q, k2.2.2.2.1 _ (by omega) q]
    · rw [if_neg q, if_neg q]
  rw [m9, m7, k2.2.2.1, k2.1, la_85, hd]
  generalize nxB B n p = d at *
  generalize B p = b at *
  have one4 : ∀ K : Int, 1010 ≤ K → K ≤ 1016 → b = sgc K → sK b d = K → sN b d = 1 → ∃ m, z_out (some (.inl (([] : List zV), z_wr m2 84 8 4))) = some ([], m) ∧ fU M m ∧ m 84 7 = p + sN b d ∧ m 84 10 = M 84 10 ∧ eR (sK b d) A (m 84 8) (m 84 9) := fun K k0 k1 hb hK hN => ⟨_, rfl, f2.tr (fU.wr (by omega)), by rw [z_wr_ne (by omega), m7, hN], by rw [z_wr_ne (by omega), m10], by rw [hK, z_wr_eq, z_wr_ne (by omega), m9]; exact Or.inr (Or.inr (Or.inr (Or.inr (Or.inl ⟨k0, k1, rfl, hb⟩))))⟩
  have one5 : ∀ v : Int, sK b d = 1017 + v → 0 ≤ v → v ≤ 5 → sN b d = 1 → ∃ m, z_out (some (.inl (([] : List zV), z_wr (z_wr m2 84 8 5) 84 9 v))) = some ([], m) ∧ fU M m ∧ m 84 7 = p + sN b d ∧ m 84 10 = M 84 10 ∧ eR (sK b d) A (m 84 8) (m 84 9) := fun v hK v0 v1 hN => ⟨_, rfl, (f2.tr (fU.wr (by omega))).tr (fU.wr (by omega)), by rw [z_wr_ne (by omega), z_wr_ne (by omega), m7, hN], by rw [z_wr_ne (by omega), z_wr_ne (by omega), m10], by rw [hK, z_wr_eq, z_wr_ne (by omega), z_wr_eq]; exact Or.inr (Or.inr (Or.inr (Or.inr (Or.inr (Or.inl ⟨by omega, by omega, rfl, by omega⟩)))))⟩
  have two5 : ∀ v : Int, sK b d = 1017 + v → 0 ≤ v → v ≤ 5 → sN b d = 2 → ∃ m, z_out (some (.inl (([] : List zV), z_wr (z_wr (z_wr m2 84 7 (p + 1 + 1)) 84 8 5) 84 9 v))) = some ([], m) ∧ fU M m ∧ m 84 7 = p + sN b d ∧ m 84 10 = M 84 10 ∧ eR (sK b d) A (m 84 8) (m 84 9) := fun v hK v0 v1 hN => ⟨_, rfl, ((f2.tr (fU.wr (by omega))).tr (fU.wr (by omega))).tr (fU.wr (by omega)), by rw [z_wr_ne (by omega), z_wr_ne (by omega), z_wr_eq, hN]; omega, by rw [z_wr_ne (by omega), z_wr_ne (by omega), z_wr_ne (by omega), m10], by rw [hK, z_wr_eq, z_wr_ne (by omega), z_wr_eq]; exact Or.inr (Or.inr (Or.inr (Or.inr (Or.inr (Or.inl ⟨by omega, by omega, rfl, by omega⟩)))))⟩
  have m29 : z_wr m2 84 7 (p + 1 + 1) 84 9 = b := by rw [z_wr_ne (by omega), m9]
  rcases (by omega : b = 59 ∨ b = 40 ∨ b = 41 ∨ b = 43 ∨ b = 45 ∨ b = 42 ∨ b = 47 ∨ b = 60 ∨ b = 62 ∨ b = 61 ∨ (b ≠ 59 ∧ b ≠ 40 ∧ b ≠ 41 ∧ b ≠ 43 ∧ b ≠ 45 ∧ b ≠ 42 ∧ b ≠ 47 ∧ b ≠ 60 ∧ b ≠ 62 ∧ b ≠ 61)) with r | r | r | r | r | r | r | r | r | r | r
  · subst r; exact one4 1010 (by decide) (by decide) rfl rfl rfl
  · subst r; exact one4 1011 (by decide) (by decide) rfl rfl rfl
  · subst r; exact one4 1012 (by decide) (by decide) rfl rfl rfl
  · subst r; exact one4 1013 (by decide) (by decide) rfl rfl rfl
  · subst r; exact one4 1014 (by decide) (by decide) rfl rfl rfl
  · subst r; exact one4 1015 (by decide) (by decide) rfl rfl rfl
  · subst r; exact one4 1016 (by decide) (by decide) rfl rfl rfl
  · rw [if_pos r, zb_X12_takeSign_1, m9, if_neg (by omega)]
    by_cases q1 : d = 61
    · rw [if_pos q1, zb_X12_takeSign_2, m9, if_pos r, if_neg (by omega), zb_X12_takeSign_3, if_neg (by decide), m7, z_add_id (by omega) (by omega), z_lt_eq, rs_4 m29, if_neg (by omega), if_pos r, if_neg (by decide)]
      exact two5 1 (by rw [r, q1]; rfl) (by decide) (by decide) (by rw [r, q1]; rfl)
    · rw [if_neg q1, zb_X12_takeSign_2, m9, if_pos r]
      by_cases q2 : d = 62
      · rw [if_pos q2, zb_X12_takeSign_3, if_pos rfl, if_neg (by decide), m7, z_add_id (by omega) (by omega), z_lt_eq, rs_4 m29, if_neg (by omega), if_pos r, if_pos rfl, if_neg (by decide)]
        exact two5 3 (by rw [r, q2]; rfl) (by decide) (by decide) (by rw [r, q2]; rfl)
      · rw [if_neg q2, zb_X12_takeSign_3, if_pos rfl, if_pos rfl, rs_4 m9, if_neg (by omega), if_pos r, if_pos rfl, if_pos rfl]
        refine one5 0 ?_ (by decide) (by decide) ?_
        · rw [r]; unfold sK; rw [if_neg (by decide), if_neg (by decide), if_neg (by decide), if_neg (by decide), if_neg (by decide), if_neg (by decide), if_neg (by decide), if_pos rfl, if_neg q1, if_neg q2]; rfl
        · rw [r]; unfold sN; rw [if_pos rfl, if_neg q1, if_neg q2]
  · rw [if_neg (by omega), if_pos r, zb_X12_takeSign_1, m9, if_neg (by omega)]
    by_cases q1 : d = 61
    · rw [if_pos q1, zb_X12_takeSign_2, m9, if_neg (by omega), zb_X12_takeSign_3, if_neg (by decide), m7, z_add_id (by omega) (by omega), z_lt_eq, rs_4 m29, if_neg (by omega), if_neg (by omega), if_neg (by decide)]
      exact two5 4 (by rw [r, q1]; rfl) (by decide) (by decide) (by rw [r, q1]; rfl)
    · rw [if_neg q1, zb_X12_takeSign_2, m9, if_neg (by omega), zb_X12_takeSign_3, if_pos rfl, if_pos rfl, rs_4 m9, if_neg (by omega), if_neg (by omega), if_pos rfl]
      refine one5 5 ?_ (by decide) (by decide) ?_
      · rw [r]; unfold sK; rw [if_neg (by decide), if_neg (by decide), if_neg (by decide), if_neg (by decide), if_neg (by decide), if_neg (by decide), if_neg (by decide), if_neg (by decide), if_neg (by decide), if_pos rfl, if_neg q1]; rfl
      · rw [r]; unfold sN; rw [if_neg (by decide), if_pos rfl, if_neg q1]
  · rw [if_neg (by omega), if_neg (by omega), if_pos r, zb_X12_takeSign_1, m9, if_pos r, zb_X12_takeSign_2, m9, if_neg (by omega), zb_X12_takeSign_3, if_pos rfl, if_pos rfl, rs_4 m9, if_pos r]
    exact one5 2 (by rw [r]; rfl) (by decide) (by decide) (by rw [r]; rfl)
  · have e3 : sK b d = 1001 := by unfold sK; rw [if_neg (by omega), if_neg (by omega), if_neg (by omega), if_neg (by omega), if_neg (by omega), if_neg (by omega), if_neg (by omega), if_neg (by omega), if_neg (by omega), if_neg (by omega)]
    have e4 : sN b d = 1 := by unfold sN; rw [if_neg (by omega), if_neg (by omega)]
    rw [if_neg (by omega), if_neg (by omega), if_neg (by omega), if_neg (by omega), if_neg (by omega), if_neg (by omega), if_neg (by omega), if_neg (by omega), if_neg (by omega), if_neg (by omega), if_pos rfl, z_lt_eq]
    exact ⟨_, rfl, f2.tr (fU.wr (by omega)), by rw [z_wr_ne (by omega), m7, e4], by rw [z_wr_ne (by omega), m10], by rw [e3, z_wr_eq]; exact Or.inr (Or.inl ⟨rfl, rfl⟩)⟩
theorem sN_rng (b d : Int) : 1 ≤ sN b d ∧ sN b d ≤ 2 := by unfold sN; (repeat' split) <;> omega
theorem sN_2 {b : Int} (h : sN b (nxB B n p) = 2) : p + 1 < n := by
  refine Classical.byContradiction (fun q => ?_)
  have e : nxB B n p = 0 := by unfold nxB; rw [if_neg q]
  rw [e] at h
  unfold sN at h
  split at h
  · rw [if_neg (by decide), if_neg (by decide)] at h; omega
  · split at h
    · rw [if_neg (by decide)] at h; omega
    · omega
theorem sK_ne (b d : Int) : sK b d ≠ 1000 := by unfold sK; (repeat' split) <;> omega
/-- the reference's word -/
theorem r_word (h : kR B n M) {e : Int} (p0 : 0 ≤ p) (n1 : n ≤ 800) (h7 : M 84 7 = p) (h10 : M 84 10 = p) (pe : p < e) (en : e ≤ n) (hl : ∀ j, p ≤ j → j < e → isL (B j)) (he : e = n ∨ (e < n ∧ ¬ isL (B e))) : ∃ m, z_ev (zcd_X12_take zLa) 3 [zA 12 84] [] M = some (.inl ([], m)) ∧ fU M m ∧ m 84 7 = e ∧ m 84 10 = p ∧ eR (wK (e - p) (cv B p (e - p))) (cv B p (e - p)) (m 84 8) (m 84 9) := by
  obtain ⟨m, ee, hf, g7, g10⟩ := lp_ex (fun _ (m : zM) => z_ev (zcd_X12_take zLa) 3 [zA 12 84] [] m) (fun i m => fU M m ∧ m 84 7 = i ∧ m 84 10 = p) (n := e) p (fun i m hi0 hi1 ⟨hf, g7, g10⟩ => by
    have hk := h.fr hf
    refine ⟨z_wr m 84 7 (i + 1), ?_, hf.tr (fU.wr (by omega)), z_wr_eq _ _ _ _, by rw [z_wr_ne (by omega)]; exact g10⟩
    rw [zb_X12_take_3, g7, r_small hk (by omega) n1, z_bI_mk, b2i_pos ⟨by omega, hl i hi0 hi1⟩, if_neg (by decide), g7, z_add_id (by omega) (by omega), z_lt_eq]) (s := M) (by omega) ⟨fU.rf M, h7, h10⟩
  try dsimp only at ee
  have hk := h.fr hf
  obtain ⟨l, hl'⟩ : ∃ l : Nat, e = p + l := ⟨(e - p).toNat, by omega⟩
  have el : e - p = (l : Int) := by omega
  have hw := r_wordAt hk n1 p0 (l := l) (by omega)
  rw [← hl'] at hw
  have htl := txt_len B l p
  have hTL := txt_L l p (fun j a b => hl j a (by omega))
  have m5 : ∀ v k, k ≠ 9 → z_wr m 84 9 v 84 k = m 84 k := fun v k q => z_wr_ne (Or.inr q)
  rw [ee, zb_X12_take_3, g7, r_small hk (by omega) n1, z_bI_mk, b2i_neg (by omega), if_pos rfl, g10, g7, hw, z_bI_mk, z_lt_eq, z_wr_eq, m5 _ 7 (by decide), m5 _ 10 (by decide), g7, g10, z_sub_id (by omega) (by omega), el]
  unfold wK
  have big : z_wr m 84 9 (resW (txt B p l) WL 0) 84 9 = resW (txt B p l) WL 0 := z_wr_eq _ _ _ _
  by_cases q6 : (l : Int) ≤ 6
  case neg =>
    have er : resW (txt B p l) WL 0 = -1 := resW_no WL 0 (fun w hw' e => by
      have := wl_len w hw'
      rw [e, htl] at this
      omega)
    rw [er, if_pos (by decide), if_neg q6, if_neg q6, zb_X12_take_4, z_lt_eq, z_wr_eq, if_neg (by decide)]
    exact ⟨_, rfl, (hf.tr (fU.wr (by omega))).tr (fU.wr (by omega)), by rw [z_wr_ne (by omega), z_wr_ne (by omega)]; exact g7, by rw [z_wr_ne (by omega), z_wr_ne (by omega)]; exact g10, by rw [z_wr_eq]; exact Or.inr (Or.inl ⟨rfl, rfl⟩)⟩
  have hp := pack (B := B) (p := p) (l := l) (by omega) (by omega) (fun j a b => hl j a (by omega))
  rw [if_pos q6, if_pos q6]
  rcases word_eq hTL (by omega) with ⟨a, b⟩ | ⟨a, b, d, d2⟩
  · rw [b, hp.1, if_pos (by decide), if_pos a, zb_X12_take_4, z_lt_eq, z_wr_eq, if_pos rfl]
    have f4 : fU M (z_wr (z_wr m 84 9 (-1)) 84 8 2) := (hf.tr (fU.wr (by omega))).tr (fU.wr (by omega))
    have k4 := h.fr f4
    have hpk := r_packed k4 n1 p0 (l := l) (by omega) (by omega)
    rw [← hl'] at hpk
    rw [z_wr_ne (M := z_wr m 84 9 (-1)) (by omega), z_wr_ne (M := m) (by omega), g10, z_wr_ne (M := z_wr m 84 9 (-1)) (by omega), z_wr_ne (M := m) (by omega), g7, hpk, z_bI_mk, z_lt_eq]
    refine ⟨_, rfl, f4.tr (fU.wr (by omega)), by rw [z_wr_ne (by omega), z_wr_ne (by omega), z_wr_ne (by omega)]; exact g7, by rw [z_wr_ne (by omega), z_wr_ne (by omega), z_wr_ne (by omega)]; exact g10, ?_⟩
    rw [z_wr_ne (by omega), z_wr_eq, z_wr_eq]
    exact Or.inr (Or.inr (Or.inr (Or.inl ⟨rfl, rfl, hp.2.trans hp.1⟩)))
  · rw [d, hp.1, if_neg (by omega), if_neg (by omega), zb_X12_take_4, z_lt_eq, z_wr_eq, if_neg (by decide)]
    refine ⟨_, rfl, (hf.tr (fU.wr (by omega))).tr (fU.wr (by omega)), by rw [z_wr_ne (by omega), z_wr_ne (by omega)]; exact g7, by rw [z_wr_ne (by omega), z_wr_ne (by omega)]; exact g10, ?_⟩
    rw [z_wr_eq, z_wr_ne (by omega), z_wr_eq]
    exact Or.inr (Or.inr (Or.inr (Or.inr (Or.inr (Or.inr ⟨by omega, by omega, rfl, rfl⟩)))))
theorem r_num (h : kR B n M) {e : Int} (p0 : 0 ≤ p) (n1 : n ≤ 800) (h7 : M 84 7 = p) (h10 : M 84 10 = p) (h8 : M 84 8 = 3) (h9 : M 84 9 = 0) (pe : p ≤ e) (en : e ≤ n) (hl : ∀ j, p ≤ j → j < e → isDg (B j)) (he : e = n ∨ (e < n ∧ ¬ isDg (B e))) : ∃ m, z_ev (zcd_X12_take zLa) 5 [zA 12 84] [] M = some (.inl ([], m)) ∧ fU M m ∧ m 84 7 = e ∧ m 84 10 = p ∧ eR 1002 (nv B p (e - p)) (m 84 8) (m 84 9) := by
  have hen := nw_eN (B := B) (p := p) hl
  obtain ⟨m, ee, hf, g7, g10, g8, g9⟩ := lp_ex (fun _ (m : zM) => z_ev (zcd_X12_take zLa) 5 [zA 12 84] [] m) (fun i m => fU M m ∧ m 84 7 = i ∧ m 84 10 = p ∧ m 84 8 = 3 ∧ m 84 9 = nw B p (i - p)) (n := e) p (fun i m hi0 hi1 ⟨hf, g7, g10, g8, g9⟩ => by
    have hk := h.fr hf
    have hd := hl i hi0 hi1
    have hn := hen (i - p) (by omega) (by omega)
    refine ⟨z_wr (z_wr m 84 9 (nw B p (i + 1 - p))) 84 7 (i + 1), ?_, (hf.tr (fU.wr (by omega))).tr (fU.wr (by omega)), z_wr_eq _ _ _ _, by rw [z_wr_ne (by omega), z_wr_ne (by omega)]; exact g10, by rw [z_wr_ne (by omega), z_wr_ne (by omega)]; exact g8, by rw [z_wr_ne (by omega), z_wr_eq]⟩
    have ec : nw B p (i + 1 - p) = if nw B p (i - p) ≤ 999 then 10 * nw B p (i - p) + B i - 48 else nw B p (i - p) := by
      unfold nw
      rw [(by omega : i + 1 - p = i - p + 1), fld_s _ _ (by omega), (by omega : p + (i - p) = i)]
    rw [zb_X12_take_5, g7, r_dig hk (by omega) n1, z_bI_mk, b2i_pos ⟨by omega, hd⟩, if_neg (by decide), g9]
    by_cases q : nw B p (i - p) ≤ 999
    · rw [if_pos q] at ec ⊢
      rw [hk.1, la_85, g7, if_pos ⟨by omega, by omega⟩, hk.2.2.2.1 i (by omega) (by omega), z_mul_id (by unfold eN at hn; omega) (by unfold eN at hn; omega), z_add_id (by unfold eN at hn; omega) (by unfold eN at hn; omega), z_sub_id (by unfold eN at hn; omega) (by unfold eN at hn; omega), ← ec, z_lt_eq, z_wr_ne (by omega), g7, z_add_id (by omega) (by omega), z_lt_eq]
    · rw [if_neg q] at ec ⊢
      rw [← ec, z_lt_eq, z_wr_ne (by omega), g7, z_add_id (by omega) (by omega), z_lt_eq]) (s := M) pe ⟨fU.rf M, h7, h10, h8, by rw [h9, Int.sub_self]; rfl⟩
  try dsimp only at ee
  have hk := h.fr hf
  refine ⟨m, ?_, hf, g7, g10, ?_⟩
  · rw [ee, zb_X12_take_5, g7, r_dig hk (by omega) n1, z_bI_mk, b2i_neg (by omega), if_pos rfl]
  · rw [g8, g9]
    exact Or.inr (Or.inr (Or.inl ⟨rfl, rfl, hen (e - p) (by omega) (by omega)⟩))
abbrev tP (n q K A P q' : Int) : Prop := (q ≤ P ∧ P ≤ n) ∧ ((K = 1000 ∧ q' = n ∧ P = n) ∨ (K ≠ 1000 ∧ q < q' ∧ q' ≤ n))
abbrev cTk (B : Int → Int) (n q K A P q' : Int) : Prop := ∀ M, kC B n M → M 2 4 = q → ∃ m, zm_X10_cutOne zLa [zA 10 2] M = some ([], m) ∧ fT M m ∧ m 2 4 = q' ∧ m 2 10 = K ∧ m 2 11 = A ∧ m 2 12 = P
abbrev rTk (B : Int → Int) (n q K A P q' : Int) : Prop := ∀ M, kR B n M → M 84 7 = q → ∃ m, zm_X12_take zLa [zA 12 84] M = some ([], m) ∧ fU M m ∧ m 84 7 = q' ∧ m 84 10 = P ∧ eR K A (m 84 8) (m 84 9)
theorem tok_ex (B : Int → Int) {n : Int} (n1 : n ≤ 800) {q : Int} (q0 : 0 ≤ q) (qn : q ≤ n) : ∃ K A P q', tP n q K A P q' ∧ cTk B n q K A P q' ∧ rTk B n q K A P q' := by
  obtain ⟨p, qp, pn, hb, he⟩ := run_ex (P := fun j => B j = 32 ∨ B j = 10) (n := n) (n - q).toNat q (by omega)
  have cgo : ∀ M, kC B n M → M 2 4 = q → ∃ m, (zm_X10_cutOne zLa [zA 10 2] M = z_out (z_ev (zcd_X10_cutOne zLa) 2 [zA 10 2] [] m)) ∧ fT M m ∧ m 2 4 = p := fun M hk h4 => by
    obtain ⟨m, e, hf, g4⟩ := c_skip hk q0 n1 h4 qp pn hb he
    exact ⟨m, by rw [zr_X10_cutOne, zb_X10_cutOne_0, e], hf, g4⟩
  have rgo : ∀ M, kR B n M → M 84 7 = q → ∃ m, (zm_X12_take zLa [zA 12 84] M = z_out (z_ev (zcd_X12_take zLa) 2 [zA 12 84] [] m)) ∧ fU M m ∧ m 84 7 = p := fun M hk h7 => by
    obtain ⟨m, e, hf, g7⟩ := r_skip hk q0 n1 h7 qp pn hb he
    exact ⟨m, by rw [zr_X12_take, zb_X12_take_0, e], hf, g7⟩
  have cpre : ∀ m : zM, m 2 4 = p → fT m (z_wr (z_wr m 2 12 p) 2 11 0) ∧ z_wr (z_wr m 2 12 p) 2 11 0 2 4 = p ∧ z_wr (z_wr m 2 12 p) 2 11 0 2 11 = 0 ∧ z_wr (z_wr m 2 12 p) 2 11 0 2 12 = p := fun m g4 => ⟨(fT.wr (by omega)).tr (fT.wr (by omega)), by rw [z_wr_ne (by omega), z_wr_ne (by omega)]; exact g4, z_wr_eq _ _ _ _, by rw [z_wr_ne (by omega), z_wr_eq]⟩
  have rpre : ∀ m : zM, m 84 7 = p → fU m (z_wr m 84 10 p) ∧ z_wr m 84 10 p 84 7 = p ∧ z_wr m 84 10 p 84 10 = p := fun m g7 => ⟨fU.wr (by omega), by rw [z_wr_ne (by omega)]; exact g7, z_wr_eq _ _ _ _⟩
  by_cases qn' : p = n
  · refine ⟨1000, 0, p, n, ⟨⟨qp, pn⟩, Or.inl ⟨rfl, rfl, qn'⟩⟩, fun M hk h4 => ?_, fun M hk h7 => ?_⟩
    · obtain ⟨m, e, hf, g4⟩ := cgo M hk h4
      obtain ⟨f2, a4, a11, a12⟩ := cpre m g4
      have k2 := (hk.fr hf).fr f2
      refine ⟨z_wr (z_wr (z_wr m 2 12 p) 2 11 0) 2 10 1000, ?_, (hf.tr f2).tr (fT.wr (by omega)), by rw [z_wr_ne (by omega), a4]; exact qn', z_wr_eq _ _ _ _, by rw [z_wr_ne (by omega), a11], by rw [z_wr_ne (by omega), a12]⟩
      rw [e]
      refine z_out_some ?_
      rw [zb_X10_cutOne_2, g4, z_lt_eq, z_lt_eq, a4, k2.2.2.1, if_neg (by omega), z_lt_eq]
    · obtain ⟨m, e, hf, g7⟩ := rgo M hk h7
      obtain ⟨f2, a7, a10⟩ := rpre m g7
      have k2 := (hk.fr hf).fr f2
      refine ⟨z_wr (z_wr m 84 10 p) 84 8 0, ?_, (hf.tr f2).tr (fU.wr (by omega)), by rw [z_wr_ne (by omega), a7]; exact qn', by rw [z_wr_ne (by omega), a10], by rw [z_wr_eq]; exact Or.inl ⟨rfl, rfl⟩⟩
      rw [e]
      refine z_out_some ?_
      rw [zb_X12_take_2, g7, z_lt_eq, a7, k2.2.2.1, if_pos qn', z_lt_eq]
  have pn' : p < n := by omega
  by_cases ql : isL (B p)
  · obtain ⟨e, pe, en, hl, hee⟩ := run_ex (P := fun j => isL (B j)) (n := n) (n - p).toNat p (by omega)
    have pe' : p < e := by
      rcases (by omega : p < e ∨ e = p) with r | r
      · exact r
      · rcases hee with z | ⟨-, z⟩
        · omega
        · rw [r] at z; exact absurd ql z
    refine ⟨wK (e - p) (cv B p (e - p)), cv B p (e - p), p, e, ⟨⟨qp, pn⟩, Or.inr ⟨?_, by omega, en⟩⟩, fun M hk h4 => ?_, fun M hk h7 => ?_⟩
    · unfold wK fi
      rcases fst_spec (fun i => wTb i = cv B p (e - p)) (n := 27) (by decide) with ⟨a, -⟩ | ⟨a, b, -⟩
      · (repeat' split) <;> omega
      · (repeat' split) <;> omega
    · obtain ⟨m, e1, hf, g4⟩ := cgo M hk h4
      obtain ⟨f2, a4, a11, a12⟩ := cpre m g4
      have k2 := (hk.fr hf).fr f2
      obtain ⟨m', e', hf', b4, b10, b11, b12⟩ := c_word k2 (by omega) n1 a4 a11 pe en hl hee
      refine ⟨m', ?_, (hf.tr f2).tr hf', b4, b10, b11, by rw [b12, a12]⟩
      rw [e1]
      refine z_out_some ?_
      rw [zb_X10_cutOne_2, g4, z_lt_eq, z_lt_eq, a4, k2.2.2.1, if_pos pn', k2.2.1, la_4, if_pos ⟨by omega, by omega⟩, k2.2.2.2.1 p (by omega) pn', e_X10_isLetter, z_bI_mk, b2i_pos ql, if_neg (by decide), e', z_bV_mk]
    · obtain ⟨m, e1, hf, g7⟩ := rgo M hk h7
      obtain ⟨f2, a7, a10⟩ := rpre m g7
      have k2 := (hk.fr hf).fr f2
      obtain ⟨m', e', hf', b7, b10, br⟩ := r_word k2 (by omega) n1 a7 a10 pe' en hl hee
      refine ⟨m', ?_, (hf.tr f2).tr hf', b7, b10, br⟩
      rw [e1]
      refine z_out_some ?_
      rw [zb_X12_take_2, g7, z_lt_eq, a7, k2.2.2.1, if_neg qn', r_small k2 (by omega) n1, z_bI_mk, b2i_pos ⟨pn', ql⟩, if_neg (by decide), e']
  by_cases qd : isDg (B p)
  · obtain ⟨e, pe, en, hl, hee⟩ := run_ex (P := fun j => isDg (B j)) (n := n) (n - p).toNat p (by omega)
    have pe' : p < e := by
      rcases (by omega : p < e ∨ e = p) with r | r
      · exact r
      · rcases hee with z | ⟨-, z⟩
        · omega
        · rw [r] at z; exact absurd qd z
    refine ⟨1002, nv B p (e - p), p, e, ⟨⟨qp, pn⟩, Or.inr ⟨by decide, by omega, en⟩⟩, fun M hk h4 => ?_, fun M hk h7 => ?_⟩
    · obtain ⟨m, e1, hf, g4⟩ := cgo M hk h4
      obtain ⟨f2, a4, a11, a12⟩ := cpre m g4
      have k2 := (hk.fr hf).fr f2
      obtain ⟨m', e', hf', b4, b10, b11, b12⟩ := c_num k2 (by omega) n1 a4 a11 pe en hl hee
      refine ⟨m', ?_, (hf.tr f2).tr hf', b4, b10, b11, by rw [b12, a12]⟩
      rw [e1]
      refine z_out_some ?_
      rw [zb_X10_cutOne_2, g4, z_lt_eq, z_lt_eq, a4, k2.2.2.1, if_pos pn', k2.2.1, la_4, if_pos ⟨by omega, by omega⟩, k2.2.2.2.1 p (by omega) pn', e_X10_isLetter, z_bI_mk, b2i_neg ql, if_pos rfl, k2.2.1, a4, la_4, if_pos ⟨by omega, by omega⟩, k2.2.2.2.1 p (by omega) pn', e_X10_isDigit, z_bI_mk, b2i_pos qd, if_neg (by decide), e', z_bV_mk]
    · obtain ⟨m, e1, hf, g7⟩ := rgo M hk h7
      obtain ⟨f2, a7, a10⟩ := rpre m g7
      have k2 := (hk.fr hf).fr f2
      have f3 : fU (z_wr m 84 10 p) (z_wr (z_wr (z_wr m 84 10 p) 84 8 3) 84 9 0) := (fU.wr (by omega)).tr (fU.wr (by omega))
      obtain ⟨m', e', hf', b7, b10, br⟩ := r_num (k2.fr f3) (p := p) (by omega) n1 (by rw [z_wr_ne (by omega), z_wr_ne (by omega)]; exact a7) (by rw [z_wr_ne (by omega), z_wr_ne (by omega)]; exact a10) (by rw [z_wr_ne (by omega), z_wr_eq]) (z_wr_eq _ _ _ _) pe en hl hee
      refine ⟨m', ?_, ((hf.tr f2).tr f3).tr hf', b7, b10, br⟩
      rw [e1]
      refine z_out_some ?_
      rw [zb_X12_take_2, g7, z_lt_eq, a7, k2.2.2.1, if_neg qn', r_small k2 (by omega) n1, z_bI_mk, b2i_neg (fun r => ql r.2), if_pos rfl, a7, r_dig k2 (by omega) n1, z_bI_mk, b2i_pos ⟨pn', qd⟩, if_neg (by decide), z_lt_eq, z_lt_eq, e']
  · have hs := sN_rng (B p) (nxB B n p)
    have hs2 : p + sN (B p) (nxB B n p) ≤ n := by
      rcases (by omega : sN (B p) (nxB B n p) = 1 ∨ sN (B p) (nxB B n p) = 2) with r | r
      · omega
      · have := sN_2 (B := B) (n := n) (p := p) r; omega
    refine ⟨sK (B p) (nxB B n p), 0, p, p + sN (B p) (nxB B n p), ⟨⟨qp, pn⟩, Or.inr ⟨sK_ne _ _, by omega, hs2⟩⟩, fun M hk h4 => ?_, fun M hk h7 => ?_⟩
    · obtain ⟨m, e1, hf, g4⟩ := cgo M hk h4
      obtain ⟨f2, a4, a11, a12⟩ := cpre m g4
      have k2 := (hk.fr hf).fr f2
      obtain ⟨m', e', hf', b4, b10, b11, b12⟩ := c_sign k2 (by omega) n1 pn' a4
      refine ⟨m', ?_, (hf.tr f2).tr hf', b4, b10, by rw [b11, a11], by rw [b12, a12]⟩
      rw [e1]
      refine z_out_some ?_
      rw [zb_X10_cutOne_2, g4, z_lt_eq, z_lt_eq, a4, k2.2.2.1, if_pos pn', k2.2.1, la_4, if_pos ⟨by omega, by omega⟩, k2.2.2.2.1 p (by omega) pn', e_X10_isLetter, z_bI_mk, b2i_neg ql, if_pos rfl, k2.2.1, a4, la_4, if_pos ⟨by omega, by omega⟩, k2.2.2.2.1 p (by omega) pn', e_X10_isDigit, z_bI_mk, b2i_neg qd, if_pos rfl, e', z_bV_mk]
    · obtain ⟨m, e1, hf, g7⟩ := rgo M hk h7
      obtain ⟨f2, a7, a10⟩ := rpre m g7
      have k2 := (hk.fr hf).fr f2
      obtain ⟨m', e', hf', b7, b10, br⟩ := r_sign k2 (by omega) n1 pn' a7 0
      refine ⟨m', ?_, (hf.tr f2).tr hf', b7, by rw [b10, a10], br⟩
      rw [e1]
      refine z_out_some ?_
      rw [zb_X12_take_2, g7, z_lt_eq, a7, k2.2.2.1, if_neg qn', r_small k2 (by omega) n1, z_bI_mk, b2i_neg (fun r => ql r.2), if_pos rfl, a7, r_dig k2 (by omega) n1, z_bI_mk, b2i_neg (fun r => qd r.2), if_pos rfl, e', z_bV_mk]
end
