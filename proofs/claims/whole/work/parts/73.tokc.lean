/-! ===== tokens: the class ===== -/
abbrev isL (y : Int) : Prop := 97 ≤ y ∧ y ≤ 122
abbrev isDg (y : Int) : Prop := 48 ≤ y ∧ y ≤ 57
theorem run_ex {P : Int → Prop} {n : Int} : ∀ (d : Nat) (p : Int), n - p = d → ∃ e, p ≤ e ∧ e ≤ n ∧ (∀ j, p ≤ j → j < e → P j) ∧ (e = n ∨ (e < n ∧ ¬ P e)) := by
  intro d
  induction d with
  | zero => intro p h; exact ⟨p, by omega, by omega, fun j a b => absurd b (by omega), Or.inl (by omega)⟩
  | succ d ih =>
    intro p h
    rcases Classical.em (P p) with q | q
    · obtain ⟨e, h1, h2, h3, h4⟩ := ih (p + 1) (by omega)
      refine ⟨e, by omega, h2, fun j a b => ?_, h4⟩
      rcases (by omega : j = p ∨ p + 1 ≤ j) with r | r
      · subst r; exact q
      · exact h3 j r b
    · exact ⟨p, by omega, by omega, fun j a b => absurd b (by omega), Or.inr ⟨by omega, q⟩⟩
abbrev kC (B : Int → Int) (n : Int) (M : zM) : Prop := M 2 0 = 3 ∧ M 2 1 = 4 ∧ M 2 3 = n ∧ (∀ j, 0 ≤ j → j < n → M 4 j = B j) ∧ wC M
abbrev fT (M m : zM) : Prop := ∀ a k, ¬ (a = 2 ∧ (k = 4 ∨ (10 ≤ k ∧ k ≤ 12))) → m a k = M a k
theorem fT.rf (M : zM) : fT M M := fun _ _ _ => rfl
theorem fT.tr {M m m2 : zM} (h : fT M m) (h2 : fT m m2) : fT M m2 := fun a k q => (h2 a k q).trans (h a k q)
theorem fT.wr {M : zM} {k v : Int} (h : k = 4 ∨ (10 ≤ k ∧ k ≤ 12)) : fT M (z_wr M 2 k v) := fun a j q => z_wr_ne (by omega)
theorem kC.fr {B : Int → Int} {n : Int} {M m : zM} (hf : fT M m) (h : kC B n M) : kC B n m := ⟨(hf _ _ (by omega)).trans h.1, (hf _ _ (by omega)).trans h.2.1, (hf _ _ (by omega)).trans h.2.2.1, fun j a b => (hf _ _ (by omega)).trans (h.2.2.2.1 j a b), fun j a b => (hf _ _ (by omega)).trans (h.2.2.2.2 j a b)⟩
theorem e_X10_isLetter (y : Int) (M : zM) : zm_X10_isLetter zLa [zI y] M = some ([zI (b2i (isL y))], M) := by
  rw [zr_X10_isLetter]
  refine z_out_some ?_
  rw [zb_X10_isLetter_0]
  repeat' split
  all_goals first | (rw [b2i_pos (by omega)]; done) | (rw [b2i_neg (by omega)]; done) | (exfalso; omega)
theorem e_X10_isDigit (y : Int) (M : zM) : zm_X10_isDigit zLa [zI y] M = some ([zI (b2i (isDg y))], M) := by
  rw [zr_X10_isDigit]
  refine z_out_some ?_
  rw [zb_X10_isDigit_0]
  repeat' split
  all_goals first | (rw [b2i_pos (by omega)]; done) | (rw [b2i_neg (by omega)]; done) | (exfalso; omega)
def inP (y k : Int) : Int := if k < 6 then z_shl (z_add (z_sub y 97) 1) (z_mul 5 (z_sub 5 k)) else 0
theorem e_X10_inPlace (y k : Int) (M : zM) : zm_X10_inPlace zLa [zI y, zI k] M = some ([zI (inP y k)], M) := by
  rw [zr_X10_inPlace]
  refine z_out_some ?_
  rw [zb_X10_inPlace_0]
  unfold inP
  by_cases q : k < 6
  · rw [if_pos q, if_pos q]
  · rw [if_neg q, if_neg q]
section
variable {B : Int → Int} {n p : Int} {M : zM}
theorem c_skip (h : kC B n M) {q : Int} (q0 : 0 ≤ q) (n1 : n ≤ 800) (hq : M 2 4 = q) (qp : q ≤ p) (pn : p ≤ n) (hb : ∀ j, q ≤ j → j < p → B j = 32 ∨ B j = 10) (he : p = n ∨ (p < n ∧ ¬ (B p = 32 ∨ B p = 10))) : ∃ m, z_ev (zcd_X10_cutOne zLa) 1 [zA 10 2] [] M = z_ev (zcd_X10_cutOne zLa) 2 [zA 10 2] [] m ∧ fT M m ∧ m 2 4 = p := by
  obtain ⟨m, e, hf, h4⟩ := lp_ex (fun _ (m : zM) => z_ev (zcd_X10_cutOne zLa) 1 [zA 10 2] [] m) (fun i m => fT M m ∧ m 2 4 = i) (n := p) q (fun i m hi0 hi1 ⟨hf, h4⟩ => by
    have hk := h.fr hf
    refine ⟨z_wr m 2 4 (i + 1), ?_, hf.tr (fT.wr (by omega)), z_wr_eq _ _ _ _⟩
    rw [zb_X10_cutOne_1, h4, hk.2.2.1, if_pos (by omega), hk.2.1, la_4, if_pos ⟨by omega, by omega⟩, hk.2.2.2.1 i (by omega) (by omega)]
    rcases hb i hi0 hi1 with r | r
    · rw [if_pos r, z_lt_eq, z_add_id (by omega) (by omega)]
    · rw [if_neg (by omega), if_pos ⟨by omega, by omega⟩, if_pos r, z_lt_eq, z_add_id (by omega) (by omega)]) (s := M) qp ⟨fT.rf M, hq⟩
  try dsimp only at e
  have hk := h.fr hf
  refine ⟨m, ?_, hf, h4⟩
  rw [e, zb_X10_cutOne_1, h4, hk.2.2.1]
  rcases he with r | ⟨r, r2⟩
  · rw [if_neg (by omega)]
  · rw [if_pos r, hk.2.1, la_4, if_pos ⟨by omega, by omega⟩, hk.2.2.2.1 p (by omega) (by omega), if_neg (by omega), if_pos ⟨by omega, by omega⟩, if_neg (by omega)]
/-- the packed letters -/
def cv (B : Int → Int) (p j : Int) : Int := fld (fun k a => z_or a (inP (B (p + k)) k)) 0 j
noncomputable def fi (v : Int) : Int := fst (fun i => wTb i = v) 27
noncomputable def wK (l v : Int) : Int := if l ≤ 6 then (if fi v = -1 then 1003 else 1100 + fi v) else 1001
theorem c_word (h : kC B n M) {e : Int} (p0 : 0 ≤ p) (n1 : n ≤ 800) (h4 : M 2 4 = p) (h11 : M 2 11 = 0) (pe : p ≤ e) (en : e ≤ n) (hl : ∀ j, p ≤ j → j < e → isL (B j)) (he : e = n ∨ (e < n ∧ ¬ isL (B e))) : ∃ m, zm_X10_cutWord zLa [zA 10 2] M = some ([], m) ∧ fT M m ∧ m 2 4 = e ∧ m 2 10 = wK (e - p) (cv B p (e - p)) ∧ m 2 11 = cv B p (e - p) ∧ m 2 12 = M 2 12 := by
  obtain ⟨m, ee, hf, g4, g11, g12⟩ := lp_ex (fun i (m : zM) => z_ev (zcd_X10_cutWord zLa) 1 [zA 10 2, zI (i - p), zU] [] m) (fun i m => fT M m ∧ m 2 4 = i ∧ m 2 11 = cv B p (i - p) ∧ m 2 12 = M 2 12) (n := e) p (fun i m hi0 hi1 ⟨hf, g4, g11, g12⟩ => by
    have hk := h.fr hf
    have hL := hl i hi0 hi1
    refine ⟨z_wr (z_wr m 2 11 (cv B p (i + 1 - p))) 2 4 (i + 1), ?_, (hf.tr (fT.wr (by omega))).tr (fT.wr (by omega)), z_wr_eq _ _ _ _, by rw [z_wr_ne (by omega), z_wr_eq], by rw [z_wr_ne (by omega), z_wr_ne (by omega)]; exact g12⟩
    have ec : cv B p (i + 1 - p) = z_or (cv B p (i - p)) (inP (B i) (i - p)) := by
      unfold cv
      rw [(by omega : i + 1 - p = i - p + 1), fld_s _ _ (by omega), (by omega : p + (i - p) = i)]
    rw [zb_X10_cutWord_1, g4, hk.2.2.1, if_pos (by omega), hk.2.1, la_4, if_pos ⟨by omega, by omega⟩, hk.2.2.2.1 i (by omega) (by omega), e_X10_isLetter, z_bI_mk, b2i_pos hL, if_neg (by decide), hk.2.1, g4, la_4, if_pos ⟨by omega, by omega⟩, hk.2.2.2.1 i (by omega) (by omega), e_X10_inPlace, z_bI_mk, g11, ← ec, z_lt_eq, z_wr_ne (by omega), g4, z_add_id (by omega) (by omega), z_lt_eq, z_w32_id (by omega) (by omega), (by omega : i - p + 1 = i + 1 - p)]) (s := M) pe ⟨fT.rf M, h4, by rw [h11, Int.sub_self]; rfl, rfl⟩
  try dsimp only at ee
  have hk := h.fr hf
  have ef : zm_X11_find zLa [zA 13 3, zI 27, zI (cv B p (e - p))] m = some ([zI (fi (cv B p (e - p)))], m) := by
    rw [e_find (by decide) (by decide) (by decide)]
    unfold fi
    rw [fst_congr (p := fun i => m 3 i = cv B p (e - p)) (q := fun i => wTb i = cv B p (e - p)) (fun k a b => by rw [hk.2.2.2.2 k a b])]
  have fs := fst_spec (fun i => wTb i = cv B p (e - p)) (n := 27) (by decide)
  refine ⟨z_wr m 2 10 (wK (e - p) (cv B p (e - p))), ?_, hf.tr (fT.wr (by omega)), by rw [z_wr_ne (by omega)]; exact g4, z_wr_eq _ _ _ _, by rw [z_wr_ne (by omega)]; exact g11, by rw [z_wr_ne (by omega)]; exact g12⟩
  rw [zr_X10_cutWord]
  refine z_out_some ?_
  rw [Int.sub_self] at ee
  rw [zb_X10_cutWord_0, ee]
  have last : z_ev (zcd_X10_cutWord zLa) 2 [zA 10 2, zI (e - p), zU] [] m = some (.inl ([], z_wr m 2 10 (wK (e - p) (cv B p (e - p))))) := by
    rw [zb_X10_cutWord_2, hk.1, g11, ef, z_bI_mk]
    unfold wK
    by_cases q1 : e - p ≤ 6
    · rw [if_pos q1, if_pos q1]
      by_cases q2 : fi (cv B p (e - p)) = -1
      · rw [if_pos q2, if_pos q2, z_lt_eq]
      · have : 0 ≤ fi (cv B p (e - p)) ∧ fi (cv B p (e - p)) < 27 := by
          unfold fi at q2 ⊢
          rcases fs with ⟨a, -⟩ | ⟨a, b, -⟩
          · exact absurd a q2
          · exact ⟨a, b⟩
        rw [if_neg q2, if_neg q2, z_add_id (by omega) (by omega), z_lt_eq]
    · rw [if_neg q1, if_neg q1, z_lt_eq]
  rw [zb_X10_cutWord_1, g4, hk.2.2.1]
  rcases he with r | ⟨r, r2⟩
  · rw [if_neg (by omega)]; exact last
  · rw [if_pos r, hk.2.1, la_4, if_pos ⟨by omega, by omega⟩, hk.2.2.2.1 e (by omega) (by omega), e_X10_isLetter, z_bI_mk, b2i_neg r2, if_pos rfl]; exact last
/-- a number's value, one above the most at the most -/
def nv (B : Int → Int) (p j : Int) : Int := fld (fun k a => if 1000 < a * 10 + B (p + k) - 48 then 1000 else a * 10 + B (p + k) - 48) 0 j
theorem nv_rng {e : Int} (hl : ∀ j, p ≤ j → j < e → isDg (B j)) : ∀ j, 0 ≤ j → p + j ≤ e → 0 ≤ nv B p j ∧ nv B p j ≤ 1000 := by
  refine sm_ind (p := fun j => p + j ≤ e → 0 ≤ nv B p j ∧ nv B p j ≤ 1000) (fun _ => ⟨by show (0:Int) ≤ 0; decide, by show (0:Int) ≤ 1000; decide⟩) (fun j hj ih hp => ?_)
  have := ih (by omega)
  have hd := hl (p + j) (by omega) (by omega)
  unfold nv at this ⊢
  rw [fld_s _ _ hj]
  split <;> omega
theorem c_num (h : kC B n M) {e : Int} (p0 : 0 ≤ p) (n1 : n ≤ 800) (h4 : M 2 4 = p) (h11 : M 2 11 = 0) (pe : p ≤ e) (en : e ≤ n) (hl : ∀ j, p ≤ j → j < e → isDg (B j)) (he : e = n ∨ (e < n ∧ ¬ isDg (B e))) : ∃ m, zm_X10_cutNumber zLa [zA 10 2] M = some ([], m) ∧ fT M m ∧ m 2 4 = e ∧ m 2 10 = 1002 ∧ m 2 11 = nv B p (e - p) ∧ m 2 12 = M 2 12 := by
  have hrg := nv_rng (B := B) (p := p) hl
  obtain ⟨m, ee, hf, g4, g11, g12⟩ := lp_ex (fun _ (m : zM) => z_ev (zcd_X10_cutNumber zLa) 1 [zA 10 2] [] m) (fun i m => fT M m ∧ m 2 4 = i ∧ m 2 11 = nv B p (i - p) ∧ m 2 12 = M 2 12) (n := e) p (fun i m hi0 hi1 ⟨hf, g4, g11, g12⟩ => by
    have hk := h.fr hf
    have hL := hl i hi0 hi1
    have hr := hrg (i - p) (by omega) (by omega)
    refine ⟨z_wr (z_wr m 2 11 (nv B p (i + 1 - p))) 2 4 (i + 1), ?_, (hf.tr (fT.wr (by omega))).tr (fT.wr (by omega)), z_wr_eq _ _ _ _, by rw [z_wr_ne (by omega), z_wr_eq], by rw [z_wr_ne (by omega), z_wr_ne (by omega)]; exact g12⟩
    have ec : z_min 1000 (nv B p (i - p) * 10 + B i - 48) = nv B p (i + 1 - p) := by
      unfold nv
      rw [(by omega : i + 1 - p = i - p + 1), fld_s _ _ (by omega), (by omega : p + (i - p) = i)]
      unfold z_min
      (repeat' split) <;> omega
    rw [zb_X10_cutNumber_1, g4, hk.2.2.1, if_pos (by omega), hk.2.1, la_4, if_pos ⟨by omega, by omega⟩, hk.2.2.2.1 i (by omega) (by omega), e_X10_isDigit, z_bI_mk, b2i_pos hL, if_neg (by decide), hk.2.1, g4, la_4, if_pos ⟨by omega, by omega⟩, hk.2.2.2.1 i (by omega) (by omega), g11, z_mul_id (by omega) (by omega), z_add_id (by omega) (by omega), z_sub_id (by omega) (by omega), ec, z_lt_eq, z_wr_ne (by omega), g4, z_add_id (by omega) (by omega), z_lt_eq]) (s := M) pe ⟨fT.rf M, h4, by rw [h11, Int.sub_self]; rfl, rfl⟩
  try dsimp only at ee
  have hk := h.fr hf
  refine ⟨z_wr m 2 10 1002, ?_, hf.tr (fT.wr (by omega)), by rw [z_wr_ne (by omega)]; exact g4, z_wr_eq _ _ _ _, by rw [z_wr_ne (by omega)]; exact g11, by rw [z_wr_ne (by omega)]; exact g12⟩
  rw [zr_X10_cutNumber]
  refine z_out_some ?_
  rw [zb_X10_cutNumber_0, ee, zb_X10_cutNumber_1, g4, hk.2.2.1]
  rcases he with r | ⟨r, r2⟩
  · rw [if_neg (by omega), z_lt_eq]
  · rw [if_pos r, hk.2.1, la_4, if_pos ⟨by omega, by omega⟩, hk.2.2.2.1 e (by omega) (by omega), e_X10_isDigit, z_bI_mk, b2i_neg r2, if_pos rfl, z_lt_eq]
/-- a sign by its byte and the next -/
def sK (b d : Int) : Int := if b = 40 then 1011 else if b = 41 then 1012 else if b = 42 then 1015 else if b = 43 then 1013 else if b = 45 then 1014 else if b = 47 then 1016 else if b = 59 then 1010 else if b = 60 then (if d = 61 then 1018 else if d = 62 then 1020 else 1017) else if b = 61 then 1019 else if b = 62 then (if d = 61 then 1021 else 1022) else 1001
def sN (b d : Int) : Int := if b = 60 then (if d = 61 then 2 else if d = 62 then 2 else 1) else if b = 62 then (if d = 61 then 2 else 1) else 1
def nxB (B : Int → Int) (n p : Int) : Int := if p + 1 < n then B (p + 1) else 0
theorem c_on (h : kC B n M) (p0 : 0 ≤ p) (n1 : n ≤ 800) (h4 : M 2 4 = p + 1) {y : Int} (hy : y ≠ 0) : zm_X10_goesOn zLa [zA 10 2, zI y] M = if nxB B n p = y then some ([zI 1], z_wr M 2 4 (p + 2)) else some ([zI 0], M) := by
  rw [zr_X10_goesOn, zb_X10_goesOn_0, h4, h.2.2.1]
  unfold nxB
  by_cases q : p + 1 < n
  · rw [if_pos q, if_pos q, h.2.1, la_4, if_pos ⟨by omega, by omega⟩, h.2.2.2.1 _ (by omega) q]
    by_cases q2 : B (p + 1) = y
    · rw [if_pos q2, if_pos q2, z_lt_eq, z_add_id (by omega) (by omega), (by omega : p + 1 + 1 = p + 2)]; rfl
    · rw [if_neg q2, if_neg q2]; rfl
  · rw [if_neg q, if_neg q, if_neg (fun r => hy r.symm)]; rfl
theorem c_sign (h : kC B n M) (p0 : 0 ≤ p) (n1 : n ≤ 800) (pn : p < n) (h4 : M 2 4 = p) : ∃ m, zm_X10_cutSign zLa [zA 10 2] M = some ([], m) ∧ fT M m ∧ m 2 4 = p + sN (B p) (nxB B n p) ∧ m 2 10 = sK (B p) (nxB B n p) ∧ m 2 11 = M 2 11 ∧ m 2 12 = M 2 12 := by
  have f1 : fT M (z_wr M 2 4 (p + 1)) := fT.wr (by omega)
  have k1 := h.fr f1
  have g61 := c_on (p := p) k1 p0 n1 (z_wr_eq _ _ _ _) (y := 61) (by decide)
  have g62 := c_on (p := p) k1 p0 n1 (z_wr_eq _ _ _ _) (y := 62) (by decide)
  rw [zr_X10_cutSign, zb_X10_cutSign_0, h4, h.2.1, la_4, if_pos ⟨by omega, by omega⟩, z_add_id (by omega) (by omega), h.2.2.2.1 p p0 pn, z_lt_eq, g61]
  have one : ∀ K : Int, ∃ m, z_out (some (.inl (([] : List zV), z_wr (z_wr M 2 4 (p + 1)) 2 10 K))) = some ([], m) ∧ fT M m ∧ m 2 4 = p + 1 ∧ m 2 10 = K ∧ m 2 11 = M 2 11 ∧ m 2 12 = M 2 12 := fun K => ⟨_, rfl, f1.tr (fT.wr (by omega)), by rw [z_wr_ne (by omega), z_wr_eq], z_wr_eq _ _ _ _, by rw [z_wr_ne (by omega), z_wr_ne (by omega)], by rw [z_wr_ne (by omega), z_wr_ne (by omega)]⟩
  have two : ∀ K : Int, ∃ m, z_out (some (.inl (([] : List zV), z_wr (z_wr (z_wr M 2 4 (p + 1)) 2 4 (p + 2)) 2 10 K))) = some ([], m) ∧ fT M m ∧ m 2 4 = p + 2 ∧ m 2 10 = K ∧ m 2 11 = M 2 11 ∧ m 2 12 = M 2 12 := fun K => ⟨_, rfl, (f1.tr (fT.wr (by omega))).tr (fT.wr (by omega)), by rw [z_wr_ne (by omega), z_wr_eq], z_wr_eq _ _ _ _, by rw [z_wr_ne (by omega), z_wr_ne (by omega), z_wr_ne (by omega)], by rw [z_wr_ne (by omega), z_wr_ne (by omega), z_wr_ne (by omega)]⟩
  generalize nxB B n p = d at *
  generalize B p = b at *
  rcases (by omega : b = 40 ∨ b = 41 ∨ b = 42 ∨ b = 43 ∨ b = 44 ∨ b = 45 ∨ b = 46 ∨ b = 47 ∨ b = 48 ∨ b = 49 ∨ b = 50 ∨ b = 51 ∨ b = 52 ∨ b = 53 ∨ b = 54 ∨ b = 55 ∨ b = 56 ∨ b = 57 ∨ b = 58 ∨ b = 59 ∨ b = 61 ∨ b = 60 ∨ b = 62 ∨ (b < 40 ∨ 62 < b)) with r | r | r | r | r | r | r | r | r | r | r | r | r | r | r | r | r | r | r | r | r | r | r | r
  · subst r; exact one 1011
  · subst r; exact one 1012
  · subst r; exact one 1015
  · subst r; exact one 1013
  · subst r; exact one 1001
  · subst r; exact one 1014
  · subst r; exact one 1001
  · subst r; exact one 1016
  · subst r; exact one 1001
  · subst r; exact one 1001
  · subst r; exact one 1001
  · subst r; exact one 1001
  · subst r; exact one 1001
  · subst r; exact one 1001
  · subst r; exact one 1001
  · subst r; exact one 1001
  · subst r; exact one 1001
  · subst r; exact one 1001
  · subst r; exact one 1001
  · subst r; exact one 1010
  · subst r; exact one 1019
  · subst r
    by_cases q1 : d = 61
    · subst q1; exact two 1018
    rw [if_neg q1]
    have e2 : ∀ k : Int → zM → Option zRs, z_bI (some ([zI 0], z_wr M 2 4 (p + 1))) k = k 0 (z_wr M 2 4 (p + 1)) := fun k => rfl
    simp only [e2, g62]
    by_cases q2 : d = 62
    · subst q2; exact two 1020
    · rw [if_neg q2]
      have e3 : sK 60 d = 1017 := by unfold sK; rw [if_neg (by decide), if_neg (by decide), if_neg (by decide), if_neg (by decide), if_neg (by decide), if_neg (by decide), if_neg (by decide), if_pos rfl, if_neg q1, if_neg q2]
      have e4 : sN 60 d = 1 := by unfold sN; rw [if_pos rfl, if_neg q1, if_neg q2]
      rw [e3, e4]
      exact one 1017
  · subst r
    by_cases q1 : d = 61
    · subst q1; exact two 1021
    · rw [if_neg q1]
      have e3 : sK 62 d = 1022 := by unfold sK; rw [if_neg (by decide), if_neg (by decide), if_neg (by decide), if_neg (by decide), if_neg (by decide), if_neg (by decide), if_neg (by decide), if_neg (by decide), if_neg (by decide), if_pos rfl, if_neg q1]
      have e4 : sN 62 d = 1 := by unfold sN; rw [if_neg (by decide), if_pos rfl, if_neg q1]
      rw [e3, e4]
      exact one 1022
  · have e3 : sK b d = 1001 := by unfold sK; rw [if_neg (by omega), if_neg (by omega), if_neg (by omega), if_neg (by omega), if_neg (by omega), if_neg (by omega), if_neg (by omega), if_neg (by omega), if_neg (by omega), if_neg (by omega)]
    have e4 : sN b d = 1 := by unfold sN; rw [if_neg (by omega), if_neg (by omega)]
    rw [e3, e4]
    iterate 23 rw [if_neg (by omega)]
    exact one 1001
end
