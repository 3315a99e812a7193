section
/-! ===== reading an E: signs that have all that they work on ===== -/
abbrev hFe (f e : Int) : Prop := (f = 25 ∧ e = 0) ∨ (f = 27 ∧ e = 1) ∨ (f = 29 ∧ e = 2)
def FA (M : zM) (W : List Int) (wt nm : Int) : Prop := (M 1 6 = W.length ∧ M 1 7 = nOp W ∧ M 1 8 = wt ∧ M 1 9 = nm) ∧ stk (fun y => y) (M 41) W
def FB (F : Int) (M : zM) (W s : List Int) (i wt nm kn : Int) : Prop := (M 84 52 = W.length ∧ M 84 54 = nOp W ∧ M 84 56 = wt ∧ M 84 57 = nm ∧ M 84 53 = s.length ∧ M 84 20 = F + i ∧ M 84 55 = kn) ∧ stk kK (M 110) W ∧ stk (fun y => F + y) (M 111) s
def FP (F : Int) (W s : List Int) (i wt kn : Int) : Prop := (F + i + (W.length - nOp W) = kn ∧ kn ≤ 64 ∧ 0 ≤ F ∧ 0 ≤ i ∧ nOp W ≤ 8 ∧ (s.length : Int) = nBi W + (1 - wt) ∧ (wt = 0 ∨ wt = 1)) ∧ (wt = 0 → ∃ r, s = (i - 1) :: r) ∧ (∀ y ∈ W, isSg y)
def FI (B K A P Q : Int → Int) (n N c f F : Int) (U Mc0 Mr0 : zM) (p : Int) (Mc Mr : zM) (W s : List Int) (i wt nm : Int) : Prop := ∃ U' kn, PC N K A P Mc c U' p ∧ PW B K A P Q n Mr p ∧ (∀ o k, ¬ (o = 0 ∧ k = 8) → o ≠ f → o ≠ f + 1 → U' o k = U o k) ∧ U' f 0 = i ∧ U' 0 8 = kn ∧ FA Mc W wt nm ∧ FB F Mr W s i wt nm kn ∧ FP F W s i wt kn ∧ wfS (fun j => Mr 107 (64 + j)) (fun j => Mr 108 (64 + j)) (fun j => Mr 109 (64 + j)) (U' (f + 1)) F i.toNat 0 [] s ∧ gC c Mc0 Mc ∧ gW F Mr0 Mr
section
variable {B K A P Q : Int → Int} {n N : Int} {Mc Mr Mc0 Mr0 U U' : zM} {c p f e F : Int}
theorem len_c (y : Int) (r : List Int) : ((y :: r).length : Int) = r.length + 1 := by rw [List.length_cons]; rfl
theorem f_lay (hf : hFe f e) (h : PC N K A P Mc c U p) : Mc (c + f) 1 = c + f + 1 ∧ zLa (c + f + 1) = 64 ∧ (∀ k, Mc (c + f) k = U f k) := by
  rcases hf with ⟨r, -⟩ | ⟨r, -⟩ | ⟨r, -⟩
  · subst r
    exact ⟨by rw [lc_25_1 h.y]; omega, by rw [(by omega : c + 25 + 1 = c + 26)]; exact la_c26 h.1, fun k => cv_25 h.v k⟩
  · subst r
    exact ⟨by rw [lc_27_1 h.y]; omega, by rw [(by omega : c + 27 + 1 = c + 28)]; exact la_c28 h.1, fun k => cv_27 h.v k⟩
  · subst r
    exact ⟨by rw [lc_29_1 h.y]; omega, by rw [(by omega : c + 29 + 1 = c + 30)]; exact la_c30 h.1, fun k => cv_29 h.v k⟩
theorem c_fadd (hf : hFe f e) (h : PC N K A P Mc c U p) {i : Int} (hi : U f 0 = i) (i0 : 0 ≤ i) (i1 : i < 64) (y : Int) : zm_X2_add zLa [zA 2 (c + f), zI y] Mc = some ([], z_wr (z_wr Mc (c + f + 1) i y) (c + f) 0 (i + 1)) ∧ PC N K A P (z_wr (z_wr Mc (c + f + 1) i y) (c + f) 0 (i + 1)) c (z_wr (z_wr U (f + 1) i y) f 0 (i + 1)) p := by
  obtain ⟨l1, l2, l3⟩ := f_lay hf h
  have e0 : Mc (c + f) 0 = i := (l3 0).trans hi
  have hfr : f = 25 ∨ f = 27 ∨ f = 29 := by unfold hFe at hf; omega
  refine ⟨?_, (h.wc (o := f + 1) (by omega) (by omega) (by unfold pC; omega)).wc rfl (by omega) (by unfold pC; omega)⟩
  rw [zr_X2_add]
  refine z_out_some ?_
  rw [zb_X2_add_0, e0, if_pos i1, l1, l2, if_pos ⟨i0, i1⟩, z_lt_eq, z_wr_ne (M := Mc) (by omega), e0, z_add_id (by omega) (by omega), z_lt_eq]
/-- the reference's new KNOT -/
theorem r_grow (hP : PW B K A P Q n Mr p) {i : Int} (h20 : Mr 84 20 = F + i) (F0 : 0 ≤ F) (i0 : 0 ≤ i) (i1 : F + i < 64) {s : List Int} (h53 : Mr 84 53 = s.length) (hl : (s.length : Int) < 96) (hs : stk (fun y => F + y) (Mr 111) s) (k a b : Int) : ∃ m, zm_X12_grown zLa [zA 12 84, zI k, zI a, zI b] Mr = some ([], m) ∧ PW B K A P Q n m p ∧ m 84 53 = s.length + 1 ∧ m 84 20 = F + (i + 1) ∧ stk (fun y => F + y) (m 111) (i :: s) ∧ m 107 (64 + (F + i)) = k ∧ m 108 (64 + (F + i)) = a ∧ m 109 (64 + (F + i)) = b ∧ ∀ x j, ¬ (107 ≤ x ∧ x ≤ 109 ∧ j = 64 + (F + i)) → x ≠ 111 → ¬ (x = 84 ∧ (j = 53 ∨ j = 20)) → m x j = Mr x j := by
  have h1 := hP.wr (a := 107) (k := 64 + (F + i)) (v := k) (by omega)
  have h2 := h1.wr (a := 108) (k := 64 + (F + i)) (v := a) (by omega)
  have h3 := h2.wr (a := 109) (k := 64 + (F + i)) (v := b) (by omega)
  have h4 := h3.wr (a := 111) (k := s.length) (v := F + i) (by omega)
  have h5 := h4.wr (a := 84) (k := 53) (v := s.length + 1) (by omega)
  have h6 := h5.wr (a := 84) (k := 20) (v := F + i + 1) (by omega)
  have k1 : z_wr Mr 107 (64 + (F + i)) k 84 20 = F + i := (z_wr_ne (by omega)).trans h20
  have k2 : z_wr (z_wr Mr 107 (64 + (F + i)) k) 108 (64 + (F + i)) a 84 20 = F + i := (z_wr_ne (by omega)).trans k1
  have k3 : z_wr (z_wr (z_wr Mr 107 (64 + (F + i)) k) 108 (64 + (F + i)) a) 109 (64 + (F + i)) b 84 20 = F + i := (z_wr_ne (by omega)).trans k2
  have g3 : z_wr (z_wr (z_wr Mr 107 (64 + (F + i)) k) 108 (64 + (F + i)) a) 109 (64 + (F + i)) b 84 53 = s.length := by rw [z_wr_ne (by omega), z_wr_ne (by omega), z_wr_ne (by omega)]; exact h53
  refine ⟨_, ?_, h6, ?_, ?_, ?_, ?_, ?_, ?_, ?_⟩
  · rw [zr_X12_grown]
    refine z_out_some ?_
    rw [zb_X12_grown_0, h20, z_add_id (a := 64) (b := F + i) (by omega) (by omega), lr_41 hP.1, la_107, if_pos ⟨by omega, by omega⟩, z_lt_eq, k1, z_add_id (a := 64) (b := F + i) (by omega) (by omega), lr_42 h1.1, la_108, if_pos ⟨by omega, by omega⟩, z_lt_eq, k2, z_add_id (a := 64) (b := F + i) (by omega) (by omega), lr_43 h2.1, la_109, if_pos ⟨by omega, by omega⟩, z_lt_eq, g3, lr_51 h3.1, la_111, if_pos ⟨by omega, by omega⟩, k3, z_lt_eq, z_wr_ne (a := 111) (b := 84) (by omega), g3, z_add_id (by omega) (by omega), z_lt_eq, z_wr_ne (a := 84) (b := 84) (i := 53) (j := 20) (by omega), z_wr_ne (a := 111) (b := 84) (by omega), k3, z_add_id (by omega) (by omega), z_lt_eq]
  · rw [z_wr_ne (by omega), z_wr_eq]
  · rw [z_wr_eq]; omega
  · refine ⟨?_, stk_cg s (fun j a b => ?_) hs⟩
    · show z_wr (z_wr (z_wr _ 111 _ _) 84 53 _) 84 20 _ 111 _ = _
      rw [z_wr_ne (by omega), z_wr_ne (by omega), z_wr_eq]
    · rw [z_wr_ne (by omega), z_wr_ne (by omega), z_wr_ne (by omega), z_wr_ne (by omega), z_wr_ne (by omega), z_wr_ne (by omega)]
  · rw [z_wr_ne (by omega), z_wr_ne (by omega), z_wr_ne (by omega), z_wr_ne (by omega), z_wr_ne (by omega), z_wr_eq]
  · rw [z_wr_ne (by omega), z_wr_ne (by omega), z_wr_ne (by omega), z_wr_ne (by omega), z_wr_eq]
  · rw [z_wr_ne (by omega), z_wr_ne (by omega), z_wr_ne (by omega), z_wr_eq]
  · intro x j q1 q2 q3
    rw [z_wr_ne (by omega), z_wr_ne (by omega), z_wr_ne (by omega), z_wr_ne (by omega), z_wr_ne (by omega), z_wr_ne (by omega)]
theorem r_drop (hR : LyR Mr) {a : Int} {s : List Int} (h53 : Mr 84 53 = s.length + 1) (hl : (s.length : Int) < 96) (h1 : Mr 111 s.length = F + a) : zm_X12_drop zLa [zA 12 84] Mr = some ([zI (F + a)], z_wr Mr 84 53 s.length) := by
  rw [zr_X12_drop]
  refine z_out_some ?_
  rw [zb_X12_drop_0, h53, z_sub_id (by omega) (by omega), (by omega : (s.length : Int) + 1 - 1 = s.length), z_lt_eq, z_wr_eq, z_wr_ne (by omega), lr_51 hR, la_111, if_pos ⟨by omega, by omega⟩, z_wr_ne (by omega), h1]
/-- one sign of the reference has what it works on -/
theorem r_bind1 {r1 : Int} (hP : PW B K A P Q n Mr p) {y i nm kn : Int} {r s : List Int} (hb : FB F Mr (y :: r) s i 0 nm kn) (hp : FP F (y :: r) s i 0 kn) (hq : ¬ rnk y < r1) (hr1 : 1 ≤ r1) (w2 w3 w4 : zV) : ∃ m t w2' w3' w4', z_ev (zcd_X12_bind zLa) 1 [zA 12 84, zI r1, w2, w3, w4] [] Mr = z_ev (zcd_X12_bind zLa) 1 [zA 12 84, zI r1, w2', w3', w4'] [] m ∧ PW B K A P Q n m p ∧ FB F m r (i :: t) (i + 1) 0 nm kn ∧ ((i :: t).length : Int) = nBi r + 1 ∧ (∀ cd : Int → Int, cd i = y → nodeR (fun j => m 107 (64 + j)) (fun j => m 108 (64 + j)) (fun j => m 109 (64 + j)) cd F i s (i :: t)) ∧ gW F Mr m ∧ ∀ x j, 107 ≤ x → x ≤ 109 → j ≠ 64 + (F + i) → m x j = Mr x j := by
  obtain ⟨⟨b1, b2, b3, b4, b5, b6, b7⟩, ⟨bw0, bw⟩, bs⟩ := hb
  obtain ⟨⟨p1, p2, p3, p4, p5, p6, -⟩, p8, p9⟩ := hp
  have hsg : isSg y := p9 y List.mem_cons_self
  have ny : y ≠ 1011 := fun q => hq (by rw [q]; show (0 : Int) < r1; omega)
  have hlr := len_c y r
  have ho : oneO y = 0 := by unfold oneO; rw [if_neg ny]
  have no : nOp (y :: r) = nOp r := by show oneO y + nOp r = nOp r; omega
  have nb : nBi (y :: r) = oneB y + nBi r := rfl
  have rg1 := nOp_rng r
  have rg2 := nBi_rng r
  have rg3 := oneB_rng y
  rw [no] at p1 p5 b2
  rw [hlr] at p1 b1
  rw [nb] at p6
  have i1 : F + i < 64 := by omega
  have hM3 := hP.wr (a := 84) (k := 52) (v := r.length) (by omega)
  have e52 : z_wr Mr 84 52 r.length 84 52 = r.length := z_wr_eq _ _ _ _
  have e110 : z_wr Mr 84 52 r.length 110 r.length = kK y := (z_wr_ne (by omega)).trans bw0
  have e53 : z_wr Mr 84 52 r.length 84 53 = s.length := (z_wr_ne (by omega)).trans b5
  have e20 : z_wr Mr 84 52 r.length 84 20 = F + i := (z_wr_ne (by omega)).trans b6
  have s3 : stk (fun y => F + y) (z_wr Mr 84 52 r.length 111) s := stk_cg s (fun j _ _ => z_wr_ne (by omega)) bs
  have start : z_ev (zcd_X12_bind zLa) 1 [zA 12 84, zI r1, w2, w3, w4] [] Mr = if kK y = 2 then z_bI (zm_X12_drop zLa [zA 12 84] (z_wr Mr 84 52 r.length)) (fun r5 M4 => z_bV (zm_X12_grown zLa [zA 12 84, zI (kK y), zI r5, zI (-1:Int)] M4) (fun M6 => z_ev (zcd_X12_bind zLa) 1 [zA 12 84, zI r1, zI (kK y), zI (-1:Int), zI r5] [] M6)) else z_bI (zm_X12_drop zLa [zA 12 84] (z_wr Mr 84 52 r.length)) (fun r8 M7 => z_bI (zm_X12_drop zLa [zA 12 84] M7) (fun r10 M9 => z_bV (zm_X12_grown zLa [zA 12 84, zI (kK y), zI r10, zI r8] M9) (fun M11 => z_ev (zcd_X12_bind zLa) 1 [zA 12 84, zI r1, zI (kK y), zI r8, zI r10] [] M11))) := by
    rw [zb_X12_bind_1, b1, if_neg (by omega), z_sub_id (by omega) (by omega), (by omega : (r.length : Int) + 1 - 1 = r.length), lr_50 hP.1, la_110, if_pos ⟨by omega, by omega⟩, bw0, r_weight, z_bI_mk, wgt_kK hsg, if_neg hq, b1, z_sub_id (by omega) (by omega), (by omega : (r.length : Int) + 1 - 1 = r.length), z_lt_eq, e52, lr_50 hM3.1, la_110, if_pos ⟨by omega, by omega⟩, e110]
  have fin : ∀ (m0 : zM) (t : List Int) (a b : Int), PW B K A P Q n m0 p → m0 84 53 = t.length → (t.length : Int) = nBi r → stk (fun y => F + y) (m0 111) t → (∀ x j, ¬ (x = 84 ∧ (j = 53 ∨ j = 52)) → m0 x j = Mr x j) → m0 84 52 = r.length → ∃ m, zm_X12_grown zLa [zA 12 84, zI (kK y), zI a, zI b] m0 = some ([], m) ∧ PW B K A P Q n m p ∧ FB F m r (i :: t) (i + 1) 0 nm kn ∧ m 107 (64 + (F + i)) = kK y ∧ m 108 (64 + (F + i)) = a ∧ m 109 (64 + (F + i)) = b ∧ gW F Mr m ∧ ∀ x j, 107 ≤ x → x ≤ 109 → j ≠ 64 + (F + i) → m x j = Mr x j := by
    intro m0 t a b hm0 h53 htl hst hfr h52
    obtain ⟨m, e, hm, g1, g2, g3, g4, g5, g6, g7⟩ := r_grow hm0 ((hfr _ _ (by omega)).trans b6) p3 p4 i1 h53 (by omega) hst (kK y) a b
    refine ⟨m, e, hm, ⟨⟨?_, ?_, ?_, ?_, ?_, g2, ?_⟩, ?_, g3⟩, g4, g5, g6, ?_, ?_⟩
    · rw [g7 _ _ (by omega) (by omega) (by omega)]; exact h52
    · rw [g7 _ _ (by omega) (by omega) (by omega), hfr _ _ (by omega)]; exact b2
    · rw [g7 _ _ (by omega) (by omega) (by omega), hfr _ _ (by omega)]; exact b3
    · rw [g7 _ _ (by omega) (by omega) (by omega), hfr _ _ (by omega)]; exact b4
    · rw [g1, len_c]
    · rw [g7 _ _ (by omega) (by omega) (by omega), hfr _ _ (by omega)]; exact b7
    · exact stk_cg r (fun j _ _ => by rw [g7 _ _ (by omega) (by omega) (by omega), hfr _ _ (by omega)]) bw
    · intro x j q
      unfold wW at q
      rw [g7 _ _ (by omega) (by omega) (by omega), hfr _ _ (by omega)]
    · intro x j x0 x1 hj
      rw [g7 _ _ (by omega) (by omega) (by omega), hfr _ _ (by omega)]
  by_cases q2 : y = 1116
  · obtain ⟨t, rfl⟩ := p8 rfl
    have hlt := len_c (i - 1) t
    have o1 : oneB y = 0 := by unfold oneB; rw [if_neg ny, if_pos q2]
    rw [hlt] at p6 b5 e53
    have hd := r_drop (F := F) hM3.1 (a := i - 1) (s := t) e53 (by omega) s3.1
    obtain ⟨m, e, hm, h1, h2, h3, h4, h5, h6⟩ := fin (z_wr (z_wr Mr 84 52 r.length) 84 53 t.length) t (F + (i - 1)) (-1) (hM3.wr (by omega)) (z_wr_eq _ _ _ _) (by omega) (stk_cg t (fun j _ _ => z_wr_ne (by omega)) s3.2) (fun x j q => by rw [z_wr_ne (by omega), z_wr_ne (by omega)]) (by rw [z_wr_ne (by omega)]; exact e52)
    refine ⟨m, t, zI (kK y), zI (-1), zI (F + (i - 1)), ?_, hm, h1, by rw [len_c]; omega, fun cd hcd => ?_, h5, h6⟩
    · rw [start, if_pos ((kK_2 hsg).2 q2), hd, z_bI_mk, e, z_bV_mk]
    · exact Or.inr (Or.inr (Or.inl ⟨hcd.trans q2, h2.trans ((kK_2 hsg).2 q2), i - 1, t, rfl, h3, rfl⟩))
  · obtain ⟨t0, e0⟩ := p8 rfl
    have o1 : oneB y = 1 := by unfold oneB; rw [if_neg ny, if_neg q2]
    subst e0
    have hlt := len_c (i - 1) t0
    rw [hlt] at p6 b5 e53
    cases t0 with
    | nil =>
      exfalso
      have : (([] : List Int).length : Int) = 0 := rfl
      omega
    | cons a t =>
      have hla := len_c a t
      have hd := r_drop (F := F) hM3.1 (a := i - 1) (s := a :: t) e53 (by omega) s3.1
      have hM4 := hM3.wr (a := 84) (k := 53) (v := ((a :: t).length : Int)) (by omega)
      have hd2 := r_drop (F := F) hM4.1 (a := a) (s := t) ((z_wr_eq _ _ _ _).trans hla) (by omega) ((z_wr_ne (by omega)).trans s3.2.1)
      obtain ⟨m, e, hm, h1, h2, h3, h4, h5, h6⟩ := fin (z_wr (z_wr (z_wr Mr 84 52 r.length) 84 53 ((a :: t).length : Int)) 84 53 t.length) t (F + a) (F + (i - 1)) (hM4.wr (by omega)) (z_wr_eq _ _ _ _) (by omega) (stk_cg t (fun j _ _ => by rw [z_wr_ne (by omega), z_wr_ne (by omega)]) s3.2.2) (fun x j q => by rw [z_wr_ne (by omega), z_wr_ne (by omega), z_wr_ne (by omega)]) (by rw [z_wr_ne (by omega), z_wr_ne (by omega)]; exact e52)
      have hk := kK_bin hsg ny q2
      refine ⟨m, t, zI (kK y), zI (F + (i - 1)), zI (F + a), ?_, hm, h1, by rw [len_c]; omega, fun cd hcd => ?_, h5, h6⟩
      · rw [start, if_neg (fun r => q2 ((kK_2 hsg).1 r)), hd, z_bI_mk, hd2, z_bI_mk, e, z_bV_mk]
      · refine Or.inr (Or.inr (Or.inr ⟨?_, ?_, ?_, i - 1, a, t, rfl, h3, h4, rfl⟩))
        · show 3 ≤ m 107 (64 + (F + i)); rw [h2]; exact hk.1
        · show m 107 (64 + (F + i)) ≤ 14; rw [h2]; exact hk.2.1
        · show cd i = cdK (m 107 (64 + (F + i))); rw [h2, hcd]; exact hk.2.2
end
end
