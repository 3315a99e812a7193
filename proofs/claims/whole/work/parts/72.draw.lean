/-! ===== draws ===== -/
abbrev pD (V : zM) (t k : Int) : Prop := sHt V k t ∧ sFst V k
abbrev pG (V : zM) (t k : Int) : Prop := pD V t k ∧ sRi V k
def dE (V : zM) (k y : Int) : Int := if y = V 4 (V 17 k) then 1 else 0
noncomputable def dW (V : zM) (k : Int) (p : Int × Int) : Int × Int := if sPut V k = -1 then (nx p.1, p.2 + dE V k (dr (nx p.1) (V 3 (V 17 k)))) else if dr (nx p.1) 100 < sLaw V k then (nx p.1, p.2 + dE V k (sPut V k)) else (nx (nx p.1), p.2 + dE V k (dr (nx (nx p.1)) (V 3 (V 17 k))))
noncomputable def dF (V : zM) (t k : Int) (p : Int × Int) : Int × Int := ci (pD V t k) (dW V k p) p
noncomputable def dA (V : zM) (t : Int) (_ : Int) (p : Int × Int) : Int × Int := ((fl (dF V t) (p.1, 0) (V 13 0)).1, p.2 + if (fl (dF V t) (p.1, 0) (V 13 0)).2 < cnt (pG V t) (V 13 0) then 0 else 1)
abbrev sdR (s : Int) : Prop := 0 ≤ s ∧ s < 2147483648
theorem dE_rng (V : zM) (k y : Int) : 0 ≤ dE V k y ∧ dE V k y ≤ 1 := by unfold dE; split <;> omega
theorem dF_rng (V : zM) (t : Int) {s : Int} (hs : sdR s) : ∀ k, 0 ≤ k → sdR (fl (dF V t) (s, 0) k).1 ∧ 0 ≤ (fl (dF V t) (s, 0) k).2 ∧ (fl (dF V t) (s, 0) k).2 ≤ k := by
  refine sm_ind ⟨hs, by show (0:Int) ≤ 0; omega, by show (0:Int) ≤ 0; omega⟩ (fun k hk ih => ?_)
  rw [fl_s _ _ hk]
  generalize fl (dF V t) (s, 0) k = p at ih ⊢
  unfold dF
  rcases Classical.em (pD V t k) with q | q
  case inr => rw [ci_neg q]; exact ⟨ih.1, ih.2.1, by omega⟩
  rw [ci_pos q]
  unfold dW
  have n1 := nx_rng p.1
  have n2 := nx_rng (nx p.1)
  have d1 := dE_rng V k (dr (nx p.1) (V 3 (V 17 k)))
  have d2 := dE_rng V k (sPut V k)
  have d3 := dE_rng V k (dr (nx (nx p.1)) (V 3 (V 17 k)))
  split
  · exact ⟨n1, by dsimp only; omega, by dsimp only; omega⟩
  split
  · exact ⟨n1, by dsimp only; omega, by dsimp only; omega⟩
  · exact ⟨n2, by dsimp only; omega, by dsimp only; omega⟩
theorem dA_rng (V : zM) (t : Int) (hv : 0 ≤ V 13 0) {s : Int} (hs : sdR s) : ∀ k, 0 ≤ k → sdR (fl (dA V t) (s, 0) k).1 ∧ 0 ≤ (fl (dA V t) (s, 0) k).2 ∧ (fl (dA V t) (s, 0) k).2 ≤ k := by
  refine sm_ind ⟨hs, by show (0:Int) ≤ 0; omega, by show (0:Int) ≤ 0; omega⟩ (fun k hk ih => ?_)
  rw [fl_s _ _ hk]
  generalize fl (dA V t) (s, 0) k = p at ih ⊢
  unfold dA
  have h1 := dF_rng V t ih.1 (V 13 0) hv
  refine ⟨h1.1, ?_, ?_⟩
  · dsimp only; split <;> omega
  · dsimp only; split <;> omega
theorem sPut_rng {V : zM} (hv : vOk V) {k : Int} (k0 : 0 ≤ k) (k1 : k < V 13 0) : sPut V k = -1 ∨ 0 ≤ sPut V k := by
  unfold sPut sVal
  rcases lst_spec (fun i => V 14 i = 0 ∧ sSt V i k ∧ V 18 i ≠ -1) k0 with ⟨a, -⟩ | ⟨a, b, d, -⟩
  · rw [cite_pos a]; exact Or.inl rfl
  · rw [cite_neg (by omega)]
    have h1 := hv.2.2.2.1 _ a (by omega)
    have h2 := d.2.2
    right
    omega
theorem fst0 {V : zM} (hv : vOk V) {k : Int} (k1 : k < V 13 0) : (∀ i, 0 ≤ i → i < k → ¬ (V 14 i ≠ 0 ∧ sSt V i k ∧ 0 ≤ V 16 i)) ↔ sFst V k := by
  constructor
  · intro h i a b r
    have h1 := hv.2.2.2.1 i a (by omega)
    have h2 := hv.2.2.1 (V 15 i) (by omega) (by omega)
    exact h i a b ⟨r.1, r.2, by omega⟩
  · intro h i a b r
    exact h i a b ⟨r.1, r.2.1⟩
section
variable {M V : zM} {c : Int}
/-- what prepare leaves in the rows -/
abbrev dRow (V : zM) (t : Int) (m : zM) (i : Int) : Prop := ∀ j, 0 ≤ j → j < i → pD V t j → m 80 (cnt (pD V t) j) = V 3 (V 17 j) ∧ m 81 (cnt (pD V t) j) = V 4 (V 17 j) ∧ m 82 (cnt (pD V t) j) = sPut V j ∧ m 83 (cnt (pD V t) j) = sLaw V j
theorem e_X1_prepare (hO : LyO M) (hC : cOk M c V) (hF : cF V) (t : Int) : ∃ M', zm_X1_prepare zLa [zA 1 79, zA 0 c, zI t, zA 4 76] M = some ([], M') ∧ Sm M M' ∧ M' 79 0 = cnt (pD V t) (V 13 0) ∧ M' 79 1 = cnt (pG V t) (V 13 0) ∧ dRow V t M' (V 13 0) := by
  have hv := hC.2.2.2
  have hN := hv.1
  have hc := hC.1
  have h8 := first_8 hv t (P := pD V t) (fun i _ _ q => q)
  obtain ⟨⟨w5, M1⟩, e, hs1, h0, h1, hr⟩ := lp_ex (fun i (s : zV × zM) => z_ev (zcd_X1_prepare zLa) 1 [zA 1 79, zA 0 c, zI t, zA 4 76, zI i, s.1] [] s.2) (fun i s => Sm M s.2 ∧ s.2 79 0 = cnt (pD V t) i ∧ s.2 79 1 = cnt (pG V t) i ∧ dRow V t s.2 i) (n := V 13 0) 0 (fun i s hi0 hi1 ⟨hs, h0, h1, hr⟩ => by
    obtain ⟨w5, m⟩ := s
    dsimp only at hs h0 h1 hr ⊢
    have hCm := hC.sm hs
    have hL : LyC m c := hCm.2.1
    have hV := hCm.2.2.1
    have hOm : LyO m := LayO.sm hs hO
    have c0 := cnt_s (pD V t) hi0
    have c1 := cnt_s (pG V t) hi0
    have r0 := cnt_rng (pD V t) hi0
    have r1 := cnt_rng (pG V t) hi0
    have r8 := h8 (i + 1) (by omega) (by omega)
    have hk := hv.2.2.2.1 i hi0 hi1
    rw [zb_X1_prepare_1, lc_0_2 hL, cv_13 hV, if_pos hi1, e_X0_isHeardWordOf hCm, z_bI_mk, z_w32_id (n := i + 1) (by omega) (by omega)]
    by_cases q1 : sHt V i t
    case neg =>
      rw [b2i_neg q1, if_pos rfl]
      refine ⟨(w5, m), rfl, hs, ?_, ?_, fun j a b p => ?_⟩
      · rw [c0, b2i_neg (fun r => q1 r.1), Int.add_zero]; exact h0
      · rw [c1, b2i_neg (fun r => q1 r.1.1), Int.add_zero]; exact h1
      · rcases (by omega : j < i ∨ j = i) with r | r
        · exact hr j a r p
        · subst r; exact absurd p.1 q1
    rw [b2i_pos q1, if_neg (by decide), e_X0_isFirst hCm hi0 hi1 0, z_bI_mk, b2i_congr (fst0 hv hi1)]
    by_cases q2 : sFst V i
    case neg =>
      rw [b2i_neg q2, if_pos rfl]
      refine ⟨(w5, m), rfl, hs, ?_, ?_, fun j a b p => ?_⟩
      · rw [c0, b2i_neg (fun r => q2 r.2), Int.add_zero]; exact h0
      · rw [c1, b2i_neg (fun r => q2 r.1.2), Int.add_zero]; exact h1
      · rcases (by omega : j < i ∨ j = i) with r | r
        · exact hr j a r p
        · subst r; exact absurd p.2 q2
    rw [b2i_pos ⟨q1, q2⟩] at c0
    generalize hn : cnt (pD V t) i = n at *
    have n7 : 0 ≤ n ∧ n < 8 := by omega
    -- the writes, one by one
    have s1 : Sm m (z_wr m 80 n (V 3 (V 17 i))) := Sm.wr (by unfold Scr; omega)
    have s2 : Sm (z_wr m 80 n (V 3 (V 17 i))) (z_wr (z_wr m 80 n (V 3 (V 17 i))) 81 n (V 4 (V 17 i))) := Sm.wr (by unfold Scr; omega)
    have s3 : Sm (z_wr (z_wr m 80 n (V 3 (V 17 i))) 81 n (V 4 (V 17 i))) (z_wr (z_wr (z_wr m 80 n (V 3 (V 17 i))) 81 n (V 4 (V 17 i))) 82 n (sPut V i)) := Sm.wr (by unfold Scr; omega)
    generalize hA1 : z_wr m 80 n (V 3 (V 17 i)) = A1 at s1 s2 s3
    generalize hA2 : z_wr A1 81 n (V 4 (V 17 i)) = A2 at s2 s3
    generalize hA3 : z_wr A2 82 n (sPut V i) = A3 at s3
    have hC1 := hCm.sm s1
    have hC2 := hC1.sm s2
    have hC3 := hC2.sm s3
    have hO1 : LyO A1 := LayO.sm s1 hOm
    have hO2 : LyO A2 := LayO.sm s2 hO1
    have hO3 : LyO A3 := LayO.sm s3 hO2
    have hL1 : LyC A1 c := hC1.2.1
    have hV1 := hC1.2.2.1
    have n1 : A1 79 0 = n := by rw [← hA1, z_wr_ne (Or.inl (by decide))]; exact h0
    have n2 : A2 79 0 = n := by rw [← hA2, z_wr_ne (Or.inl (by decide))]; exact n1
    have n3 : A3 79 0 = n := by rw [← hA3, z_wr_ne (Or.inl (by decide))]; exact n2
    obtain ⟨A4, e4, s4q⟩ := e_X4_lawAt (h76 hO3) hC3 hF hi0 hi1
    have s5 : Sm A4 (z_wr A4 83 n (sLaw V i)) := Sm.wr (by unfold Scr; omega)
    have s6 : Sm (z_wr A4 83 n (sLaw V i)) (z_wr (z_wr A4 83 n (sLaw V i)) 79 0 (n + 1)) := Sm.wr (by decide)
    have n5 : z_wr A4 83 n (sLaw V i) 79 0 = n := by rw [z_wr_ne (Or.inl (by decide)), s4q _ _ (by decide)]; exact n3
    have g6 : z_wr (z_wr A4 83 n (sLaw V i)) 79 0 (n + 1) 79 1 = cnt (pG V t) i := by rw [z_wr_ne (Or.inr (by decide)), z_wr_ne (Or.inl (by decide)), s4q _ _ (by decide), ← hA3, z_wr_ne (Or.inl (by decide)), ← hA2, z_wr_ne (Or.inl (by decide)), ← hA1, z_wr_ne (Or.inl (by decide))]; exact h1
    have hC6 := ((hC3.sm s4q.sm).sm s5).sm s6
    rw [b2i_pos q2, if_neg (by decide), h0, if_pos n7.2, lc_0_2 hL, lc_13_5 hL, la_c17 hc, if_pos ⟨hi0, by omega⟩, cv_17 hV, lc_0_0 hL, lc_1_2 hL, la_c3 hc, if_pos ⟨by omega, by omega⟩, lo_79_3 hOm, la_80, if_pos n7, cv_3 hV, hA1, z_lt_eq, lc_0_0 hL1, lc_1_3 hL1, la_c4 hc, if_pos ⟨by omega, by omega⟩, n1, lo_79_4 hO1, la_81, if_pos n7, cv_4 hV1, hA2, z_lt_eq, e_X0_latestPut hC2 hi0 hi1, z_bI_mk, n2, lo_79_5 hO2, la_82, if_pos n7]
    rw [show sVal V (lst (fun i_1 => V 14 i_1 = 0 ∧ sSt V i_1 i ∧ V 18 i_1 ≠ -1) i) = sPut V i from rfl, hA3, z_lt_eq, e4, z_bI_mk, n3, lo_79_6 hO3, la_83, if_pos n7, z_lt_eq, n5, z_add_id (by omega) (by omega), z_lt_eq, e_X0_isRight hC6 hi0 hi1, z_bI_mk, g6]
    have rows : ∀ g : Int, dRow V t (z_wr (z_wr (z_wr A4 83 n (sLaw V i)) 79 0 (n + 1)) 79 1 g) (i + 1) := by
      intro g j a b p
      have fa : ∀ a k, 80 ≤ a → a ≤ 82 → z_wr (z_wr (z_wr A4 83 n (sLaw V i)) 79 0 (n + 1)) 79 1 g a k = A3 a k := fun a k x y => by
        rw [z_wr_ne (by omega), z_wr_ne (by omega), z_wr_ne (by omega)]; exact s4q _ _ (by unfold Scq; omega)
      have f3 : ∀ k, z_wr (z_wr (z_wr A4 83 n (sLaw V i)) 79 0 (n + 1)) 79 1 g 83 k = z_wr A4 83 n (sLaw V i) 83 k := fun k => by
        rw [z_wr_ne (by omega), z_wr_ne (by omega)]
      rw [fa _ _ (by decide) (by decide), fa _ _ (by decide) (by decide), fa _ _ (by decide) (by decide), f3]
      rcases (by omega : j < i ∨ j = i) with r | r
      · have hj := hr j a r p
        have hne : cnt (pD V t) j ≠ n := by have := cnt_lt a r p; omega
        refine ⟨?_, ?_, ?_, ?_⟩
        · rw [← hA3, z_wr_ne (Or.inl (by decide)), ← hA2, z_wr_ne (Or.inl (by decide)), ← hA1, z_wr_ne (Or.inr hne)]; exact hj.1
        · rw [← hA3, z_wr_ne (Or.inl (by decide)), ← hA2, z_wr_ne (Or.inr hne), ← hA1, z_wr_ne (Or.inl (by decide))]; exact hj.2.1
        · rw [← hA3, z_wr_ne (Or.inr hne), ← hA2, z_wr_ne (Or.inl (by decide)), ← hA1, z_wr_ne (Or.inl (by decide))]; exact hj.2.2.1
        · rw [z_wr_ne (Or.inr hne), s4q _ _ (by unfold Scq; omega), ← hA3, z_wr_ne (Or.inl (by decide)), ← hA2, z_wr_ne (Or.inl (by decide)), ← hA1, z_wr_ne (Or.inl (by decide))]; exact hj.2.2.2
      · subst r
        rw [hn]
        refine ⟨?_, ?_, ?_, z_wr_eq _ _ _ _⟩
        · rw [← hA3, z_wr_ne (Or.inl (by decide)), ← hA2, z_wr_ne (Or.inl (by decide)), ← hA1, z_wr_eq]
        · rw [← hA3, z_wr_ne (Or.inl (by decide)), ← hA2, z_wr_eq]
        · rw [← hA3, z_wr_eq]
    have hsA : Sm M (z_wr (z_wr A4 83 n (sLaw V i)) 79 0 (n + 1)) := (((((hs.tr s1).tr s2).tr s3).tr s4q.sm).tr s5).tr s6
    by_cases q3 : sRi V i
    · rw [b2i_pos q3, if_neg (by decide), z_add_id (by omega) (by omega), z_lt_eq]
      refine ⟨(zI (V 17 i), z_wr (z_wr (z_wr A4 83 n (sLaw V i)) 79 0 (n + 1)) 79 1 (cnt (pG V t) i + 1)), rfl, hsA.tr (Sm.wr (by decide)), ?_, ?_, rows _⟩
      · dsimp only
        rw [z_wr_ne (Or.inr (by decide)), z_wr_eq, c0]
      · dsimp only
        rw [z_wr_eq, c1, b2i_pos ⟨⟨q1, q2⟩, q3⟩]
    · rw [b2i_neg q3, if_pos rfl, z_add_id (by omega) (by omega), z_lt_eq]
      refine ⟨(zI (V 17 i), z_wr (z_wr (z_wr A4 83 n (sLaw V i)) 79 0 (n + 1)) 79 1 (cnt (pG V t) i + 0)), rfl, hsA.tr (Sm.wr (by decide)), ?_, ?_, rows _⟩
      · dsimp only
        rw [z_wr_ne (Or.inr (by decide)), z_wr_eq, c0]
      · dsimp only
        rw [z_wr_eq, c1, b2i_neg (fun r => q3 r.2)]) (s := (zU, z_wr (z_wr M 79 0 0) 79 1 0)) (by omega) ⟨(Sm.wr (by decide)).tr (Sm.wr (by decide)), by dsimp only; rw [z_wr_ne (Or.inr (by decide)), z_wr_eq]; rfl, by dsimp only; rw [z_wr_eq]; rfl, fun j a b => absurd b (by omega)⟩
  dsimp only at e hs1 h0 h1 hr
  have hC1 := hC.sm hs1
  have hL1 : LyC M1 c := hC1.2.1
  refine ⟨M1, ?_, hs1, h0, h1, hr⟩
  rw [zr_X1_prepare]
  refine z_out_some ?_
  rw [zb_X1_prepare_0, z_lt_eq, z_lt_eq, e, zb_X1_prepare_1, lc_0_2 hL1, cv_13 hC1.2.2.1, if_neg (by omega)]
theorem e_X1_rightInOne (hO : LyO M) (hv : vOk V) {t s : Int} (h0 : M 79 0 = cnt (pD V t) (V 13 0)) (hr : dRow V t M (V 13 0)) (hsd : M 79 2 = s) (hs : sdR s) : ∃ M', zm_X1_rightInOne zLa [zA 1 79] M = some ([zI (fl (dF V t) (s, 0) (V 13 0)).2], M') ∧ M' 79 2 = (fl (dF V t) (s, 0) (V 13 0)).1 ∧ ∀ a k, ¬ (a = 79 ∧ k = 2) → M' a k = M a k := by
  have hN := hv.1
  have h8 := first_8 hv t (P := pD V t) (fun i _ _ q => q)
  have hrg := dF_rng V t hs
  have e5 := lo_79_5 hO
  have e6 := lo_79_6 hO
  have e3 := lo_79_3 hO
  have e4 := lo_79_4 hO
  obtain ⟨⟨x1, w3, w4, m⟩, e, hf, hp⟩ := lp_ex (fun i (s : Int × zV × zV × zM) => z_ev (zcd_X1_rightInOne zLa) 1 [zA 1 79, zI s.1, zI (cnt (pD V t) i), s.2.1, s.2.2.1] [] s.2.2.2) (fun i st => (∀ a k, ¬ (a = 79 ∧ k = 2) → st.2.2.2 a k = M a k) ∧ (st.2.2.2 79 2, st.1) = fl (dF V t) (s, 0) i) (n := V 13 0) 0 (fun i st hi0 hi1 ⟨hf, hp⟩ => by
    obtain ⟨x1, w3, w4, m⟩ := st
    dsimp only at hf hp ⊢
    have c0 := cnt_s (pD V t) hi0
    have hfs := fl_s (dF V t) (s, 0) hi0
    rw [← hp] at hfs
    have hrg' := hrg i hi0
    rw [← hp] at hrg'
    dsimp only at hrg'
    unfold dF at hfs
    rcases Classical.em (pD V t i) with q | q
    case inr =>
      rw [b2i_neg q, Int.add_zero] at c0
      rw [ci_neg q] at hfs
      exact ⟨(x1, w3, w4, m), by rw [c0], hf, hfs.symm⟩
    rw [b2i_pos q] at c0
    rw [ci_pos q] at hfs
    have r8 := h8 (i + 1) (by omega) (by omega)
    have rc := cnt_rng (pD V t) hi0
    have lt := cnt_lt hi0 hi1 q
    have hk := hv.2.2.2.1 i hi0 hi1
    have hw := hv.2.1 (V 17 i) (by omega) (by omega)
    obtain ⟨a80, a81, a82, a83⟩ := hr i hi0 hi1 q
    rw [c0]
    generalize cnt (pD V t) i = n at *
    have n7 : 0 ≤ n ∧ n < 8 := by omega
    have f0 : m 79 0 = cnt (pD V t) (V 13 0) := (hf _ _ (by omega)).trans h0
    have f5 : m 79 5 = 82 := (hf _ _ (by omega)).trans e5
    have f82 : m 82 n = sPut V i := (hf _ _ (by omega)).trans a82
    -- the last block
    have blk3 : ∀ (m' : zM) (w3' w4' : zV) (y : Int), (∀ a k, ¬ (a = 79 ∧ k = 2) → m' a k = M a k) → (m' 79 2, x1 + dE V i y) = dW V i (m 79 2, x1) → ∃ s' : Int × zV × zV × zM, z_ev (zcd_X1_rightInOne zLa) 3 [zA 1 79, zI x1, zI n, w3', w4'] [zI y] m' = z_ev (zcd_X1_rightInOne zLa) 1 [zA 1 79, zI s'.1, zI (n + 1), s'.2.1, s'.2.2.1] [] s'.2.2.2 ∧ (∀ a k, ¬ (a = 79 ∧ k = 2) → s'.2.2.2 a k = M a k) ∧ (s'.2.2.2 79 2, s'.1) = fl (dF V t) (s, 0) (i + 1) := by
      intro m' w3' w4' y hf' hd
      rw [zb_X1_rightInOne_3, (hf' 79 4 (by omega)).trans e4, la_81, if_pos n7, (hf' 81 n (by omega)).trans a81, z_w32_id (n := n + 1) (by omega) (by omega), z_add_id (a := x1) (by omega) (by omega), z_add_id (a := x1) (by omega) (by omega)]
      unfold dE at hd
      by_cases qy : y = V 4 (V 17 i)
      · rw [if_pos qy] at hd ⊢
        exact ⟨(x1 + 1, z_clv w3', zI y, m'), rfl, hf', hd.trans hfs.symm⟩
      · rw [if_neg qy] at hd ⊢
        exact ⟨(x1 + 0, z_clv w3', zI y, m'), rfl, hf', hd.trans hfs.symm⟩
    -- a number for the ways
    have blk2 : ∀ (m' : zM) (w3' w4' : zV) (s' : Int), (∀ a k, ¬ (a = 79 ∧ k = 2) → m' a k = M a k) → m' 79 2 = s' → sdR s' → (nx s', x1 + dE V i (dr (nx s') (V 3 (V 17 i)))) = dW V i (m 79 2, x1) → ∃ s' : Int × zV × zV × zM, z_ev (zcd_X1_rightInOne zLa) 2 [zA 1 79, zI x1, zI n, w3', w4'] [] m' = z_ev (zcd_X1_rightInOne zLa) 1 [zA 1 79, zI s'.1, zI (n + 1), s'.2.1, s'.2.2.1] [] s'.2.2.2 ∧ (∀ a k, ¬ (a = 79 ∧ k = 2) → s'.2.2.2 a k = M a k) ∧ (s'.2.2.2 79 2, s'.1) = fl (dF V t) (s, 0) (i + 1) := by
      intro m' w3' w4' s' hf' h2 hs' hd
      rw [zb_X1_rightInOne_2, if_pos rfl, (hf' 79 3 (by omega)).trans e3, la_80, if_pos n7, (hf' 80 n (by omega)).trans a80, e_X1_drawBelow h2 hs'.1 hs'.2 (by omega), z_bI_mk]
      exact blk3 _ _ _ _ (fun a k qq => by rw [z_wr_ne (by omega)]; exact hf' a k qq) (by rw [z_wr_eq]; exact hd)
    rw [zb_X1_rightInOne_1, f0, if_pos lt, f5, la_82, if_pos n7, f82]
    by_cases q1 : sPut V i = -1
    · rw [if_pos q1]
      exact blk2 m w3 w4 _ hf rfl hrg'.1 (by unfold dW; rw [if_pos q1])
    · rw [if_neg q1, e_X1_drawBelow (s := m 79 2) rfl hrg'.1.1 hrg'.1.2 (by decide), z_bI_mk]
      have hf' : ∀ a k, ¬ (a = 79 ∧ k = 2) → z_wr m 79 2 (nx (m 79 2)) a k = M a k := fun a k qq => by rw [z_wr_ne (by omega)]; exact hf a k qq
      rw [(hf' 79 6 (by omega)).trans e6, la_83, if_pos n7, (hf' 83 n (by omega)).trans a83]
      by_cases q2 : dr (nx (m 79 2)) 100 < sLaw V i
      · rw [if_pos q2, if_neg (by decide), (hf' 79 5 (by omega)).trans e5, la_82, if_pos n7, (hf' 82 n (by omega)).trans a82]
        exact blk3 _ _ _ _ hf' (by unfold dW; rw [if_neg q1, if_pos q2, z_wr_eq])
      · rw [if_neg q2]
        exact blk2 _ w3 w4 _ hf' (z_wr_eq _ _ _ _) (nx_rng _) (by unfold dW; rw [if_neg q1, if_neg q2])) (s := (0, zU, zU, M)) (by omega) ⟨fun _ _ _ => rfl, by dsimp only; rw [hsd]; rfl⟩
  dsimp only at e hf hp
  rw [← hp]
  refine ⟨m, ?_, rfl, hf⟩
  rw [zr_X1_rightInOne]
  refine z_out_some ?_
  rw [cnt_0] at e
  rw [zb_X1_rightInOne_0, e, zb_X1_rightInOne_1, (hf 79 0 (by omega)).trans h0, if_neg (by omega)]
theorem e_X1_asGood (hO : LyO M) (hv : vOk V) {t : Int} (h0 : M 79 0 = cnt (pD V t) (V 13 0)) (h1 : M 79 1 = cnt (pG V t) (V 13 0)) (hr : dRow V t M (V 13 0)) {s n : Int} (hs : sdR s) (n0 : 0 ≤ n) (n1 : n ≤ 99) : ∃ M', zm_X1_asGood zLa [zA 1 79, zI s, zI n] M = some ([zI (fl (dA V t) (s, 0) n).2], M') ∧ ∀ a k, ¬ (a = 79 ∧ k = 2) → M' a k = M a k := by
  have hN := hv.1
  have hrg := dA_rng V t (by omega) hs
  obtain ⟨⟨x3, m⟩, e, hf, hp⟩ := lp_ex (fun i (st : Int × zM) => z_ev (zcd_X1_asGood zLa) 1 [zA 1 79, zI s, zI n, zI st.1, zI i] [] st.2) (fun i st => (∀ a k, ¬ (a = 79 ∧ k = 2) → st.2 a k = M a k) ∧ (st.2 79 2, st.1) = fl (dA V t) (s, 0) i) (n := n) 0 (fun i st hi0 hi1 ⟨hf, hp⟩ => by
    obtain ⟨x3, m⟩ := st
    dsimp only at hf hp ⊢
    have hfs := fl_s (dA V t) (s, 0) hi0
    have hrg' := hrg i hi0
    rw [← hp] at hfs hrg'
    dsimp only at hrg'
    unfold dA at hfs
    dsimp only at hfs
    have hOm : LyO m := hO.ag (fun a k q => hf a k (by unfold pO at q; omega))
    obtain ⟨m', e', h2', hf'⟩ := e_X1_rightInOne (M := m) (s := m 79 2) hOm hv (t := t) ((hf _ _ (by omega)).trans h0) (fun j a b p => by
      have := hr j a b p
      rw [hf _ _ (by omega), hf _ _ (by omega), hf _ _ (by omega), hf _ _ (by omega)]; exact this) rfl hrg'.1
    have hf2 : ∀ a k, ¬ (a = 79 ∧ k = 2) → m' a k = M a k := fun a k q => (hf' a k q).trans (hf a k q)
    rw [zb_X1_asGood_1, if_pos hi1, e', z_bI_mk, (hf2 79 1 (by omega)).trans h1, z_w32_id (n := i + 1) (by omega) (by omega)]
    by_cases q : (fl (dF V t) (m 79 2, 0) (V 13 0)).2 < cnt (pG V t) (V 13 0)
    · rw [if_pos q] at hfs ⊢
      rw [Int.add_zero] at hfs
      exact ⟨(x3, m'), rfl, hf2, by dsimp only; rw [h2']; exact hfs.symm⟩
    · rw [if_neg q] at hfs ⊢
      rw [z_w32_id (n := x3 + 1) (by omega) (by omega)]
      exact ⟨(x3 + 1, m'), rfl, hf2, by dsimp only; rw [h2']; exact hfs.symm⟩) (s := (0, z_wr M 79 2 s)) n0 ⟨fun a k q => z_wr_ne (by omega), by dsimp only; rw [z_wr_eq]; rfl⟩
  dsimp only at e hf hp
  rw [← hp]
  refine ⟨m, ?_, hf⟩
  rw [zr_X1_asGood]
  refine z_out_some ?_
  rw [zb_X1_asGood_0, z_lt_eq, e, zb_X1_asGood_1, if_neg (by omega)]
theorem e_X12_isFirstOf (h : mOk M V) (k t : Int) : zm_X12_isFirstOf zLa [zA 12 84, zI k, zI t] M = some ([zI (b2i (pD V t k))], M) := by
  have h1 := e_X12_isHeardWord h k
  have hR : LyR M := h.1
  rw [zr_X12_isFirstOf]
  refine z_out_some ?_
  rw [zb_X12_isFirstOf_0, h1, z_bI_mk]
  by_cases q : sHw V k
  case neg => rw [b2i_neg q, if_pos rfl, b2i_neg (fun r => q ⟨r.1.1, r.1.2.1, r.1.2.2.1, r.1.2.2.2.1⟩)]
  have hN := h.2.2.1
  have mk := h.2.1.2.2.2.1 k q.1 q.2.1
  rw [b2i_pos q, if_neg (by decide), lr_32 hR, la_98, if_pos ⟨q.1, by omega⟩, mk.2.1]
  by_cases q2 : V 15 k = t
  case neg => rw [if_neg q2, b2i_neg (fun r => q2 r.1.2.2.2.2)]
  rw [if_pos q2, e_X12_isFirst h q.1 q.2.1 q.2.2.1, z_bI_mk]
  by_cases q3 : sFst V k
  · rw [b2i_pos q3, if_neg (by decide), b2i_pos ⟨⟨q.1, q.2.1, q.2.2.1, q.2.2.2, q2⟩, q3⟩]
  · rw [b2i_neg q3, if_pos rfl, b2i_neg (fun r => q3 r.2)]
/-- the reference's own draws: nothing but its scratch and its number -/
abbrev fS (M m : zM) : Prop := ∀ a k, ¬ Scq a k → ¬ (a = 84 ∧ k = 65) → m a k = M a k
theorem fS.sm {M m : zM} (h : fS M m) : Sm M m := fun a k q => h a k (fun r => q (by unfold Scq at r; unfold Scr; omega)) (fun r => q (by unfold Scr; omega))
theorem r_draw (h : mOk M V) (hF : gF M V) {t s : Int} (hs : sdR s) (x3 x4 x5 x6 : Int) (w2 : zV) (x4b : 0 ≤ x4) (w9 w10 : zV) (hsd : M 84 65 = s) : ∃ w9' w10' m, z_ev (zcd_X12_draws zLa) 3 [zA 12 84, zI t, w2, zI x3, zI x4, zI x5, zI x6, zI 0, zI 0, w9, w10] [] M = z_ev (zcd_X12_draws zLa) 3 [zA 12 84, zI t, w2, zI x3, zI x4, zI x5, zI x6, zI (fl (dF V t) (s, 0) (V 13 0)).2, zI (V 13 0), w9', w10'] [] m ∧ fS M m ∧ m 84 65 = (fl (dF V t) (s, 0) (V 13 0)).1 := by
  have hv := h.2.2
  have hN := hv.1
  have hrg := dF_rng V t hs
  obtain ⟨⟨x7, v9, v10, m⟩, e, hf, hp⟩ := lp_ex (fun i (st : Int × zV × zV × zM) => z_ev (zcd_X12_draws zLa) 3 [zA 12 84, zI t, w2, zI x3, zI x4, zI x5, zI x6, zI st.1, zI i, st.2.1, st.2.2.1] [] st.2.2.2) (fun i st => fS M st.2.2.2 ∧ (st.2.2.2 84 65, st.1) = fl (dF V t) (s, 0) i) (n := V 13 0) 0 (fun i st hi0 hi1 ⟨hf, hp⟩ => by
    obtain ⟨x7, v9, v10, m⟩ := st
    dsimp only at hf hp ⊢
    have hfs := fl_s (dF V t) (s, 0) hi0
    have hrg' := hrg i hi0
    rw [← hp] at hfs hrg'
    dsimp only at hrg'
    unfold dF at hfs
    have hm := h.sm hf.sm
    have hR : LyR m := hm.1
    rw [zb_X12_draws_3, hm.2.1.1.2.2.1, if_pos hi1, e_X12_isFirstOf hm, z_bI_mk, z_w32_id (n := i + 1) (by omega) (by omega)]
    rcases Classical.em (pD V t i) with q | q
    case inr =>
      rw [b2i_neg q, if_pos rfl]
      rw [ci_neg q] at hfs
      exact ⟨(x7, v9, v10, m), rfl, hf, hfs.symm⟩
    rw [b2i_pos q, if_neg (by decide), e_X12_putAhead hm hi0 hi1 q.1.2.2.1, z_bI_mk]
    rw [ci_pos q] at hfs
    have hk := hv.2.2.2.1 i hi0 hi1
    have hw := hv.2.1 (V 17 i) (by omega) (by omega)
    have hpr := sPut_rng hv hi0 hi1
    have blk4 : ∀ (m' : zM) (v9' v10' : zV) (y : Int), fS M m' → (m' 84 65, x7 + dE V i y) = dW V i (m 84 65, x7) → ∃ s' : Int × zV × zV × zM, z_ev (zcd_X12_draws zLa) 4 [zA 12 84, zI t, w2, zI x3, zI x4, zI x5, zI x6, zI x7, zI i, v9', v10'] [zI y] m' = z_ev (zcd_X12_draws zLa) 3 [zA 12 84, zI t, w2, zI x3, zI x4, zI x5, zI x6, zI s'.1, zI (i + 1), s'.2.1, s'.2.2.1] [] s'.2.2.2 ∧ fS M s'.2.2.2 ∧ (s'.2.2.2 84 65, s'.1) = fl (dF V t) (s, 0) (i + 1) := by
      intro m' v9' v10' y hf' hd
      have hm' := h.sm hf'.sm
      have hR' : LyR m' := hm'.1
      have mi := hm'.2.1.2.2.2.1 i hi0 hi1
      have mx := hm'.2.1.2.1 (V 17 i) (by omega) (by omega)
      rw [zb_X12_draws_4, lr_34 hR', la_100, if_pos ⟨hi0, by omega⟩, mi.2.2.2.1, lr_23 hR', la_89, if_pos ⟨by omega, by omega⟩, mx.2.2.1, z_w32_id (n := i + 1) (by omega) (by omega), z_add_id (a := x7) (by omega) (by omega), z_add_id (a := x7) (by omega) (by omega)]
      unfold dE at hd
      by_cases qy : y = V 4 (V 17 i)
      · rw [if_pos qy] at hd ⊢
        exact ⟨(x7 + 1, z_clv v9', zI y, m'), rfl, hf', hd.trans hfs.symm⟩
      · rw [if_neg qy] at hd ⊢
        exact ⟨(x7 + 0, z_clv v9', zI y, m'), rfl, hf', hd.trans hfs.symm⟩
    have way : ∀ m' : zM, fS M m' → m' 84 34 = 100 ∧ m' 84 22 = 88 ∧ m' 100 i = V 17 i ∧ m' 88 (V 17 i) = V 3 (V 17 i) := fun m' hf' => by
      have hm' := h.sm hf'.sm
      have hR' : LyR m' := hm'.1
      have mi := hm'.2.1.2.2.2.1 i hi0 hi1
      have mx := hm'.2.1.2.1 (V 17 i) (by omega) (by omega)
      exact ⟨lr_34 hR', lr_22 hR', mi.2.2.2.1, mx.2.1⟩
    by_cases q1 : sPut V i = -1
    · have wy := way m hf
      rw [if_pos (by omega), wy.1, la_100, if_pos ⟨hi0, by omega⟩, wy.2.2.1, wy.2.1, la_88, if_pos ⟨by omega, by omega⟩, wy.2.2.2, e_X12_drawn (s := m 84 65) rfl hrg'.1.1 hrg'.1.2 (by omega) (by omega), z_bI_mk]
      exact blk4 _ _ _ _ (fun a k x y => by rw [z_wr_ne (by omega)]; exact hf a k x y) (by rw [z_wr_eq]; unfold dW; rw [if_pos q1])
    · have hf1 : fS M (z_wr m 84 65 (nx (m 84 65))) := fun a k x y => by rw [z_wr_ne (by omega)]; exact hf a k x y
      obtain ⟨m2, e2, hq2⟩ := e_X12_lawAt (h.sm hf1.sm) (hF.sm hf1.sm) hi0 hi1 q.1.2.2.1
      have hf2 : fS M m2 := fun a k x y => (hq2 a k x).trans (hf1 a k x y)
      have h65 : m2 84 65 = nx (m 84 65) := (hq2 _ _ (by decide)).trans (z_wr_eq _ _ _ _)
      rw [if_neg (by omega), e_X12_drawn (s := m 84 65) rfl hrg'.1.1 hrg'.1.2 (by decide) (by decide), z_bI_mk, e2, z_bI_mk]
      by_cases q2 : dr (nx (m 84 65)) 100 < sLaw V i
      · rw [if_pos q2]
        exact blk4 _ _ _ _ hf2 (by rw [h65]; unfold dW; rw [if_neg q1, if_pos q2])
      · have wy := way m2 hf2
        rw [if_neg q2, wy.1, la_100, if_pos ⟨hi0, by omega⟩, wy.2.2.1, wy.2.1, la_88, if_pos ⟨by omega, by omega⟩, wy.2.2.2, e_X12_drawn h65 (nx_rng _).1 (nx_rng _).2 (by omega) (by omega), z_bI_mk]
        exact blk4 _ _ _ _ (fun a k x y => by rw [z_wr_ne (by omega)]; exact hf2 a k x y) (by rw [z_wr_eq]; unfold dW; rw [if_neg q1, if_neg q2])) (s := (0, w9, w10, M)) (by omega) ⟨fun _ _ _ _ => rfl, by dsimp only; rw [hsd]; rfl⟩
  dsimp only at e hf hp
  rw [← hp]
  exact ⟨v9, v10, m, e, hf, rfl⟩
theorem q_draws (h : gQ M c V) (hF : gF M V) (t s n : Int) (hs2 : s < 2147483648) : Pr zm_X11_draws zm_X12_draws [zI t, zI s, zI n] M := by
  have hg := h
  obtain ⟨hn, hO', hC, hD⟩ := h
  have hO : LyO M := hO'
  have hL : LyC M c := hC.2.1
  have hv := hC.2.2.2
  have hN := hv.1
  clear hO'
  have hs0 : Sm M (z_wr M 84 2 0) := Sm.wr (by decide)
  by_cases q : (0 ≤ t ∧ t < V 7 0) ∧ 0 ≤ s ∧ (1 ≤ n ∧ n ≤ 99)
  case neg =>
    have hE := hD.sm hs0
    refine ⟨[zI (-1)], M, z_wr M 84 2 0, ?_, ?_, hs0⟩
    · rw [zr_X11_draws]
      refine z_out_some ?_
      rw [zb_X11_draws_0, hn, lc_0_1 hL, e_X8_has hC, z_bI_mk]
      by_cases q1 : 0 ≤ t ∧ t < V 7 0
      case neg => rw [b2i_neg q1, if_pos rfl]
      rw [b2i_pos q1, if_neg (by decide)]
      by_cases q2 : s < 0
      · rw [if_pos q2]
      rw [if_neg q2]
      by_cases q3 : n < 1
      · rw [if_pos q3]
      rw [if_neg q3, if_neg (by omega)]
    · rw [zr_X12_draws]
      refine z_out_some ?_
      rw [zb_X12_draws_0, z_lt_eq, e_X12_isTeller hE, z_bI_mk]
      by_cases q1 : 0 ≤ t ∧ t < V 7 0
      case neg => rw [b2i_neg q1, if_pos rfl]
      rw [b2i_pos q1, if_neg (by decide)]
      by_cases q2 : s < 0
      · rw [if_pos q2]
      rw [if_neg q2, e_X12_isIn, z_bI_mk, b2i_neg (by omega), if_pos rfl]
  obtain ⟨q1, q2, q3⟩ := q
  obtain ⟨A, eA, sA, n0, n1, hr⟩ := e_X1_prepare hO hC hF.cF t
  have hgA := hg.sm sA
  have hOA : LyO A := hgA.2.1
  obtain ⟨B, eB, fB⟩ := e_X1_asGood hOA hv n0 n1 hr (s := s) (n := n) ⟨q2, hs2⟩ (by omega) q3.2
  have sB : Sm A B := fun a k r => fB a k (fun z => r (by unfold Scr; omega))
  have sAB := sA.tr sB
  have sB2 : Sm B (z_wr B 84 2 0) := Sm.wr (by decide)
  have hE := (hD.sm sAB).sm sB2
  have hFE := (hF.sm sAB).sm sB2
  have sC : Sm (z_wr B 84 2 0) (z_wr (z_wr B 84 2 0) 84 65 s) := Sm.wr (by decide)
  have hE2 := hE.sm sC
  have hFE2 := hFE.sm sC
  have e84 : z_wr B 84 2 0 84 13 = V 13 0 := hE.2.1.1.2.2.1
  have rG := cnt_rng (pG V t) (n := V 13 0) (by omega)
  -- his own
  have his := lp_up (fun i (a : Int) => z_ev (zcd_X12_draws zLa) 1 [zA 12 84, zI t, zI s, zI n, zI a, zI i, zU, zU, zU, zU, zU] [] (z_wr B 84 2 0)) (fun i a => a + b2i (pG V t i)) (fun i a => a = cnt (pG V t) i) (n := V 13 0) (fun i a hi0 hi1 hI => by
    refine ⟨?_, by rw [hI, cnt_s _ hi0]⟩
    have r := cnt_rng (pG V t) hi0
    try dsimp only
    rw [zb_X12_draws_1, e84, if_pos hi1, e_X12_isFirstOf hE, z_bI_mk, z_w32_id (n := i + 1) (by omega) (by omega), z_add_id (a := a) (by omega) (by omega), z_add_id (a := a) (by omega) (by omega)]
    by_cases p1 : pD V t i
    case neg => rw [b2i_neg p1, if_pos rfl, b2i_neg (p := pG V t i) (fun r => p1 r.1)]
    rw [b2i_pos p1, if_neg (by decide), e_X12_isRight hE hi0 hi1, z_bI_mk]
    by_cases p2 : sRi V i
    · rw [b2i_pos p2, if_neg (by decide), b2i_pos (p := pG V t i) ⟨p1, p2⟩]
    · rw [b2i_neg p2, if_pos rfl, b2i_neg (p := pG V t i) (fun r => p2 r.2)]) (V 13 0).toNat 0 0 (by omega) (by omega) rfl
  obtain ⟨g, eg, hgG⟩ := his
  try dsimp only at eg hgG
  have hrg := dA_rng V t (by omega) (s := s) ⟨q2, hs2⟩
  obtain ⟨⟨x5, w7, w8, w9, w10, m⟩, e, hf, hp⟩ := lp_ex (fun i (st : Int × zV × zV × zV × zV × zM) => z_ev (zcd_X12_draws zLa) 2 [zA 12 84, zI t, zI s, zI n, zI g, zI st.1, zI i, st.2.1, st.2.2.1, st.2.2.2.1, st.2.2.2.2.1] [] st.2.2.2.2.2) (fun i st => fS (z_wr (z_wr B 84 2 0) 84 65 s) st.2.2.2.2.2 ∧ (st.2.2.2.2.2 84 65, st.1) = fl (dA V t) (s, 0) i) (n := n) 0 (fun i st hi0 hi1 ⟨hf, hp⟩ => by
    obtain ⟨x5, w7, w8, w9, w10, m⟩ := st
    dsimp only at hf hp ⊢
    have hfs := fl_s (dA V t) (s, 0) hi0
    have hrg' := hrg i hi0
    rw [← hp] at hfs hrg'
    dsimp only at hrg'
    unfold dA at hfs
    dsimp only at hfs
    obtain ⟨v9, v10, m', e', hf', h65⟩ := r_draw (hE2.sm hf.sm) (hFE2.sm hf.sm) (t := t) (s := m 84 65) hrg'.1 n g x5 i (zI s) (by omega) w9 w10 rfl
    have hf2 : fS (z_wr (z_wr B 84 2 0) 84 65 s) m' := fun a k x y => (hf' a k x y).trans (hf a k x y)
    rw [zb_X12_draws_2, if_pos hi1, e', zb_X12_draws_3, (hE2.sm hf2.sm).2.1.1.2.2.1, if_neg (by omega), z_w32_id (n := i + 1) (by omega) (by omega), z_add_id (a := x5) (by omega) (by omega), z_add_id (a := x5) (by omega) (by omega), hgG]
    by_cases p : (fl (dF V t) (m 84 65, 0) (V 13 0)).2 < cnt (pG V t) (V 13 0)
    · rw [if_pos p] at hfs ⊢
      exact ⟨(x5 + 0, _, _, v9, v10, m'), rfl, hf2, by dsimp only; rw [h65]; exact hfs.symm⟩
    · rw [if_neg p] at hfs ⊢
      exact ⟨(x5 + 1, _, _, v9, v10, m'), rfl, hf2, by dsimp only; rw [h65]; exact hfs.symm⟩) (s := (0, zU, zU, zU, zU, z_wr (z_wr B 84 2 0) 84 65 s)) (by omega) ⟨fun _ _ _ _ => rfl, by dsimp only; rw [z_wr_eq]; rfl⟩
  dsimp only at e hf hp
  refine ⟨[zI (fl (dA V t) (s, 0) n).2], B, m, ?_, ?_, ((sAB.tr sB2).tr sC).tr hf.sm⟩
  · rw [zr_X11_draws]
    refine z_out_some ?_
    rw [zb_X11_draws_0, hn, lc_0_1 hL, e_X8_has hC, z_bI_mk, b2i_pos q1, if_neg (by decide), if_neg (by omega), if_neg (by omega), if_pos q3.2, hn, lo_0_7 hO, lo_0_6 hO, eA, z_bV_mk, lo_0_7 hOA, eB, z_bI_mk]
  · rw [zr_X12_draws]
    refine z_out_some ?_
    rw [zb_X12_draws_0, z_lt_eq, e_X12_isTeller hE, z_bI_mk, b2i_pos q1, if_neg (by decide), if_neg (by omega), e_X12_isIn, z_bI_mk, b2i_pos q3, if_neg (by decide), eg, zb_X12_draws_1, e84, if_neg (by omega), z_lt_eq, e, zb_X12_draws_2, if_neg (by omega), ← hp]
end
