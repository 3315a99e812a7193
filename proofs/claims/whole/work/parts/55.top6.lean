/-! ===== moved ===== -/
theorem cnt_lt {p : Int → Prop} {k n : Int} (k0 : 0 ≤ k) (hk : k < n) (hp : p k) : cnt p k < cnt p n := by
  have H : ∀ d, 0 ≤ d → cnt p k + 1 ≤ cnt p (k + 1 + d) := sm_ind (by rw [Int.add_zero, cnt_s _ k0, b2i_pos hp]; exact Int.le_refl _) (fun d hd ih => by
    rw [← Int.add_assoc, cnt_s _ (by omega)]
    have := b2i_rng (p (k + 1 + d))
    omega)
  have := H (n - (k + 1)) (by omega)
  rw [show k + 1 + (n - (k + 1)) = n by omega] at this
  omega
theorem cnt_le {p : Int → Prop} {k n : Int} (k0 : 0 ≤ k) (hk : k ≤ n) : cnt p k ≤ cnt p n := by
  have H : ∀ d, 0 ≤ d → cnt p k ≤ cnt p (k + d) := sm_ind (by rw [Int.add_zero]; exact Int.le_refl _) (fun d hd ih => by
    rw [← Int.add_assoc, cnt_s _ (by omega)]
    have := b2i_rng (p (k + d))
    omega)
  have := H (n - k) (by omega)
  rwa [show k + (n - k) = n by omega] at this
theorem cnt_surj {p : Int → Prop} (j : Int) (j0 : 0 ≤ j) : ∀ n, 0 ≤ n → j < cnt p n → ∃ k, 0 ≤ k ∧ k < n ∧ p k ∧ cnt p k = j := by
  refine sm_ind (p := fun n => j < cnt p n → ∃ k, 0 ≤ k ∧ k < n ∧ p k ∧ cnt p k = j) (fun h => absurd h (by rw [cnt_0]; omega)) ?_
  intro n hn ih h
  rw [cnt_s _ hn] at h
  by_cases q : j < cnt p n
  · obtain ⟨k, a, b, d⟩ := ih q
    exact ⟨k, a, by omega, d⟩
  · rcases Classical.em (p n) with r | r
    · rw [b2i_pos r] at h
      exact ⟨n, hn, by omega, r, by omega⟩
    · rw [b2i_neg r] at h; omega
theorem mx_congr {f g : Int → Int} {n : Int} (h : ∀ k, 0 ≤ k → k < n → f k = g k) : mx f n = mx g n := fld_congr (fun k x a b => by rw [h k a b])
/-- each is one more than the most of those ahead that may stand before it -/
abbrev dpF (A B : Int → Int) (j i : Int) : Int := if A i ≤ A j then B i else 0
abbrev isDp (A B : Int → Int) (n : Int) : Prop := ∀ j, 0 ≤ j → j < n → B j = 1 + mx (dpF A B j) j
theorem mx_le {f : Int → Int} {n b : Int} (n0 : 0 ≤ n) (b0 : 0 ≤ b) (h : ∀ k, 0 ≤ k → k < n → f k ≤ b) : 0 ≤ mx f n ∧ mx f n ≤ b := by
  obtain ⟨a, -, d⟩ := mx_is f n n0
  refine ⟨a, ?_⟩
  rcases d with d | ⟨v, v0, v1, d⟩
  · omega
  · have := h v v0 v1; omega
theorem dp_rng {A B : Int → Int} {n : Int} (h : isDp A B n) : ∀ m, 0 ≤ m → ∀ j, 0 ≤ j → j < m → j < n → 1 ≤ B j ∧ B j ≤ j + 1 := by
  refine sm_ind (fun j a b => absurd b (by omega)) ?_
  intro m hm ih j j0 j1 j2
  have hr := mx_le (f := dpF A B j) (n := j) (b := j) j0 j0 (fun k k0 k1 => by
    have := ih k k0 (by omega) (by omega)
    unfold dpF
    split <;> omega)
  have := h j j0 j2
  omega
theorem dp_u {A B A' B' : Int → Int} {n : Int} (hA : ∀ j, 0 ≤ j → j < n → A j = A' j) (h : isDp A B n) (h' : isDp A' B' n) : ∀ m, 0 ≤ m → ∀ j, 0 ≤ j → j < m → j < n → B j = B' j := by
  refine sm_ind (fun j a b => absurd b (by omega)) ?_
  intro m hm ih j j0 j1 j2
  rw [h j j0 j2, h' j j0 j2, mx_congr (fun k k0 k1 => by unfold dpF; rw [hA k k0 (by omega), hA j j0 j2, ih k k0 (by omega) (by omega)])]
theorem z_max_mx (f : Int → Int) {n : Int} (h : 0 ≤ n) : z_max (mx f n) (f n) = mx f (n + 1) := by
  rw [mx_s _ h]
  unfold z_max
  by_cases q : f n ≤ mx f n
  · rw [if_pos q, if_neg (by omega)]
  · rw [if_neg q, if_pos (by omega)]
section
variable {M V : zM} {c : Int}
abbrev pMv (V : zM) (t k : Int) : Prop := V 20 k = t ∧ sFs V k ≠ -1
abbrev isSq (V : zM) (t : Int) (A : Int → Int) (n : Int) : Prop := ∀ k, 0 ≤ k → k < n → pMv V t k → A (cnt (pMv V t) k) = sFs V k
theorem sq_eq {t : Int} {A A' : Int → Int} {n : Int} (n0 : 0 ≤ n) (h : isSq V t A n) (h' : isSq V t A' n) : ∀ j, 0 ≤ j → j < cnt (pMv V t) n → A j = A' j := by
  intro j j0 j1
  obtain ⟨k, a, b, d, e⟩ := cnt_surj j j0 n n0 j1
  rw [← e, h k a b d, h' k a b d]
theorem sPg_fs (hv : vOk V) (g : Int) : sPg V g ≤ 1 ↔ sFs V g ≠ -1 := by
  have hN := hv.1
  have hf := fst_spec (fun i => sHt V i (V 20 g) ∧ V 17 i = V 21 g ∧ V 18 i = V 22 g) (n := V 13 0) (by omega)
  have hl := lst_spec (fun i => sHt V i (V 20 g) ∧ V 17 i = V 21 g) (n := V 13 0) (by omega)
  unfold sPg
  have hsto : sSto V (V 20 g) (V 21 g) = sVal V (lst (fun i => sHt V i (V 20 g) ∧ V 17 i = V 21 g) (V 13 0)) := rfl
  have hfs : sFs V g = fst (fun i => sHt V i (V 20 g) ∧ V 17 i = V 21 g ∧ V 18 i = V 22 g) (V 13 0) := rfl
  rw [← hfs] at hf
  by_cases q1 : sSto V (V 20 g) (V 21 g) = -1
  · rw [cite_pos q1]
    refine ⟨fun r => absurd r (by decide), fun r => ?_⟩
    exfalso
    rcases hf with ⟨a, -⟩ | ⟨a, b, d, -⟩
    · exact r a
    · rcases hl with ⟨x, y⟩ | ⟨x, y, z, -⟩
      · exact y _ a b ⟨d.1, d.2.1⟩
      · rw [hsto] at q1
        unfold sVal at q1
        rw [cite_neg (by omega)] at q1
        have := (hv.2.2.2.1 _ x y).2.2.2.2.2.2.2.2.2 z.1.2.2.2.1
        omega
  · rw [cite_neg q1]
    by_cases q2 : sSto V (V 20 g) (V 21 g) = V 22 g
    · rw [cite_pos q2]
      refine ⟨fun _ r => ?_, fun _ => by decide⟩
      rcases hl with ⟨x, y⟩ | ⟨x, y, z, -⟩
      · rw [hsto] at q1
        unfold sVal at q1
        rw [cite_pos x] at q1
        exact q1 rfl
      · rcases hf with ⟨a, b⟩ | ⟨a, -⟩
        · rw [hsto] at q2
          unfold sVal at q2
          rw [cite_neg (by omega)] at q2
          exact b _ x y ⟨z.1, z.2, q2⟩
        · omega
    · rw [cite_neg q2]
      by_cases q3 : sFs V g = -1
      · rw [cite_pos q3]
        exact ⟨fun r => absurd r (by decide), fun r => absurd q3 r⟩
      · rw [cite_neg q3]
        exact ⟨fun _ => q3, fun _ => by decide⟩
theorem e_X6_longestAhead (h : cOk M c V) {j : Int} (j0 : 0 ≤ j) (j1 : j < 20) : zm_X6_longestAhead zLa [zA 6 (c + 19), zI j] M = some ([zI (mx (dpF (M (c + 23)) (M (c + 24)) j) j)], M) := by
  have hL := h.2.1
  have hΛ := zLc_of h.1
  rw [zr_X6_longestAhead]
  refine z_out_some ?_
  rw [zb_X6_longestAhead_0]
  obtain ⟨a, e, hI⟩ := lp_ex (fun i (a : Int) => z_ev (zcd_X6_longestAhead zLa) 1 [zA 6 (c + 19), zI j, zI a, zI i] [] M) (fun i a => a = mx (dpF (M (c + 23)) (M (c + 24)) j) i) (n := j) 0 (fun i a hi0 hi1 hI => by
    rw [zb_X6_longestAhead_1]
    simp only [hL, hΛ, z_w32_id (n := i + 1) (by omega) (by omega)]
    rw [if_pos hi1, if_pos (by omega), if_pos (by omega)]
    by_cases q : M (c + 23) i ≤ M (c + 23) j
    · rw [if_pos q, if_pos (by omega)]
      refine ⟨_, rfl, ?_⟩
      rw [← z_max_mx _ hi0, ← hI]
      unfold dpF
      rw [if_pos q]
    · rw [if_neg q]
      refine ⟨a, rfl, ?_⟩
      have hr := (mx_is (dpF (M (c + 23)) (M (c + 24)) j) i hi0).1
      rw [mx_s _ hi0, hI, if_pos]
      unfold dpF
      rw [if_neg q]
      exact hr) (s := 0) j0 rfl
  try dsimp only at e
  rw [e, zb_X6_longestAhead_1, if_neg (by omega), hI]
theorem e_X6_outOfOrder (h : cOk M c V) (t : Int) : ∃ M' B, zm_X6_outOfOrder zLa [zA 6 (c + 19), zA 0 c, zI t] M = some ([zI (z_sub (cnt (pMv V t) (V 19 0)) (mx B (cnt (pMv V t) (V 19 0))))], M') ∧ Sm M M' ∧ ∃ A, isSq V t A (V 19 0) ∧ isDp A B (cnt (pMv V t) (V 19 0)) := by
  have hN := h.2.2.2.1
  have hc := h.1
  have hΛ := zLc_of hc
  have hw3 : ∀ k, Scr (c + 23) k := fun k => by rcases hc with rfl | rfl <;> (unfold Scr; omega)
  have hw4 : ∀ k, Scr (c + 24) k := fun k => by rcases hc with rfl | rfl <;> (unfold Scr; omega)
  obtain ⟨⟨n, w5, M1⟩, e1, hs1, hn1, hq1⟩ := lp_ex (fun i (s : Int × zV × zM) => z_ev (zcd_X6_outOfOrder zLa) 1 [zA 6 (c + 19), zA 0 c, zI t, zI s.1, zI i, s.2.1] [] s.2.2) (fun i s => Sm M s.2.2 ∧ s.1 = cnt (pMv V t) i ∧ isSq V t (s.2.2 (c + 23)) i) (n := V 19 0) 0 (fun i s hi0 hi1 ⟨hs, hn, hq⟩ => by
    obtain ⟨n, w5, m⟩ := s
    dsimp only at hs hn hq
    have hC := h.sm hs
    have hL := hC.2.1
    have hV := hC.2.2.1
    have hr := cnt_rng (pMv V t) hi0
    dsimp only
    rw [zb_X6_outOfOrder_1]
    simp only [hL, hΛ, e_fs hC hi0 hi1, z_bI_mk, z_lt_eq, z_w32_id (n := i + 1) (by omega) (by omega), z_w32_id (n := n + 1) (by omega) (by omega)]
    simp only [hV]
    rw [if_pos hi1, if_pos (by omega)]
    have hno : ¬ pMv V t i → n = cnt (pMv V t) (i + 1) ∧ isSq V t (m (c + 23)) (i + 1) := fun q => by
      refine ⟨by rw [cnt_s _ hi0, b2i_neg q, hn, Int.add_zero], fun k k0 k1 hk => ?_⟩
      rcases (by omega : k < i ∨ k = i) with r | r
      · exact hq k k0 r hk
      · subst r; exact absurd hk q
    by_cases q1 : V 20 i = t
    case neg =>
      rw [if_neg q1, if_pos trivial]
      exact ⟨(n, _, m), rfl, hs, hno (fun r => q1 r.1)⟩
    rw [if_pos q1]
    by_cases q2 : sFs V i = -1
    · rw [if_pos q2]
      exact ⟨(n, _, m), rfl, hs, hno (fun r => r.2 q2)⟩
    rw [if_neg q2, if_pos (by omega)]
    refine ⟨(n + 1, zI (sFs V i), z_wr m (c + 23) n (sFs V i)), rfl, hs.tr (Sm.wr (hw3 n)), ?_, fun k k0 k1 hk => ?_⟩
    · dsimp only
      rw [cnt_s _ hi0, b2i_pos ⟨q1, q2⟩, hn]
    · dsimp only
      rcases (by omega : k < i ∨ k = i) with r | r
      · have := cnt_lt k0 r hk
        rw [z_wr_ne (Or.inr (by omega))]
        exact hq k k0 r hk
      · subst r; rw [← hn, z_wr_eq]) (s := (0, zU, M)) (by omega) ⟨Sm.rf M, rfl, fun k a b => absurd b (by omega)⟩
  dsimp only at e1 hs1 hn1 hq1
  have hnr := cnt_rng (pMv V t) (n := V 19 0) (by omega)
  obtain ⟨⟨mo, M2⟩, e2, hs2, hA2, hm2, hd2⟩ := lp_ex (fun i (s : Int × zM) => z_ev (zcd_X6_outOfOrder zLa) 2 [zA 6 (c + 19), zA 0 c, zI t, zI n, zI s.1, zI i] [] s.2) (fun i s => Sm M s.2 ∧ (∀ j, s.2 (c + 23) j = M1 (c + 23) j) ∧ s.1 = mx (s.2 (c + 24)) i ∧ isDp (M1 (c + 23)) (s.2 (c + 24)) i) (n := n) 0 (fun i s hi0 hi1 ⟨hs, hA, hm, hd⟩ => by
    obtain ⟨mo, m⟩ := s
    dsimp only at hs hA hm hd
    have hC := h.sm hs
    have hL := hC.2.1
    have hA' : m (c + 23) = M1 (c + 23) := funext hA
    have hrB : ∀ k, 0 ≤ k → k < i → 1 ≤ m (c + 24) k ∧ m (c + 24) k ≤ k + 1 := fun k k0 k1 => dp_rng hd i hi0 k k0 k1 k1
    have hrm := mx_le (f := dpF (M1 (c + 23)) (m (c + 24)) i) (n := i) (b := i) hi0 hi0 (fun k k0 k1 => by
      have := hrB k k0 k1
      unfold dpF
      split <;> omega)
    have el := e_X6_longestAhead hC (j := i) hi0 (by omega)
    rw [hA'] at el
    generalize hv : 1 + mx (dpF (M1 (c + 23)) (m (c + 24)) i) i = v
    refine ⟨(mx (z_wr m (c + 24) i v (c + 24)) (i + 1), z_wr m (c + 24) i v), ?_, hs.tr (Sm.wr (hw4 i)), fun j => ?_, rfl, fun j j0 j1 => ?_⟩
    · dsimp only
      have hs' : Sm M (z_wr m (c + 24) i v) := hs.tr (Sm.wr (hw4 i))
      have hL' := (h.sm hs').2.1
      rw [zb_X6_outOfOrder_2]
      simp only [hL, hΛ, el, z_bI_mk, z_lt_eq, z_w32_id (n := i + 1) (by omega) (by omega), z_add_id (a := 1) (b := mx (dpF (M1 (c + 23)) (m (c + 24)) i) i) (by omega) (by omega), hv]
      rw [if_pos hi1, if_pos (by omega)]
      simp only [hL', hΛ]
      rw [if_pos (by omega), ← z_max_mx _ hi0, hm]
      rw [mx_congr (f := z_wr m (c + 24) i v (c + 24)) (g := m (c + 24)) (n := i) (fun k k0 k1 => z_wr_ne (Or.inr (by omega)))]
    · dsimp only
      rw [z_wr_ne (Or.inl (by omega))]; exact hA j
    · dsimp only
      have hcg : mx (dpF (M1 (c + 23)) (z_wr m (c + 24) i v (c + 24)) j) j = mx (dpF (M1 (c + 23)) (m (c + 24)) j) j := mx_congr (fun k k0 k1 => by unfold dpF; rw [z_wr_ne (Or.inr (by omega))])
      rw [hcg]
      rcases (by omega : j < i ∨ j = i) with r | r
      · rw [z_wr_ne (Or.inr (by omega))]; exact hd j j0 r
      · subst r; rw [z_wr_eq, hv]) (s := (0, M1)) (by omega) ⟨hs1, fun _ => rfl, rfl, fun j a b => absurd b (by omega)⟩
  dsimp only at e2 hs2 hA2 hm2 hd2
  refine ⟨M2, M2 (c + 24), ?_, hs2, M1 (c + 23), hq1, by rw [← hn1]; exact hd2⟩
  have hL0 := h.2.1
  rw [zr_X6_outOfOrder]
  refine z_out_some ?_
  rw [zb_X6_outOfOrder_0, e1, zb_X6_outOfOrder_1]
  have hC1 := h.sm hs1
  have hL1 := hC1.2.1
  have hV1 := hC1.2.2.1
  simp only [hV1]
  rw [if_neg (by omega), e2, zb_X6_outOfOrder_2, if_neg (by omega), hm2, hn1]
theorem q_moved (h : gQ M c V) (t : Int) : Pr zm_X11_moved zm_X12_moved [zI t] M := by
  have hg := h
  obtain ⟨hn, hO, hC, hD⟩ := h
  have hN := hC.2.2.2.1
  have hL := hC.2.1
  have hΛ2 := zLo_ok
  rcases Classical.em (0 ≤ t ∧ t < V 7 0) with q | q
  case inr =>
    have hs : Sm M (z_wr M 84 2 0) := Sm.wr (by decide)
    have hE := hD.sm hs
    refine ⟨[zI (-1)], M, z_wr M 84 2 0, ?_, ?_, hs⟩
    · rw [zr_X11_moved]
      refine z_out_some ?_
      rw [zb_X11_moved_0]
      simp only [hn, hL, e_X8_has hC, z_bI_mk]
      rw [b2i_neg q, if_pos rfl]
    · rw [zr_X12_moved]
      refine z_out_some ?_
      rw [zb_X12_moved_0, z_lt_eq, e_X12_isTeller hE, z_bI_mk, b2i_neg q, if_pos rfl]
  obtain ⟨M1, B, e1, hs1, A, hA, hB⟩ := e_X6_outOfOrder hC t
  have hg1 := hg.sm hs1
  have hs : Sm M1 (z_wr M1 84 2 0) := Sm.wr (by decide)
  have hE := hg1.2.2.2.sm hs
  have hsN : Sm M (z_wr M1 84 2 0) := hs1.tr hs
  obtain ⟨⟨n, mo, w5, M2⟩, e2, hs2, hn2, hm2, hq2, hd2⟩ := lp_ex (fun i (s : Int × Int × zV × zM) => z_ev (zcd_X12_moved zLa) 1 [zA 12 84, zI t, zI s.1, zI s.2.1, zI i, s.2.2.1] [] s.2.2.2) (fun i s => Sm M s.2.2.2 ∧ s.1 = cnt (pMv V t) i ∧ s.2.1 = mx (s.2.2.2 113) s.1 ∧ isSq V t (s.2.2.2 112) i ∧ isDp (s.2.2.2 112) (s.2.2.2 113) s.1) (n := V 19 0) 0 (fun i s hi0 hi1 ⟨hs, hn, hm, hq, hd⟩ => by
    obtain ⟨n, mo, w5, m⟩ := s
    dsimp only at hs hn hm hq hd
    have hE := hD.sm hs
    have hr := cnt_rng (pMv V t) hi0
    have mp := hE.2.1.2.2.2.2 i hi0 hi1
    dsimp only
    rw [zb_X12_moved_1]
    simp only [hE.1, hΛ2, hE.2.1.1, e_X12_pageIs hE hi0 hi1, e_X12_firstSaid hE, z_bI_mk, z_lt_eq, z_w32_id (n := i + 1) (by omega) (by omega)]
    simp only [mp]
    rw [if_pos hi1, if_pos (by omega)]
    have hno : ¬ pMv V t i → n = cnt (pMv V t) (i + 1) ∧ isSq V t (m 112) (i + 1) := fun q => by
      refine ⟨by rw [cnt_s _ hi0, b2i_neg q, hn, Int.add_zero], fun k k0 k1 hk => ?_⟩
      rcases (by omega : k < i ∨ k = i) with r | r
      · exact hq k k0 r hk
      · subst r; exact absurd hk q
    by_cases q1 : V 20 i = t
    case neg =>
      rw [if_neg q1]
      exact ⟨(n, mo, _, m), rfl, hs, (hno (fun r => q1 r.1)).1, hm, (hno (fun r => q1 r.1)).2, hd⟩
    rw [if_pos q1]
    have hpf := sPg_fs hC.2.2.2 i
    by_cases q2 : sPg V i ≤ 1
    case neg =>
      rw [if_neg q2]
      exact ⟨(n, mo, _, m), rfl, hs, (hno (fun r => q2 (hpf.2 r.2))).1, hm, (hno (fun r => q2 (hpf.2 r.2))).2, hd⟩
    rw [if_pos q2, if_pos (by omega), if_pos (by omega), if_pos (by omega)]
    have hfe : fst (fun j => sSay V j t (V 21 i) ∧ V 18 j = V 22 i) (V 13 0) = sFs V i := fst_congr (fun k _ _ => by
      rw [← q1]
      exact ⟨fun r => ⟨r.1.1, r.1.2, r.2⟩, fun r => ⟨⟨r.1, r.2.1⟩, r.2.2⟩⟩)
    rw [hfe]
    have hs3 : Sm M (z_wr m 112 n (sFs V i)) := hs.tr (Sm.wr (by unfold Scr; omega))
    have hE3 := hD.sm hs3
    simp only [hE3.1, hΛ2]
    rw [if_pos (by omega)]
    have hs4 : Sm M (z_wr (z_wr m 112 n (sFs V i)) 113 n 1) := hs3.tr (Sm.wr (by unfold Scr; omega))
    obtain ⟨m5, e5, hs5, hA5, hB5, hC5⟩ := lp_ex (fun j (s : zM) => z_ev (zcd_X12_moved zLa) 2 [zA 12 84, zI t, zI n, zI mo, zI i, zI j] [] s) (fun j s => Sm M s ∧ (∀ k, s 112 k = z_wr m 112 n (sFs V i) 112 k) ∧ (∀ k, k ≠ n → s 113 k = m 113 k) ∧ s 113 n = 1 + mx (dpF (z_wr m 112 n (sFs V i) 112) (m 113) n) j) (n := n) 0 (fun j s hj0 hj1 ⟨hs, hA, hB, hC⟩ => by
      have hE := hD.sm hs
      have hrB : ∀ k, 0 ≤ k → k < n → 1 ≤ m 113 k ∧ m 113 k ≤ k + 1 := fun k k0 k1 => dp_rng hd n (by omega) k k0 k1 k1
      have hrj := hrB j hj0 hj1
      have hmx := mx_s (dpF (z_wr m 112 n (sFs V i) 112) (m 113) n) hj0
      have hm0 := (mx_is (dpF (z_wr m 112 n (sFs V i) 112) (m 113) n) j hj0).1
      rw [zb_X12_moved_2]
      simp only [hE.1, hΛ2, z_lt_eq, z_w32_id (n := j + 1) (by omega) (by omega)]
      rw [if_pos hj1, if_pos (by omega), if_pos (by omega), hA j, hA n, hB j (by omega), hC]
      generalize hAA : z_wr m 112 n (sFs V i) 112 = AA at *
      by_cases q3 : AA j ≤ AA n
      case neg =>
        rw [if_neg q3]
        have : dpF AA (m 113) n j = 0 := if_neg q3
        rw [this, if_pos hm0] at hmx
        exact ⟨s, rfl, hs, hA, hB, by rw [hmx]; exact hC⟩
      rw [if_pos q3, if_pos (by omega), if_pos (by omega)]
      have : dpF AA (m 113) n j = m 113 j := if_pos q3
      rw [this] at hmx
      by_cases q4 : m 113 j < 1 + mx (dpF AA (m 113) n) j
      · rw [if_pos q4]
        rw [if_pos (by omega)] at hmx
        exact ⟨s, rfl, hs, hA, hB, by rw [hmx]; exact hC⟩
      · rw [if_neg q4, if_pos (by omega), if_pos (by omega), z_add_id (by omega) (by omega)]
        rw [if_neg (by omega)] at hmx
        refine ⟨_, rfl, hs.tr (Sm.wr (by unfold Scr; omega)), fun k => ?_, fun k hk => ?_, ?_⟩
        · rw [z_wr_ne (Or.inl (by decide))]; exact hA k
        · rw [z_wr_ne (Or.inr hk)]; exact hB k hk
        · rw [z_wr_eq, hmx, Int.add_comm]) (s := z_wr (z_wr m 112 n (sFs V i)) 113 n 1) (by omega) ⟨hs4, fun k => z_wr_ne (Or.inl (by decide)), fun k hk => by rw [z_wr_ne (Or.inr hk), z_wr_ne (Or.inl (by decide))], by rw [z_wr_eq]; rfl⟩
    try dsimp only at e5
    have hE5 := hD.sm hs5
    rw [e5, zb_X12_moved_2]
    simp only [hE5.1, hΛ2]
    rw [if_neg (by omega), if_pos (by omega), z_w32_id (by omega) (by omega), z_w32_id (by omega) (by omega)]
    have hA6 : m5 112 = z_wr m 112 n (sFs V i) 112 := funext hA5
    have hmm : mx (m5 113) n = mo := by rw [hm]; exact mx_congr (fun k k0 k1 => hB5 k (by omega))
    have hmx := mx_s (m5 113) (n := n) (by omega)
    rw [hmm] at hmx
    have hn' : n + 1 = cnt (pMv V t) (i + 1) := by rw [cnt_s _ hi0, b2i_pos ⟨q1, hpf.1 q2⟩, hn]
    have hq' : isSq V t (m5 112) (i + 1) := fun k k0 k1 hk => by
      rw [hA6]
      rcases (by omega : k < i ∨ k = i) with r | r
      · have := cnt_lt k0 r hk
        rw [z_wr_ne (Or.inr (by omega))]
        exact hq k k0 r hk
      · subst r; rw [← hn, z_wr_eq]
    have hd' : isDp (m5 112) (m5 113) (n + 1) := fun j j0 j1 => by
      rcases (by omega : j < n ∨ j = n) with r | r
      · rw [hB5 j (by omega), hd j j0 r]
        congr 1
        refine mx_congr (fun k k0 k1 => ?_)
        unfold dpF
        rw [hA6, z_wr_ne (Or.inr (by omega)), z_wr_ne (Or.inr (by omega)), hB5 k (by omega)]
      · rw [r, hC5, hA6]
        congr 1
        refine mx_congr (fun k k0 k1 => ?_)
        unfold dpF
        rw [hB5 k (by omega)]
    by_cases q5 : m5 113 n ≤ mo
    · rw [if_pos q5]
      rw [if_pos q5] at hmx
      exact ⟨(n + 1, mo, _, m5), rfl, hs5, hn', hmx.symm, hq', hd'⟩
    · rw [if_neg q5, if_pos (by omega)]
      rw [if_neg q5] at hmx
      exact ⟨(n + 1, m5 113 n, _, m5), rfl, hs5, hn', hmx.symm, hq', hd'⟩) (s := (0, 0, zU, z_wr M1 84 2 0)) (by omega) ⟨hsN, rfl, rfl, fun k a b => absurd b (by omega), fun k a b => absurd b (by omega)⟩
  dsimp only at e2 hs2 hn2 hm2 hq2 hd2
  have hnr := cnt_rng (pMv V t) (n := V 19 0) (by omega)
  rw [hn2] at hd2 hm2
  have hBB : mx (M2 113) (cnt (pMv V t) (V 19 0)) = mx B (cnt (pMv V t) (V 19 0)) := mx_congr (fun k k0 k1 => dp_u (sq_eq (by omega) hq2 hA) hd2 hB _ hnr.1 k k0 k1 k1)
  refine ⟨[zI (z_sub (cnt (pMv V t) (V 19 0)) (mx B (cnt (pMv V t) (V 19 0))))], M1, M2, ?_, ?_, hs2⟩
  · rw [zr_X11_moved]
    refine z_out_some ?_
    rw [zb_X11_moved_0]
    simp only [hn, hL, e_X8_has hC, e1, z_bI_mk]
    rw [b2i_pos q, if_neg (by decide)]
  · rw [zr_X12_moved]
    refine z_out_some ?_
    rw [zb_X12_moved_0, z_lt_eq, e_X12_isTeller hE, z_bI_mk, b2i_pos q, if_neg (by decide), e2, zb_X12_moved_1]
    have hE2 := hD.sm hs2
    simp only [hE2.2.1.1]
    rw [if_neg (by omega), hm2, hn2, hBB]
end
