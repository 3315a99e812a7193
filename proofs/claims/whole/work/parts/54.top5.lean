/-! ===== lies ===== -/
def sm (f : Int → Int) (n : Int) : Int := fld (fun v a => a + f v) 0 n
theorem sm_s (f : Int → Int) {n : Int} (h : 0 ≤ n) : sm f (n + 1) = sm f n + f n := fld_s _ _ h
theorem sm_ind {p : Int → Prop} (h0 : p 0) (hs : ∀ n, 0 ≤ n → p n → p (n + 1)) : ∀ n, 0 ≤ n → p n := by
  have H : ∀ m : Nat, p m := by
    intro m
    induction m with
    | zero => exact h0
    | succ m ih => exact hs m (by omega) ih
  intro n hn
  have := H n.toNat
  rwa [Int.toNat_of_nonneg hn] at this
theorem sm_add (f g : Int → Int) : ∀ n, 0 ≤ n → sm (fun v => f v + g v) n = sm f n + sm g n := sm_ind rfl (fun n h ih => by rw [sm_s _ h, sm_s _ h, sm_s _ h, ih]; omega)
theorem sm_congr {f g : Int → Int} {n : Int} (h : ∀ k, 0 ≤ k → k < n → f k = g k) : sm f n = sm g n := fld_congr (fun k x a b => by rw [h k a b])
theorem sm_one (A : Prop) (x : Int) : ∀ n, 0 ≤ n → sm (fun v => b2i (A ∧ x = v)) n = b2i (A ∧ 0 ≤ x ∧ x < n) := sm_ind (by rw [b2i_neg (by omega)]; rfl) (fun n h ih => by
  rw [sm_s _ h, ih]
  rcases Classical.em A with hA | hA
  · rcases (by omega : x < 0 ∨ (0 ≤ x ∧ x < n) ∨ x = n ∨ n < x) with r | r | r | r
    · rw [b2i_neg (by omega), b2i_neg (by omega), b2i_neg (by omega)]; rfl
    · rw [b2i_pos ⟨hA, r⟩, b2i_neg (by omega), b2i_pos ⟨hA, by omega⟩]; rfl
    · rw [b2i_neg (by omega), b2i_pos ⟨hA, r⟩, b2i_pos ⟨hA, by omega⟩]; rfl
    · rw [b2i_neg (by omega), b2i_neg (by omega), b2i_neg (by omega)]; rfl
  · rw [b2i_neg (fun r => hA r.1), b2i_neg (fun r => hA r.1), b2i_neg (fun r => hA r.1)]; rfl)
theorem sm_cnt (A : Int → Prop) (f : Int → Int) {w : Int} (w0 : 0 ≤ w) (N : Int) (hf : ∀ t, 0 ≤ t → t < N → (f t = -1 ∨ (0 ≤ f t ∧ f t < w))) : ∀ n, 0 ≤ n → n ≤ N → sm (fun v => cnt (fun t => A t ∧ f t = v) n) w = cnt (fun t => A t ∧ f t ≠ -1) n := by
  refine sm_ind (p := fun n => n ≤ N → sm (fun v => cnt (fun t => A t ∧ f t = v) n) w = cnt (fun t => A t ∧ f t ≠ -1) n) ?_ ?_
  · intro _
    have : ∀ n, 0 ≤ n → sm (fun v => cnt (fun t => A t ∧ f t = v) 0) n = 0 := sm_ind rfl (fun n h ih => by rw [sm_s _ h, ih]; rfl)
    exact this w w0
  · intro n hn ih hN
    have e : sm (fun v => cnt (fun t => A t ∧ f t = v) (n + 1)) w = sm (fun v => cnt (fun t => A t ∧ f t = v) n + b2i (A n ∧ f n = v)) w := sm_congr (fun v _ _ => cnt_s _ hn)
    rw [e, sm_add _ _ w w0, ih (by omega), sm_one _ _ w w0, cnt_s _ hn]
    congr 1
    refine b2i_congr ?_
    have := hf n hn (by omega)
    constructor
    · rintro ⟨a, b⟩; exact ⟨a, by omega⟩
    · rintro ⟨a, b⟩; exact ⟨a, by omega⟩
/-- the most of a row -/
abbrev isMx (f : Int → Int) (w m : Int) : Prop := 0 ≤ m ∧ (∀ v, 0 ≤ v → v < w → f v ≤ m) ∧ (m = 0 ∨ ∃ v, 0 ≤ v ∧ v < w ∧ f v = m)
theorem isMx_u {f : Int → Int} {w m m' : Int} (h : isMx f w m) (h' : isMx f w m') : m = m' := by
  obtain ⟨a, b, d⟩ := h
  obtain ⟨a', b', d'⟩ := h'
  rcases d with d | ⟨v, v0, v1, d⟩ <;> rcases d' with d' | ⟨v', v0', v1', d'⟩
  · omega
  · have := b v' v0' v1'; omega
  · have := b' v v0 v1; omega
  · have := b v' v0' v1'; have := b' v v0 v1; omega
def mx (f : Int → Int) (w : Int) : Int := fld (fun v a => if f v ≤ a then a else f v) 0 w
theorem mx_s (f : Int → Int) {n : Int} (h : 0 ≤ n) : mx f (n + 1) = if f n ≤ mx f n then mx f n else f n := fld_s _ _ h
theorem mx_is (f : Int → Int) : ∀ n, 0 ≤ n → isMx f n (mx f n) := sm_ind ⟨Int.le_refl _, fun v a b => absurd b (by omega), Or.inl rfl⟩ (fun n h ⟨a, b, d⟩ => by
  rw [mx_s _ h]
  by_cases q : f n ≤ mx f n
  · rw [if_pos q]
    refine ⟨a, fun v v0 v1 => ?_, ?_⟩
    · rcases (by omega : v < n ∨ v = n) with r | r
      · exact b v v0 r
      · subst r; exact q
    · rcases d with d | ⟨v, v0, v1, d⟩
      · exact Or.inl d
      · exact Or.inr ⟨v, v0, by omega, d⟩
  · rw [if_neg q]
    refine ⟨by omega, fun v v0 v1 => ?_, Or.inr ⟨n, h, by omega, rfl⟩⟩
    rcases (by omega : v < n ∨ v = n) with r | r
    · have := b v v0 r; omega
    · subst r; exact Int.le_refl _)
section
variable {M V : zM} {c : Int}
noncomputable def tLi (V : zM) (s y n v : Int) : Int := cnt (fun t => sIn s t ∧ sSto V t y = v) n
noncomputable def sLi (V : zM) (s y : Int) : Int := z_sub (cnt (fun t => sIn s t ∧ sSto V t y ≠ -1) (V 7 0)) (mx (tLi V s y (V 7 0)) 9)
theorem sSto_w (hv : vOk V) (t y : Int) : sSto V t y = -1 ∨ (0 ≤ sSto V t y ∧ sSto V t y < V 3 y) := by
  unfold sSto sVal
  have hs := lst_spec (fun i => sHt V i t ∧ V 17 i = y) (n := V 13 0) (by omega)
  rcases hs with ⟨a, b⟩ | ⟨a, b, d, -⟩
  · left; rw [cite_pos a]
  · right
    rw [cite_neg (by omega)]
    have hl := hv.2.2.2.1 _ a b
    have e := d.2
    rw [e] at hl
    exact ⟨hl.2.2.2.2.2.2.2.2.2 d.1.2.2.2.1, hl.2.2.2.2.2.2.2.2.1⟩
theorem e_X0_liesOf (h : cOk M c V) (s y : Int) : ∃ M', zm_X0_liesOf zLa [zA 0 c, zI s, zI y] M = some ([zI (sLi V s y)], M') ∧ Sm M M' := by
  have hN := h.2.2.2.1
  have hc := h.1
  have hΛ := zLc_of hc
  have hw : ∀ k, Scr (c + 32) k := fun k => by rcases hc with rfl | rfl <;> (unfold Scr; omega)
  obtain ⟨M1, e1, hs1, hk1⟩ := lp_ex (fun i (m : zM) => z_ev (zcd_X0_liesOf zLa) 1 [zA 0 c, zI s, zI y, zI i, zU, zU, zU] [] m) (fun i m => Sm M m ∧ ∀ v, 0 ≤ v → v < i → m (c + 32) v = 0) (n := 9) 0 (fun i m hi0 hi1 ⟨hs, hk⟩ => by
    have hC := h.sm hs
    have hL := hC.2.1
    refine ⟨z_wr m (c + 32) i 0, ?_, hs.tr (Sm.wr (hw i)), fun v v0 v1 => ?_⟩
    · rw [zb_X0_liesOf_1]
      simp only [hL, hΛ, z_lt_eq, z_w32_id (n := i + 1) (by omega) (by omega)]
      rw [if_pos hi1, if_pos (by omega)]
    · rcases (by omega : v < i ∨ v = i) with r | r
      · rw [z_wr_ne (Or.inr (by omega))]; exact hk v v0 r
      · subst r; rw [z_wr_eq]) (s := M) (by omega) ⟨Sm.rf M, fun a a0 a1 => absurd a1 (by omega)⟩
  obtain ⟨⟨al, mo, w6, M2⟩, e2, hs2, ha, hk2, hm⟩ := lp_ex (fun i (s' : Int × Int × zV × zM) => z_ev (zcd_X0_liesOf zLa) 2 [zA 0 c, zI s, zI y, zI s'.1, zI s'.2.1, zI i, s'.2.2.1] [] s'.2.2.2) (fun i s' => Sm M s'.2.2.2 ∧ s'.1 = cnt (fun t => sIn s t ∧ sSto V t y ≠ -1) i ∧ (∀ v, 0 ≤ v → v < 9 → s'.2.2.2 (c + 32) v = tLi V s y i v) ∧ isMx (tLi V s y i) 9 s'.2.1) (n := V 7 0) 0 (fun i s' hi0 hi1 ⟨hs, ha, hk, hm⟩ => by
    obtain ⟨al, mo, w6, m⟩ := s'
    dsimp only at hs ha hk hm
    have hC := h.sm hs
    have hL := hC.2.1
    have hV := hC.2.2.1
    have hr := cnt_rng (fun t => sIn s t ∧ sSto V t y ≠ -1) hi0
    have hsr := sSto_rng hC.2.2.2 i y
    have hT : ∀ v, tLi V s y (i + 1) v = tLi V s y i v + b2i (sIn s i ∧ sSto V i y = v) := fun v => cnt_s _ hi0
    -- what has no value changes nothing
    have hno : ¬ (sIn s i ∧ sSto V i y ≠ -1) → cnt (fun t => sIn s t ∧ sSto V t y ≠ -1) (i + 1) = al ∧ (∀ v, 0 ≤ v → tLi V s y (i + 1) v = tLi V s y i v) := fun q => by
      refine ⟨by rw [cnt_s _ hi0, b2i_neg q, ha, Int.add_zero], fun v v0 => ?_⟩
      rw [hT, b2i_neg (fun r => q ⟨r.1, by have := r.2; omega⟩), Int.add_zero]
    have hkeep : ∀ w, ¬ (sIn s i ∧ sSto V i y ≠ -1) → ∃ s'' : Int × Int × zV × zM, z_ev (zcd_X0_liesOf zLa) 2 [zA 0 c, zI s, zI y, zI al, zI mo, zI (i + 1), w] [] m = z_ev (zcd_X0_liesOf zLa) 2 [zA 0 c, zI s, zI y, zI s''.1, zI s''.2.1, zI (i + 1), s''.2.2.1] [] s''.2.2.2 ∧ Sm M s''.2.2.2 ∧ s''.1 = cnt (fun t => sIn s t ∧ sSto V t y ≠ -1) (i + 1) ∧ (∀ v, 0 ≤ v → v < 9 → s''.2.2.2 (c + 32) v = tLi V s y (i + 1) v) ∧ isMx (tLi V s y (i + 1)) 9 s''.2.1 := fun w q => by
      obtain ⟨n1, n2⟩ := hno q
      refine ⟨(al, mo, w, m), rfl, hs, n1.symm, fun v v0 v1 => by rw [n2 v v0]; exact hk v v0 v1, hm.1, fun v v0 v1 => by rw [n2 v v0]; exact hm.2.1 v v0 v1, ?_⟩
      rcases hm.2.2 with d | ⟨v, v0, v1, d⟩
      · exact Or.inl d
      · exact Or.inr ⟨v, v0, v1, by rw [n2 v v0]; exact d⟩
    dsimp only
    rw [zb_X0_liesOf_2]
    simp only [hL, hΛ, e_X11_isIn, e_sto hC, z_bI_mk]
    simp only [hV]
    rw [if_pos hi1]
    by_cases q1 : sIn s i
    case neg =>
      rw [b2i_neg q1, if_pos rfl, zb_X0_liesOf_3, if_pos (by decide), z_w32_id (by omega) (by omega)]
      exact hkeep _ (fun r => q1 r.1)
    rw [b2i_pos q1, if_neg (by decide), zb_X0_liesOf_3]
    by_cases q2 : sSto V i y = -1
    · rw [if_pos (by omega), z_w32_id (by omega) (by omega)]
      exact hkeep _ (fun r => r.2 q2)
    have hr9 : 0 ≤ sSto V i y ∧ sSto V i y < 9 := by omega
    generalize hx : sSto V i y = x at *
    have hrx : 0 ≤ tLi V s y i x ∧ tLi V s y i x ≤ i := cnt_rng (fun t => sIn s t ∧ sSto V t y = x) hi0
    simp only [hL, hΛ, z_lt_eq]
    rw [if_neg (by omega), if_pos (by omega), if_pos (by omega), if_pos (by omega)]
    have hs' : Sm M (z_wr m (c + 32) x (z_add (m (c + 32) x) 1)) := hs.tr (Sm.wr (hw _))
    have hL' := (h.sm hs').2.1
    simp only [hL', hΛ]
    rw [if_pos (by omega), z_wr_eq, hk x (by omega) (by omega), z_add_id (by omega) (by omega), z_w32_id (by omega) (by omega), z_w32_id (by omega) (by omega)]
    have hT1 : tLi V s y (i + 1) x = tLi V s y i x + 1 := by rw [hT, b2i_pos ⟨q1, rfl⟩]
    have hT2 : ∀ v, v ≠ x → tLi V s y (i + 1) v = tLi V s y i v := fun v q => by rw [hT, b2i_neg (fun r => q r.2.symm), Int.add_zero]
    rw [hk x (by omega) (by omega), z_add_id (by omega) (by omega)] at hs'
    refine ⟨(al + 1, z_max mo (tLi V s y i x + 1), zI x, z_wr m (c + 32) x (tLi V s y i x + 1)), rfl, hs', ?_, fun v v0 v1 => ?_, ?_⟩
    · dsimp only
      rw [cnt_s _ hi0, ha, b2i_pos ⟨q1, by omega⟩]
    · dsimp only
      by_cases r : v = x
      · rw [r, z_wr_eq, hT1]
      · rw [z_wr_ne (Or.inr r), hk v v0 v1, hT2 v r]
    · dsimp only
      have hmx := hm.2.1 x (by omega) (by omega)
      unfold z_max
      by_cases r : mo < tLi V s y i x + 1
      · rw [if_pos r]
        refine ⟨by omega, fun v v0 v1 => ?_, Or.inr ⟨x, by omega, by omega, hT1⟩⟩
        by_cases z : v = x
        · rw [z]; omega
        · rw [hT2 v z]; have := hm.2.1 v v0 v1; omega
      · rw [if_neg r]
        refine ⟨hm.1, fun v v0 v1 => ?_, ?_⟩
        · by_cases z : v = x
          · rw [z]; omega
          · rw [hT2 v z]; exact hm.2.1 v v0 v1
        · rcases hm.2.2 with d | ⟨v, v0, v1, d⟩
          · exact Or.inl d
          · refine Or.inr ⟨v, v0, v1, ?_⟩
            rw [hT2 v (fun z => by rw [z] at d; omega)]
            exact d) (s := (0, 0, zU, M1)) (by omega) ⟨hs1, rfl, fun v v0 v1 => hk1 v v0 v1, Int.le_refl _, fun v v0 v1 => Int.le_refl _, Or.inl rfl⟩
  dsimp only at e2 hs2 ha hk2 hm
  refine ⟨M2, ?_, hs2⟩
  rw [zr_X0_liesOf]
  refine z_out_some ?_
  rw [zb_X0_liesOf_0]
  try dsimp only at e1
  rw [e1, zb_X0_liesOf_1, if_neg (by decide), e2, zb_X0_liesOf_2]
  have hC2 := h.sm hs2
  have hL2 := hC2.2.1
  have hV2 := hC2.2.2.1
  simp only [hL2]
  simp only [hV2]
  rw [if_neg (by omega), ha, isMx_u hm (mx_is _ 9 (by omega))]
  rfl
theorem mx_w (hv : vOk V) (s : Int) {y : Int} (y0 : 0 ≤ y) (y1 : y < V 1 0) : mx (tLi V s y (V 7 0)) (V 3 y) = mx (tLi V s y (V 7 0)) 9 := by
  have hy := hv.2.1 y y0 y1
  have hN := hv.1
  have h1 := mx_is (tLi V s y (V 7 0)) (V 3 y) (by omega)
  have h2 := mx_is (tLi V s y (V 7 0)) 9 (by omega)
  have hz : ∀ v, V 3 y ≤ v → tLi V s y (V 7 0) v = 0 := fun v hv1 => by
    have : ∀ n, 0 ≤ n → tLi V s y n v = 0 := sm_ind rfl (fun n h ih => by
      show cnt _ (n + 1) = 0
      rw [cnt_s _ h, b2i_neg (fun r => by have := sSto_w hv n y; have := r.2; omega)]
      exact (Int.add_zero _).trans ih)
    exact this _ (by omega)
  refine isMx_u (f := tLi V s y (V 7 0)) (w := 9) ⟨h1.1, fun v v0 v1 => ?_, ?_⟩ h2
  · by_cases q : v < V 3 y
    · exact h1.2.1 v v0 q
    · rw [hz v (by omega)]; exact h1.1
  · rcases h1.2.2 with d | ⟨v, v0, v1, d⟩
    · exact Or.inl d
    · exact Or.inr ⟨v, v0, by omega, d⟩
theorem q_lies (h : gQ M c V) (s : Int) : Pr zm_X11_lies zm_X12_lies [zI s] M := by
  have hg := h
  obtain ⟨hn, hO, hC, hD⟩ := h
  have hN := hC.2.2.2.1
  have hT := hC.2.2.2.2.1
  have hL := hC.2.1
  have hΛ2 := zLo_ok
  rcases Classical.em (0 ≤ s ∧ s < z_shl 1 (V 7 0)) with q | q
  case inr =>
    have hs : Sm M (z_wr M 84 2 0) := Sm.wr (by decide)
    have hE := hD.sm hs
    refine ⟨[zI (-1)], M, z_wr M 84 2 0, ?_, ?_, hs⟩
    · rw [zr_X11_lies]
      refine z_out_some ?_
      rw [zb_X11_lies_0]
      simp only [hn, hL, e_X8_areThere hC, z_bI_mk]
      rw [b2i_neg q, if_pos rfl]
    · rw [zr_X12_lies]
      refine z_out_some ?_
      rw [zb_X12_lies_0, z_lt_eq, e_X12_isSet hE, z_bI_mk, b2i_neg q, if_pos rfl]
  obtain ⟨⟨a, M1⟩, e, hs1, hI⟩ := lp_ex (fun i (s' : Int × zM) => z_ev (zcd_X11_lies zLa) 1 [zA 11 0, zI s, zI s'.1, zI i] [] s'.2) (fun i s' => Sm M s'.2 ∧ s'.1 = fld (fun y a => z_add a (sLi V s y)) 0 i) (n := V 1 0) 0 (fun i s' hi0 hi1 ⟨hs, hI⟩ => by
    obtain ⟨a, m⟩ := s'
    dsimp only at hs hI
    have hg' := hg.sm hs
    have hL' := hg'.2.2.1.2.1
    have hV' := hg'.2.2.1.2.2.1
    obtain ⟨m2, e2, hs2⟩ := e_X0_liesOf hg'.2.2.1 s i
    refine ⟨(z_add a (sLi V s i), m2), ?_, hs.tr hs2, by dsimp only; rw [fld_s _ _ hi0, ← hI]⟩
    dsimp only
    rw [zb_X11_lies_1]
    simp only [hg'.1, hL', e2, z_bI_mk, z_w32_id (n := i + 1) (by omega) (by omega)]
    simp only [hV']
    rw [if_pos hi1]) (s := (0, M)) (by omega) ⟨Sm.rf M, rfl⟩
  dsimp only at e hs1 hI
  have hg1 := hg.sm hs1
  have hL1 := hg1.2.2.1.2.1
  have hV1 := hg1.2.2.1.2.2.1
  have hs : Sm M1 (z_wr M1 84 2 0) := Sm.wr (by decide)
  have hE := hg1.2.2.2.sm hs
  refine ⟨[zI (fld (fun y a => z_add a (sLi V s y)) 0 (V 1 0))], M1, z_wr M1 84 2 0, ?_, ?_, hs1.tr hs⟩
  · rw [zr_X11_lies]
    refine z_out_some ?_
    rw [zb_X11_lies_0]
    simp only [hn, hL, e_X8_areThere hC, z_bI_mk]
    rw [b2i_pos q, if_neg (by decide), e, zb_X11_lies_1]
    simp only [hg1.1, hL1]
    simp only [hV1]
    rw [if_neg (by omega), hI]
  · rw [zr_X12_lies]
    refine z_out_some ?_
    rw [zb_X12_lies_0, z_lt_eq]
    generalize z_wr M1 84 2 0 = N at hE ⊢
    rw [e_X12_isSet hE, z_bI_mk, b2i_pos q, if_neg (by decide)]
    obtain ⟨⟨a', w4, w5, w6, w7, w8⟩, e', hI'⟩ := lp_ex (fun i (s' : Int × zV × zV × zV × zV × zV) => z_ev (zcd_X12_lies zLa) 1 [zA 12 84, zI s, zI s'.1, zI i, s'.2.1, s'.2.2.1, s'.2.2.2.1, s'.2.2.2.2.1, s'.2.2.2.2.2] [] N) (fun i s' => s'.1 = fld (fun y a => z_add a (sLi V s y)) 0 i) (n := V 1 0) 0 (fun i s' hi0 hi1 hI => by
      obtain ⟨a, w4, w5, w6, w7, w8⟩ := s'
      dsimp only at hI
      have mt := hE.2.1.2.1 i hi0 hi1
      have hti := hT i hi0 hi1
      have hTr : ∀ v, 0 ≤ tLi V s i (V 7 0) v ∧ tLi V s i (V 7 0) v ≤ 5 := fun v => by have h1 : 0 ≤ tLi V s i (V 7 0) v ∧ tLi V s i (V 7 0) v ≤ V 7 0 := cnt_rng (fun t => sIn s t ∧ sSto V t i = v) (n := V 7 0) (by omega); omega
      obtain ⟨⟨al, mo, w7', w8'⟩, e2, ha, hm, -⟩ := lp_ex (fun v (s' : Int × Int × zV × zV) => z_ev (zcd_X12_lies zLa) 2 [zA 12 84, zI s, zI a, zI i, zI s'.1, zI s'.2.1, zI v, s'.2.2.1, s'.2.2.2] [] N) (fun v s' => s'.1 = sm (tLi V s i (V 7 0)) v ∧ s'.2.1 = mx (tLi V s i (V 7 0)) v ∧ 0 ≤ s'.1 ∧ s'.1 ≤ 5 * v) (n := V 3 i) 0 (fun v s' hv0 hv1 ⟨ha, hm, hr0, hr1⟩ => by
        obtain ⟨al, mo, w7, w8⟩ := s'
        dsimp only at ha hm hr0 hr1
        dsimp only
        rw [zb_X12_lies_2]
        simp only [hE.1, hΛ2]
        rw [if_pos (by omega), mt.2.1, if_pos hv1]
        have e3 := lp_fld (fun t x => z_ev (zcd_X12_lies zLa) 3 [zA 12 84, zI s, zI a, zI i, zI al, zI mo, zI v, zI x, zI t] [] N) (fun t x => x + b2i (sIn s t ∧ sSto V t i = v)) 0 (n := V 7 0) (by omega) (fun t x ht0 ht1 hx => by
          have hx' : x = cnt (fun t => sIn s t ∧ sSto V t i = v) t := by
            rw [hx]
            have : ∀ n, 0 ≤ n → fld (fun t x => x + b2i (sIn s t ∧ sSto V t i = v)) 0 n = cnt (fun t => sIn s t ∧ sSto V t i = v) n := sm_ind rfl (fun n h ih => by rw [fld_s _ _ h, cnt_s _ h, ih])
            exact this t ht0
          have hxr := cnt_rng (fun t => sIn s t ∧ sSto V t i = v) ht0
          try dsimp only
          rw [zb_X12_lies_3]
          simp only [hE.2.1.1, e_X12_isOf, e_X12_storyOf hE, z_bI_mk, z_w32_id (n := t + 1) (by omega) (by omega), z_add_id (a := x) (b := 0) (by omega) (by omega), z_add_id (a := x) (b := 1) (by omega) (by omega)]
          rw [if_pos ht1]
          by_cases q1 : sIn s t
          · rw [b2i_pos q1, if_neg (by decide)]
            by_cases q2 : sSto V t i = v
            · rw [if_pos q2, b2i_pos ⟨q1, q2⟩]
            · rw [if_neg q2, b2i_neg (fun r => q2 r.2)]
          · rw [b2i_neg q1, if_pos rfl, b2i_neg (fun r => q1 r.1)])
        have hfc : fld (fun t x => x + b2i (sIn s t ∧ sSto V t i = v)) 0 (V 7 0) = tLi V s i (V 7 0) v := by
          have : ∀ n, 0 ≤ n → fld (fun t x => x + b2i (sIn s t ∧ sSto V t i = v)) 0 n = cnt (fun t => sIn s t ∧ sSto V t i = v) n := sm_ind rfl (fun n h ih => by rw [fld_s _ _ h, cnt_s _ h, ih])
          exact this _ (by omega)
        try dsimp only at e3
        rw [e3, hfc, zb_X12_lies_3]
        simp only [hE.2.1.1]
        have hTv := hTr v
        rw [if_neg (by omega), z_add_id (by omega) (by omega), z_w32_id (by omega) (by omega)]
        have hmx := mx_s (tLi V s i (V 7 0)) hv0
        rw [← hm] at hmx
        by_cases q1 : tLi V s i (V 7 0) v ≤ mo
        · rw [if_pos q1]
          rw [if_pos q1] at hmx
          exact ⟨(al + tLi V s i (V 7 0) v, mo, _, _), rfl, by dsimp only; rw [sm_s _ hv0, ha], hmx.symm, by dsimp only; omega, by dsimp only; omega⟩
        · rw [if_neg q1]
          rw [if_neg q1] at hmx
          exact ⟨(al + tLi V s i (V 7 0) v, tLi V s i (V 7 0) v, _, _), rfl, by dsimp only; rw [sm_s _ hv0, ha], hmx.symm, by dsimp only; omega, by dsimp only; omega⟩) (s := (0, 0, w7, w8)) (by omega) ⟨rfl, rfl, Int.le_refl _, Int.le_refl _⟩
      dsimp only at e2 ha hm
      refine ⟨(z_add a (sLi V s i), zI al, zI mo, zI (V 3 i), w7', w8'), ?_, by dsimp only; rw [fld_s _ _ hi0, ← hI]⟩
      · dsimp only
        rw [zb_X12_lies_1]
        simp only [hE.2.1.1]
        rw [if_pos hi1, e2, zb_X12_lies_2]
        simp only [hE.1, hΛ2]
        rw [if_pos (by omega), mt.2.1, if_neg (by omega), z_w32_id (by omega) (by omega), ha, hm, mx_w hC.2.2.2 s hi0 hi1, show sm (tLi V s i (V 7 0)) (V 3 i) = cnt (fun t => sIn s t ∧ sSto V t i ≠ -1) (V 7 0) from sm_cnt (sIn s) (fun t => sSto V t i) (by omega) (V 7 0) (fun t _ _ => sSto_w hC.2.2.2 t i) (V 7 0) (by omega) (by omega)]
        rfl) (s := (0, zU, zU, zU, zU, zU)) (by omega) rfl
    dsimp only at e' hI'
    rw [e', zb_X12_lies_1]
    simp only [hE.2.1.1]
    rw [if_neg (by omega), hI']
end
