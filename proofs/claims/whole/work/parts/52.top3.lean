/-! ===== loops with a state; supposed, together, lies ===== -/
/-- up a loop: some state at the end keeps what is kept -/
theorem lp_ex {σ R : Type} (F : Int → σ → R) (I : Int → σ → Prop) {n : Int} (lo : Int) (h : ∀ i s, lo ≤ i → i < n → I i s → ∃ s', F i s = F (i + 1) s' ∧ I (i + 1) s') {s : σ} (h0 : lo ≤ n) (hI : I lo s) : ∃ s', F lo s = F n s' ∧ I n s' := by
  have H : ∀ (m : Nat) (i : Int) (s : σ), lo ≤ i → n - i = m → I i s → ∃ s', F i s = F n s' ∧ I n s' := by
    intro m
    induction m with
    | zero =>
      intro i s _ hm hI
      have : i = n := by omega
      subst this
      exact ⟨s, rfl, hI⟩
    | succ m ih =>
      intro i s h0 hm hI
      obtain ⟨s1, e, hI'⟩ := h i s h0 (by omega) hI
      obtain ⟨s', e', hI''⟩ := ih (i + 1) s1 (by omega) (by omega) hI'
      exact ⟨s', e.trans e', hI''⟩
  exact H (n - lo).toNat lo s (Int.le_refl _) (by omega) hI
def fldN (g : Int → Int → Int) (a : Int) : Nat → Int
  | 0 => a
  | n + 1 => g n (fldN g a n)
def fld (g : Int → Int → Int) (a n : Int) : Int := fldN g a n.toNat
theorem fld_0 (g : Int → Int → Int) (a : Int) : fld g a 0 = a := rfl
theorem fld_s (g : Int → Int → Int) (a : Int) {n : Int} (h : 0 ≤ n) : fld g a (n + 1) = g n (fld g a n) := by
  unfold fld
  have e : (n + 1).toNat = n.toNat + 1 := by omega
  rw [e]
  show g (n.toNat : Int) (fldN g a n.toNat) = _
  rw [Int.toNat_of_nonneg h]
theorem fld_congr {g g' : Int → Int → Int} {a n : Int} (h : ∀ k x, 0 ≤ k → k < n → g k x = g' k x) : fld g a n = fld g' a n := by
  unfold fld
  have : ∀ m : Nat, (m : Int) ≤ n → fldN g a m = fldN g' a m := by
    intro m
    induction m with
    | zero => intro _; rfl
    | succ m ih =>
      intro hm
      show g m (fldN g a m) = g' m (fldN g' a m)
      rw [ih (by omega), h m _ (by omega) (by omega)]
  by_cases hn : 0 ≤ n
  · exact this _ (by omega)
  · have : n.toNat = 0 := by omega
    rw [this]
    rfl
theorem lp_fld {R : Type} (F : Int → Int → R) (g : Int → Int → Int) (a0 : Int) {n : Int} (hn : 0 ≤ n) (h : ∀ i a, 0 ≤ i → i < n → a = fld g a0 i → F i a = F (i + 1) (g i a)) : F 0 a0 = F n (fld g a0 n) := by
  obtain ⟨s, e, h1⟩ := lp_ex F (fun i a => a = fld g a0 i) 0 (fun i a h0 h1 hI => ⟨g i a, h i a h0 h1 hI, by rw [fld_s _ _ h0, ← hI]⟩) (s := a0) hn rfl
  rw [e, h1]
section
variable {M V : zM} {c : Int}
theorem q_fault (h : gQ M c V) (hf : M 1 2 = M 84 4 ∧ M 1 3 = M 84 5) (w : Int) : Pr zm_X11_fault zm_X12_fault [zI w] M := by
  obtain ⟨hn, hO, hC, hD⟩ := h
  have hs : Sm M (z_wr M 84 2 0) := Sm.wr (by decide)
  refine ⟨[zI (if w = 0 then M 84 4 else if w = 1 then M 84 5 else -1)], M, z_wr M 84 2 0, ?_, ?_, hs⟩
  · rw [zr_X11_fault]
    refine z_out_some ?_
    rw [zb_X11_fault_0]
    simp only [hO.2.1, hf.1, hf.2]
    repeat' split
    all_goals rfl
  · rw [zr_X12_fault]
    refine z_out_some ?_
    rw [zb_X12_fault_0, z_lt_eq, z_wr_ne (Or.inr (by decide)), z_wr_ne (Or.inr (by decide))]
    repeat' split
    all_goals rfl
noncomputable def gSp (V : zM) (t i a : Int) : Int := cite (sHt V i t ∧ sSup V i) (z_or a (z_shl 1 (V 17 i))) a
noncomputable def sSp (V : zM) (t : Int) : Int := fld (gSp V t) 0 (V 13 0)
theorem sSup_tp (hv : vOk V) {t k : Int} (h0 : 0 ≤ k) (h1 : k < V 13 0) (ht : V 15 k = t) (hb : V 10 t < V 12 t) : sSup V k ↔ (sTp V k ∧ sRi V k ∧ sHad (V 6 (V 17 k)) (V 12 t) ∧ ¬ ∃ i, 0 ≤ i ∧ i < k ∧ V 14 i = 0 ∧ sSt V i k ∧ sTp V i) := by
  subst ht
  have hk := hv.2.2.2.1 k h0 h1
  have hs := hv.2.2.1 (V 15 k) (by omega) (by omega)
  constructor
  · rintro ⟨a, b, d, e, f⟩
    exact ⟨⟨by omega, b⟩, d, e, fun ⟨i, x, y, z, w, u⟩ => f i x y ⟨z, w, by have := u.2; rw [w.1] at this; exact this⟩⟩
  · rintro ⟨a, d, e, f⟩
    exact ⟨hb, a.2, d, e, fun i x y ⟨z, w, u⟩ => f ⟨i, x, y, z, w, by have e := w.1; exact ⟨by rw [e]; omega, by rw [e]; exact u⟩⟩⟩
theorem q_supposed (h : gQ M c V) (t : Int) : Pr zm_X11_supposed zm_X12_supposed [zI t] M := by
  obtain ⟨hn, hO, hC, hD⟩ := h
  have hs : Sm M (z_wr M 84 2 0) := Sm.wr (by decide)
  have hE := hD.sm hs
  have hL := hC.2.1
  have hN := hC.2.2.2.1
  have hl := hC.2.2.2.2.2.2.1
  have hS := hC.2.2.2.2.2.1
  have hV := hC.2.2.1
  have hΛ := zLc_of hC.1
  have hΛ2 := zLo_ok
  refine ⟨[zI (cite (0 ≤ t ∧ t < V 7 0) (sSp V t) (-1))], M, z_wr M 84 2 0, ?_, ?_, hs⟩
  · rw [zr_X11_supposed]
    refine z_out_some ?_
    rw [zb_X11_supposed_0]
    simp only [hn, hL, e_X8_has hC, z_bI_mk]
    rcases Classical.em (0 ≤ t ∧ t < V 7 0) with q | q
    case inr => rw [b2i_neg q, cite_neg q, if_pos rfl]
    rw [b2i_pos q, if_neg (by decide), cite_pos q]
    have e := lp_fld (fun i (a : Int) => z_ev (zcd_X11_supposed zLa) 1 [zA 11 0, zI t, zI a, zI i] [] M) (gSp V t) 0 (n := V 13 0) (by omega) (fun i a hi0 hi1 hI => by
      unfold gSp
      try dsimp only
      rw [zb_X11_supposed_1]
      simp only [hn, hL, hΛ, e_X0_isHeardWordOf hC, e_X0_supposesMore hC hi0 hi1, z_bI_mk, z_w32_id (n := i + 1) (by omega) (by omega)]
      simp only [hV]
      rw [if_pos hi1]
      rcases Classical.em (sHt V i t) with w1 | w1
      · rw [b2i_pos w1, if_neg (by decide)]
        rcases Classical.em (sSup V i) with w2 | w2
        · rw [b2i_pos w2, if_neg (by decide), if_pos (by omega), cite_pos ⟨w1, w2⟩]
        · rw [b2i_neg w2, if_pos rfl, cite_neg (fun r => w2 r.2)]
      · rw [b2i_neg w1, if_pos rfl, cite_neg (fun r => w1 r.1)])
    try dsimp only at e
    rw [e, zb_X11_supposed_1]
    simp only [hn, hL]
    simp only [hV]
    rw [if_neg (by omega)]
    rfl
  · rw [zr_X12_supposed]
    refine z_out_some ?_
    rw [zb_X12_supposed_0, z_lt_eq]
    generalize z_wr M 84 2 0 = N at hE ⊢
    simp only [e_X12_isTeller hE, hE.1, hΛ2, z_bI_mk]
    rcases Classical.em (0 ≤ t ∧ t < V 7 0) with q | q
    case inr => rw [b2i_neg q, cite_neg q, if_pos rfl]
    have ms := hE.2.1.2.2.1 t q.1 q.2
    have hst := hS t q.1 q.2
    simp only [ms]
    rw [b2i_pos q, if_neg (by decide), cite_pos q, if_pos (by omega), if_pos (by omega)]
    by_cases q1 : V 12 t ≤ V 10 t
    · rw [if_pos q1]
      have : sSp V t = 0 := by
        unfold sSp
        rw [fld_congr (g := gSp V t) (g' := fun _ a => a) (fun k a k0 k1 => cite_neg (fun r => by have h1 := r.1.2.2.2.2; have h2 := r.2.1; rw [h1] at h2; omega))]
        have : ∀ m : Nat, fldN (fun _ a => a) 0 m = 0 := by
          intro m
          induction m with
          | zero => rfl
          | succ m ih => exact ih
        exact this _
      rw [this]
    rw [if_neg q1]
    have e := lp_fld (fun i (a : Int) => z_ev (zcd_X12_supposed zLa) 1 [zA 12 84, zI t, zI a, zI i] [] N) (gSp V t) 0 (n := V 13 0) (by omega) (fun i a hi0 hi1 hI => by
      unfold gSp
      have mi := hE.2.1.2.2.2.1 i hi0 hi1
      have hli := hl i hi0 hi1
      have mt := hE.2.1.2.1 (V 17 i) (by omega) (by omega)
      have htk := hC.2.2.2.2.1 (V 17 i) (by omega) (by omega)
      try dsimp only
      rw [zb_X12_supposed_1]
      simp only [hE.1, hΛ2, hE.2.1.1, e_X12_isHeardWord hE, e_X12_isRight hE hi0 hi1, e_X12_isTaped hE hi0 hi1, e_X12_had, z_bI_mk, z_w32_id (n := i + 1) (by omega) (by omega)]
      simp only [mi, ms, mt]
      rw [if_pos hi1]
      rcases Classical.em (sHw V i) with w1 | w1
      case inr => rw [b2i_neg w1, if_pos rfl, cite_neg (fun r => w1 ⟨r.1.1, r.1.2.1, r.1.2.2.1, r.1.2.2.2.1⟩)]
      rw [b2i_pos w1, if_neg (by decide), if_pos (by omega), e_X12_wasAsked hE hi0 hi1 w1.2.2.1, z_bI_mk, had_eq (by omega)]
      simp only [hE.1, hΛ2, mi]
      by_cases w2 : V 15 i = t
      case neg => rw [if_neg w2, cite_neg (fun r => w2 r.1.2.2.2.2)]
      rw [if_pos w2]
      have hx := sSup_tp hC.2.2.2 hi0 hi1 w2 (by omega)
      have hy : sHt V i t := ⟨w1.1, w1.2.1, w1.2.2.1, w1.2.2.2, w2⟩
      rcases Classical.em (sTp V i) with w3 | w3
      case inr => rw [b2i_neg w3, if_pos rfl, cite_neg (fun r => w3 (hx.1 r.2).1)]
      rw [b2i_pos w3, if_neg (by decide)]
      rcases Classical.em (sRi V i) with w4 | w4
      case inr => rw [b2i_neg w4, if_pos rfl, cite_neg (fun r => w4 (hx.1 r.2).2.1)]
      rw [b2i_pos w4, if_neg (by decide), if_pos (by omega), if_pos (by omega), if_pos (by omega)]
      rcases Classical.em (sHad (V 6 (V 17 i)) (V 12 t)) with w5 | w5
      case inr => rw [b2i_neg w5, if_pos rfl, cite_neg (fun r => w5 (hx.1 r.2).2.2.1)]
      rw [b2i_pos w5, if_neg (by decide)]
      rcases Classical.em (∃ j, 0 ≤ j ∧ j < i ∧ V 14 j = 0 ∧ sSt V j i ∧ sTp V j) with w6 | w6
      · rw [b2i_pos w6, if_neg (by decide), cite_neg (fun r => (hx.1 r.2).2.2.2 w6)]
      · rw [b2i_neg w6, if_pos rfl, if_pos (by omega), cite_pos ⟨hy, hx.2 ⟨w3, w4, w5, w6⟩⟩])
    try dsimp only at e
    rw [e, zb_X12_supposed_1]
    simp only [hE.1, hΛ2, hE.2.1.1]
    rw [if_neg (by omega)]
    rfl
end
