/-! ===== sets of tellers: together, lies ===== -/
def zBc (x0 : Int) : Int := (z_and (z_add (z_add (z_and (z_add (z_add (z_and (z_sub x0 (z_and (z_ushr x0 (1:Int)) (1431655765:Int))) (858993459:Int)) (z_and (z_ushr (z_sub x0 (z_and (z_ushr x0 (1:Int)) (1431655765:Int))) (2:Int)) (858993459:Int))) (z_ushr (z_add (z_and (z_sub x0 (z_and (z_ushr x0 (1:Int)) (1431655765:Int))) (858993459:Int)) (z_and (z_ushr (z_sub x0 (z_and (z_ushr x0 (1:Int)) (1431655765:Int))) (2:Int)) (858993459:Int))) (4:Int))) (252645135:Int)) (z_ushr (z_and (z_add (z_add (z_and (z_sub x0 (z_and (z_ushr x0 (1:Int)) (1431655765:Int))) (858993459:Int)) (z_and (z_ushr (z_sub x0 (z_and (z_ushr x0 (1:Int)) (1431655765:Int))) (2:Int)) (858993459:Int))) (z_ushr (z_add (z_and (z_sub x0 (z_and (z_ushr x0 (1:Int)) (1431655765:Int))) (858993459:Int)) (z_and (z_ushr (z_sub x0 (z_and (z_ushr x0 (1:Int)) (1431655765:Int))) (2:Int)) (858993459:Int))) (4:Int))) (252645135:Int)) (8:Int))) (z_ushr (z_add (z_and (z_add (z_add (z_and (z_sub x0 (z_and (z_ushr x0 (1:Int)) (1431655765:Int))) (858993459:Int)) (z_and (z_ushr (z_sub x0 (z_and (z_ushr x0 (1:Int)) (1431655765:Int))) (2:Int)) (858993459:Int))) (z_ushr (z_add (z_and (z_sub x0 (z_and (z_ushr x0 (1:Int)) (1431655765:Int))) (858993459:Int)) (z_and (z_ushr (z_sub x0 (z_and (z_ushr x0 (1:Int)) (1431655765:Int))) (2:Int)) (858993459:Int))) (4:Int))) (252645135:Int)) (z_ushr (z_and (z_add (z_add (z_and (z_sub x0 (z_and (z_ushr x0 (1:Int)) (1431655765:Int))) (858993459:Int)) (z_and (z_ushr (z_sub x0 (z_and (z_ushr x0 (1:Int)) (1431655765:Int))) (2:Int)) (858993459:Int))) (z_ushr (z_add (z_and (z_sub x0 (z_and (z_ushr x0 (1:Int)) (1431655765:Int))) (858993459:Int)) (z_and (z_ushr (z_sub x0 (z_and (z_ushr x0 (1:Int)) (1431655765:Int))) (2:Int)) (858993459:Int))) (4:Int))) (252645135:Int)) (8:Int))) (16:Int))) (63:Int))
def sMany (x : Int) : Int := fld (fun k a => z_add a (z_and (z_shr x k) 1)) 0 16
abbrev sIn (s t : Int) : Prop := z_and (z_shr s t) 1 = 1
theorem fin_of {n : Nat} {p : Int → Prop} (H : ∀ x : Fin n, p ((x.val : Nat) : Int)) {x : Int} (h0 : 0 ≤ x) (h1 : x < n) : p x := by
  have := H ⟨x.toNat, by omega⟩
  rwa [show (((⟨x.toNat, by omega⟩ : Fin n).val : Nat) : Int) = x from Int.toNat_of_nonneg h0] at this
theorem bc_many {x : Int} (h0 : 0 ≤ x) (h1 : x < 32) : zBc x = sMany x := fin_of (n := 32) (p := fun x => zBc x = sMany x) (by decide +kernel) h0 h1
theorem many_rng {x : Int} (h0 : 0 ≤ x) (h1 : x < 32) : 0 ≤ sMany x ∧ sMany x ≤ 5 := fin_of (n := 32) (p := fun x => 0 ≤ sMany x ∧ sMany x ≤ 5) (by decide +kernel) h0 h1
theorem shl_rng {n : Int} (h0 : 0 ≤ n) (h1 : n < 6) : 1 ≤ z_shl 1 n ∧ z_shl 1 n ≤ 32 := fin_of (n := 6) (p := fun n => 1 ≤ z_shl 1 n ∧ z_shl 1 n ≤ 32) (by decide +kernel) h0 h1
theorem or_rng {x m : Int} (x0 : 0 ≤ x) (x1 : x < 32) (m0 : 0 ≤ m) (m1 : m < 5) : 0 ≤ z_or x (z_shl 1 m) ∧ z_or x (z_shl 1 m) < 32 := fin_of (n := 32) (p := fun x => 0 ≤ z_or x (z_shl 1 m) ∧ z_or x (z_shl 1 m) < 32) (fin_of (n := 5) (p := fun m => ∀ x : Fin 32, 0 ≤ z_or ((x.val : Nat) : Int) (z_shl 1 m) ∧ z_or ((x.val : Nat) : Int) (z_shl 1 m) < 32) (by decide +kernel) m0 m1) x0 x1
theorem bt_or {x m b : Int} (x0 : 0 ≤ x) (x1 : x < 32) (m0 : 0 ≤ m) (m1 : m < 5) (b0 : 0 ≤ b) (b1 : b < 5) : sIn (z_or x (z_shl 1 m)) b ↔ (sIn x b ∨ b = m) := fin_of (n := 32) (p := fun x => sIn (z_or x (z_shl 1 m)) b ↔ (sIn x b ∨ b = m)) (fin_of (n := 5) (p := fun m => ∀ x : Fin 32, sIn (z_or ((x.val : Nat) : Int) (z_shl 1 m)) b ↔ (sIn ((x.val : Nat) : Int) b ∨ b = m)) (fin_of (n := 5) (p := fun b => ∀ m : Fin 5, ∀ x : Fin 32, sIn (z_or ((x.val : Nat) : Int) (z_shl 1 ((m.val : Nat) : Int))) b ↔ (sIn ((x.val : Nat) : Int) b ∨ b = ((m.val : Nat) : Int))) (by decide +kernel) b0 b1) m0 m1) x0 x1
theorem bt_0 {b : Int} (b0 : 0 ≤ b) (b1 : b < 5) : ¬ sIn 0 b := fin_of (n := 5) (p := fun b => ¬ sIn 0 b) (by decide +kernel) b0 b1
theorem bt_and {x y : Int} (x0 : 0 ≤ x) (x1 : x < 32) (y0 : 0 ≤ y) (y1 : y < 32) : z_and x y = 0 ↔ ∀ b, 0 ≤ b → b < 5 → ¬ (sIn x b ∧ sIn y b) := by
  have H : z_and x y = 0 ↔ ∀ b : Fin 5, ¬ (sIn x ((b.val : Nat) : Int) ∧ sIn y ((b.val : Nat) : Int)) := fin_of (n := 32) (p := fun x => z_and x y = 0 ↔ ∀ b : Fin 5, ¬ (sIn x ((b.val : Nat) : Int) ∧ sIn y ((b.val : Nat) : Int))) (fin_of (n := 32) (p := fun y => ∀ x : Fin 32, z_and ((x.val : Nat) : Int) y = 0 ↔ ∀ b : Fin 5, ¬ (sIn ((x.val : Nat) : Int) ((b.val : Nat) : Int) ∧ sIn y ((b.val : Nat) : Int))) (by decide +kernel) y0 y1) x0 x1
  rw [H]
  exact ⟨fun h b b0 b1 => fin_of (n := 5) (p := fun b => ¬ (sIn x b ∧ sIn y b)) h b0 b1, fun h b => h _ (by omega) (by omega)⟩
theorem e_bitCount {x : Int} (h0 : 0 ≤ x) (h1 : x < 32) (M : zM) : zm_J6_bitCount_0f7a4 zLa [zI x] M = some ([zI (sMany x)], M) := by
  rw [zr_J6_bitCount_0f7a4]
  refine z_out_some ?_
  rw [zb_J6_bitCount_0f7a4_0, ← bc_many h0 h1]
  rfl
theorem e_X12_many (x : Int) (M : zM) : zm_X12_many zLa [zI x] M = some ([zI (sMany x)], M) := by
  rw [zr_X12_many]
  refine z_out_some ?_
  rw [zb_X12_many_0]
  have e := lp_fld (fun i (a : Int) => z_ev (zcd_X12_many zLa) 1 [zI x, zI a, zI i] [] M) (fun k a => z_add a (z_and (z_shr x k) 1)) 0 (n := 16) (by omega) (fun i a hi0 hi1 hI => by
    rw [zb_X12_many_1, if_pos hi1, z_w32_id (by omega) (by omega)])
  try dsimp only at e
  rw [e, zb_X12_many_1, if_neg (by decide)]
  rfl
theorem e_X11_isIn (s t : Int) (M : zM) : zm_X11_isIn zLa [zI s, zI t] M = some ([zI (b2i (sIn s t))], M) := by
  rw [zr_X11_isIn]
  refine z_out_some ?_
  rw [zb_X11_isIn_0]
  by_cases q : sIn s t
  · rw [if_pos q, b2i_pos q]
  · rw [if_neg q, b2i_neg q]
theorem e_X12_isOf (s t : Int) (M : zM) : zm_X12_isOf zLa [zI s, zI t] M = some ([zI (b2i (sIn s t))], M) := by
  rw [zr_X12_isOf]
  refine z_out_some ?_
  rw [zb_X12_isOf_0]
  by_cases q : sIn s t
  · rw [if_pos q, b2i_pos q]
  · rw [if_neg q, b2i_neg q]
section
variable {M V : zM} {c : Int}
theorem e_X8_areThere (h : cOk M c V) (s : Int) : zm_X8_areThere zLa [zA 8 (c + 7), zI s] M = some ([zI (b2i (0 ≤ s ∧ s < z_shl 1 (V 7 0)))], M) := by
  obtain ⟨hc, hL, hV, hN, hT, hS, hl, hm, hp⟩ := h
  rw [zr_X8_areThere]
  refine z_out_some ?_
  rw [zb_X8_areThere_0]
  simp only [hV]
  repeat' split
  all_goals first | (rw [b2i_pos (by omega)]; done) | (rw [b2i_neg (by omega)]; done) | (exfalso; omega)
theorem e_X12_isSet (h : mOk M V) (s : Int) : zm_X12_isSet zLa [zA 12 84, zI s] M = some ([zI (b2i (0 ≤ s ∧ s < z_shl 1 (V 7 0)))], M) := by
  rw [zr_X12_isSet]
  refine z_out_some ?_
  rw [zb_X12_isSet_0]
  simp only [h.2.1.1]
  repeat' split
  all_goals first | (rw [b2i_pos (by omega)]; done) | (rw [b2i_neg (by omega)]; done) | (exfalso; omega)
abbrev sFo (V : zM) (a b : Int) : Prop := a ≠ b ∧ 0 < sCl V a b
theorem sCl_sym (V : zM) (a b : Int) : sCl V a b = sCl V b a := cnt_congr (fun k _ _ => by constructor <;> (intro q; exact ⟨q.2.1, q.1, fun r => q.2.2 r.symm⟩))
theorem sCl_0 (hv : vOk V) (a b : Int) : 0 ≤ sCl V a b := (cnt_rng _ hv.1.1).1
/-- the foes of a teller stand in the memory -/
abbrev kFoe (V M : zM) (c a m : Int) : Prop := 0 ≤ M (c + 31) a ∧ M (c + 31) a < 32 ∧ ∀ b, 0 ≤ b → b < 5 → (sIn (M (c + 31) a) b ↔ (b < m ∧ sFo V a b))
theorem e_X0_findFoes (h : cOk M c V) : ∃ M', zm_X0_findFoes zLa [zA 0 c] M = some ([], M') ∧ Sm M M' ∧ ∀ a, 0 ≤ a → a < V 7 0 → kFoe V M' c a (V 7 0) := by
  have hN := h.2.2.2.1
  have hc := h.1
  have hΛ := zLc_of hc
  have hw : ∀ k, Scr (c + 31) k := fun k => by rcases hc with rfl | rfl <;> (unfold Scr; omega)
  obtain ⟨⟨w, M'⟩, e, hs, hk⟩ := lp_ex (fun i (s : zV × zM) => z_ev (zcd_X0_findFoes zLa) 1 [zA 0 c, zI i, s.1] [] s.2) (fun i s => Sm M s.2 ∧ ∀ a, 0 ≤ a → a < i → kFoe V s.2 c a (V 7 0)) (n := V 7 0) 0 (fun i s hi0 hi1 ⟨hs, hk⟩ => by
    obtain ⟨w, M'⟩ := s
    dsimp only at hs hk
    have hC := h.sm hs
    have hL := hC.2.1
    have hV := hC.2.2.1
    have hs1 : Sm M (z_wr M' (c + 31) i 0) := hs.tr (Sm.wr (hw i))
    obtain ⟨M2, e2, hs2, hk2, hk3⟩ := lp_ex (fun b (s : zM) => z_ev (zcd_X0_findFoes zLa) 2 [zA 0 c, zI i, zI b] [] s) (fun b s => Sm M s ∧ (∀ a, 0 ≤ a → a < i → kFoe V s c a (V 7 0)) ∧ kFoe V s c i b) (n := V 7 0) 0 (fun b s hb0 hb1 ⟨hs, hk, hk3⟩ => by
      have hC := h.sm hs
      have hL := hC.2.1
      have hV := hC.2.2.1
      rw [zb_X0_findFoes_2]
      simp only [hL, hΛ, e_X0_clashes hC, z_bI_mk, z_w32_id (n := b + 1) (by omega) (by omega), z_lt_eq]
      simp only [hV]
      rw [if_pos hb1]
      have hno : ¬ sFo V i b → ∀ b', 0 ≤ b' → b' < 5 → (sIn (s (c + 31) i) b' ↔ (b' < b + 1 ∧ sFo V i b')) := fun q b' x0 x1 => by
        rw [hk3.2.2 b' x0 x1]
        constructor
        · rintro ⟨r1, r2⟩; exact ⟨by omega, r2⟩
        · rintro ⟨r1, r2⟩
          refine ⟨?_, r2⟩
          rcases (by omega : b' < b ∨ b' = b) with r | r
          · exact r
          · subst r; exact absurd r2 q
      by_cases q1 : i = b
      · rw [if_pos q1]
        exact ⟨s, rfl, hs, hk, hk3.1, hk3.2.1, hno (fun r => r.1 q1)⟩
      rw [if_neg q1]
      by_cases q2 : sCl V i b ≤ 0
      · rw [if_pos q2]
        exact ⟨s, rfl, hs, hk, hk3.1, hk3.2.1, hno (fun r => by have := r.2; omega)⟩
      rw [if_neg q2, if_pos (by omega), if_pos (by omega)]
      have ho := or_rng hk3.1 hk3.2.1 hb0 (by omega)
      refine ⟨_, rfl, hs.tr (Sm.wr (hw i)), fun a a0 a1 => ?_, ?_, ?_, fun b' x0 x1 => ?_⟩
      · have hka := hk a a0 a1
        unfold kFoe
        rw [z_wr_ne (Or.inr (by omega))]
        exact hka
      · rw [z_wr_eq]; exact ho.1
      · rw [z_wr_eq]; exact ho.2
      · rw [z_wr_eq, bt_or hk3.1 hk3.2.1 hb0 (by omega) x0 x1, hk3.2.2 b' x0 x1]
        constructor
        · rintro (⟨r1, r2⟩ | r)
          · exact ⟨by omega, r2⟩
          · subst r; exact ⟨by omega, q1, by omega⟩
        · rintro ⟨r1, r2⟩
          rcases (by omega : b' < b ∨ b' = b) with r | r
          · exact Or.inl ⟨r, r2⟩
          · exact Or.inr r) (s := z_wr M' (c + 31) i 0) (by omega) (by
      refine ⟨hs1, fun a a0 a1 => ?_, ?_, ?_, fun b' x0 x1 => ?_⟩
      · have hka := hk a a0 a1
        unfold kFoe
        rw [z_wr_ne (Or.inr (by omega))]
        exact hka
      · rw [z_wr_eq]; decide
      · rw [z_wr_eq]; decide
      · rw [z_wr_eq]
        exact ⟨fun r => absurd r (bt_0 x0 x1), fun r => by have := r.1; omega⟩)
    refine ⟨(zI (V 7 0), M2), ?_, hs2, fun a a0 a1 => ?_⟩
    · rw [zb_X0_findFoes_1]
      simp only [hL, hΛ, z_lt_eq]
      simp only [hV]
      rw [if_pos hi1, if_pos (by omega)]
      try dsimp only at e2
      rw [e2, zb_X0_findFoes_2]
      have hC2 := h.sm hs2
      have hL2 := hC2.2.1
      have hV2 := hC2.2.2.1
      simp only [hL2, hΛ]
      simp only [hV2]
      rw [if_neg (by omega), z_w32_id (by omega) (by omega)]
    · rcases (by omega : a < i ∨ a = i) with r | r
      · exact hk2 a a0 r
      · subst r; exact hk3) (s := (zU, M)) (by omega) ⟨Sm.rf M, fun a a0 a1 => absurd a1 (by omega)⟩
  try dsimp only at e
  try dsimp only at hs
  try dsimp only at hk
  refine ⟨M', ?_, hs, hk⟩
  rw [zr_X0_findFoes]
  refine z_out_some ?_
  rw [zb_X0_findFoes_0]
  try dsimp only at e
  rw [e, zb_X0_findFoes_1]
  have hC2 := h.sm hs
  have hL2 := hC2.2.1
  have hV2 := hC2.2.2.1
  simp only [hC2.2.1]
  simp only [hV2]
  rw [if_neg (by omega)]
abbrev sGo (V : zM) (s : Int) : Prop := ∀ a, 0 ≤ a → a < V 7 0 → sIn s a → ∀ b, 0 ≤ b → b < V 7 0 → sIn s b → ¬ sFo V a b
theorem e_X0_goTogether (h : cOk M c V) (hk : ∀ a, 0 ≤ a → a < V 7 0 → kFoe V M c a (V 7 0)) {s : Int} (s0 : 0 ≤ s) (s1 : s < 32) : zm_X0_goTogether zLa [zA 0 c, zI s] M = some ([zI (b2i (sGo V s))], M) := by
  have hN := h.2.2.2.1
  have hL := h.2.1
  have hV := h.2.2.1
  have hΛ := zLc_of h.1
  rw [zr_X0_goTogether]
  refine z_out_some ?_
  rw [zb_X0_goTogether_0]
  have hf := lp_find (fun i => z_ev (zcd_X0_goTogether zLa) 1 [zA 0 c, zI s, zI i] [] M) (fun i => sIn s i ∧ z_and s (M (c + 31) i) ≠ 0) (n := V 7 0) (by omega) (A := fun _ => some (.inl ([zI 0], M))) (B := some (.inl ([zI 1], M))) (fun i a b hq => by
      rw [zb_X0_goTogether_1]
      simp only [hL, hΛ, e_X11_isIn, z_bI_mk]
      simp only [hV]
      rw [if_pos b, b2i_pos hq.1, if_neg (by decide), if_pos (by omega), if_neg hq.2]) (fun i a b hq => by
      rw [zb_X0_goTogether_1]
      simp only [hL, hΛ, e_X11_isIn, z_bI_mk, z_w32_id (n := i + 1) (by omega) (by omega)]
      simp only [hV]
      rw [if_pos b]
      by_cases q : sIn s i
      · rw [b2i_pos q, if_neg (by decide), if_pos (by omega), if_pos (Classical.byContradiction (fun r => hq ⟨q, r⟩))]
      · rw [b2i_neg q, if_pos rfl]) (by
      rw [zb_X0_goTogether_1]
      simp only [hL, hΛ]
      simp only [hV]
      rw [if_neg (by omega)])
  have hs := fst_spec (fun i => sIn s i ∧ z_and s (M (c + 31) i) ≠ 0) (n := V 7 0) (by omega)
  rcases hs with ⟨a, b⟩ | ⟨a, b, d, -⟩
  · rw [hf.1 a, b2i_pos (fun i i0 i1 q j j0 j1 q2 q3 => b i i0 i1 ⟨q, fun r => by
      have hki := hk i i0 i1
      exact (bt_and s0 s1 hki.1 hki.2.1).1 r j j0 (by omega) ⟨q2, (hki.2.2 j j0 (by omega)).2 ⟨j1, q3⟩⟩⟩)]
  · rw [hf.2 (by omega), b2i_neg (fun q => ?_)]
    have hki := hk _ a b
    refine d.2 ((bt_and s0 s1 hki.1 hki.2.1).2 (fun j j0 j1 r => ?_))
    have r2 := (hki.2.2 j j0 j1).1 r.2
    exact q _ a b d.1 j j0 r2.1 r.1 r2.2
noncomputable def gTo (V : zM) (s a : Int) : Int := cite (sMany a < sMany s ∧ sGo V s) s a
theorem gTo_rng (V : zM) (n : Int) (h1 : n ≤ 32) : ∀ i, 0 ≤ i → i ≤ n → 0 ≤ fld (gTo V) 0 i ∧ fld (gTo V) 0 i < 32 := by
  have H : ∀ m : Nat, (m : Int) ≤ n → 0 ≤ fldN (gTo V) 0 m ∧ fldN (gTo V) 0 m < 32 := by
    intro m
    induction m with
    | zero => intro _; exact ⟨Int.le_refl _, (by decide : (0:Int) < 32)⟩
    | succ m ih =>
      intro hm
      have := ih (by omega)
      show 0 ≤ gTo V m (fldN (gTo V) 0 m) ∧ gTo V m (fldN (gTo V) 0 m) < 32
      generalize fldN (gTo V) 0 m = x at this ⊢
      unfold gTo
      rcases Classical.em (sMany x < sMany m ∧ sGo V m) with q | q
      · rw [cite_pos q]; omega
      · rw [cite_neg q]; exact this
  intro i i0 i1
  exact H i.toNat (by omega)
/-- as the reference reads it: no two of the set clash -/
theorem sGo_eq (hv : vOk V) (s : Int) : sGo V s ↔ ∀ a, 0 ≤ a → a < V 7 0 → ∀ b, 0 ≤ b → b < a → ¬ (sIn s a ∧ sIn s b ∧ sCl V a b ≠ 0) := by
  constructor
  · intro h a a0 a1 b b0 b1 q
    have h0 := sCl_0 hv a b
    exact h a a0 a1 q.1 b b0 (by omega) q.2.1 ⟨by omega, by have := q.2.2; omega⟩
  · intro h a a0 a1 q b b0 b1 q2 q3
    have h0 := sCl_0 hv a b
    rcases (by have := q3.1; omega : b < a ∨ a < b) with r | r
    · exact h a a0 a1 b b0 r ⟨q, q2, by have := q3.2; omega⟩
    · exact h b b0 b1 a a0 r ⟨q2, q, by rw [sCl_sym]; have := q3.2; omega⟩
theorem q_together (h : gQ M c V) : Pr zm_X11_together zm_X12_together [] M := by
  have hg := h
  obtain ⟨hn, hO, hC, hD⟩ := h
  have hN := hC.2.2.2.1
  have hsh := shl_rng (n := V 7 0) (by omega) (by omega)
  obtain ⟨M1, e1, hs1, hk1⟩ := e_X0_findFoes hC
  have hC1 := hC.sm hs1
  have hL1 := hC1.2.1
  have hV1 := hC1.2.2.1
  have hg1 := hg.sm hs1
  have hs : Sm M1 (z_wr M1 84 2 0) := Sm.wr (by decide)
  have hE := hg1.2.2.2.sm hs
  have b1 : fld (gTo V) 0 1 = 0 := by
    show gTo V 0 0 = 0
    exact cite_neg (fun r => by have := r.1; omega)
  refine ⟨[zI (fld (gTo V) 0 (z_shl 1 (V 7 0)))], M1, z_wr M1 84 2 0, ?_, ?_, hs1.tr hs⟩
  · rw [zr_X11_together]
    refine z_out_some ?_
    rw [zb_X11_together_0]
    simp only [hn, e1, z_bV_mk]
    simp only [hg1.1, hL1]
    simp only [hV1]
    obtain ⟨a, e, hI⟩ := lp_ex (fun i (a : Int) => z_ev (zcd_X11_together zLa) 1 [zA 11 0, zI a, zI (z_shl 1 (V 7 0)), zI i] [] M1) (fun i a => a = fld (gTo V) 0 i) (n := z_shl 1 (V 7 0)) 1 (fun i a hi0 hi1 hI => by
      refine ⟨gTo V i a, ?_, by rw [fld_s _ _ (by omega), ← hI]⟩
      have hr := gTo_rng V 32 (by omega) i (by omega) (by omega)
      rw [← hI] at hr
      try dsimp only
      rw [zb_X11_together_1]
      simp only [hg1.1, e_bitCount (x := i) (by omega) (by omega), e_bitCount hr.1 hr.2, e_X0_goTogether hC1 hk1 (s := i) (by omega) (by omega), z_bI_mk, z_w32_id (n := i + 1) (by omega) (by omega)]
      rw [if_pos hi1]
      unfold gTo
      by_cases q : sMany i ≤ sMany a
      · rw [if_pos q, cite_neg (fun r => by have := r.1; omega)]
      rw [if_neg q]
      rcases Classical.em (sGo V i) with q2 | q2
      · rw [b2i_pos q2, if_neg (by decide), cite_pos ⟨by omega, q2⟩]
      · rw [b2i_neg q2, if_pos rfl, cite_neg (fun r => q2 r.2)]) (s := 0) (by omega) b1.symm
    try dsimp only at e
    rw [e, zb_X11_together_1, if_neg (by omega), hI]
  · rw [zr_X12_together]
    refine z_out_some ?_
    rw [zb_X12_together_0, z_lt_eq]
    generalize z_wr M1 84 2 0 = N at hE ⊢
    obtain ⟨⟨a, w3, w4, w5⟩, e, hI⟩ := lp_ex (fun i (s : Int × zV × zV × zV) => z_ev (zcd_X12_together zLa) 1 [zA 12 84, zI s.1, zI i, s.2.1, s.2.2.1, s.2.2.2] [] N) (fun i s => s.1 = fld (gTo V) 0 i) (n := z_shl 1 (V 7 0)) 1 (fun i s hi0 hi1 hI => by
      obtain ⟨a, w3, w4, w5⟩ := s
      dsimp only at hI
      try dsimp only
      rw [zb_X12_together_1]
      simp only [hE.2.1.1]
      rw [if_pos hi1]
      obtain ⟨⟨x, u⟩, e2, hJ⟩ := lp_ex (fun j (s : Int × zV) => z_ev (zcd_X12_together zLa) 2 [zA 12 84, zI a, zI i, zI s.1, zI j, s.2] [] N) (fun j s => s.1 = b2i (∀ a, 0 ≤ a → a < j → ∀ b, 0 ≤ b → b < a → ¬ (sIn i a ∧ sIn i b ∧ sCl V a b ≠ 0))) (n := V 7 0) 0 (fun j s hj0 hj1 hJ => by
        obtain ⟨x, u⟩ := s
        dsimp only at hJ
        try dsimp only
        rw [zb_X12_together_2]
        simp only [hE.2.1.1]
        rw [if_pos hj1]
        obtain ⟨y, e3, hK⟩ := lp_ex (fun b (y : Int) => z_ev (zcd_X12_together zLa) 3 [zA 12 84, zI a, zI i, zI y, zI j, zI b] [] N) (fun b y => y = b2i ((∀ a, 0 ≤ a → a < j → ∀ b, 0 ≤ b → b < a → ¬ (sIn i a ∧ sIn i b ∧ sCl V a b ≠ 0)) ∧ ∀ b', 0 ≤ b' → b' < b → ¬ (sIn i j ∧ sIn i b' ∧ sCl V j b' ≠ 0))) (n := j) 0 (fun b y hb0 hb1 hK => by
          try dsimp only
          rw [zb_X12_together_3]
          simp only [e_X12_isOf, e_X12_clashes hE, z_bI_mk, z_w32_id (n := b + 1) (by omega) (by omega)]
          rw [if_pos hb1]
          have hst : ∀ Q : Prop, ¬ (sIn i j ∧ sIn i b ∧ sCl V j b ≠ 0) → b2i (Q ∧ ∀ b', 0 ≤ b' → b' < b → ¬ (sIn i j ∧ sIn i b' ∧ sCl V j b' ≠ 0)) = b2i (Q ∧ ∀ b', 0 ≤ b' → b' < b + 1 → ¬ (sIn i j ∧ sIn i b' ∧ sCl V j b' ≠ 0)) := fun Q hq => b2i_congr ⟨fun r => ⟨r.1, fun b' x0 x1 => by
            rcases (by omega : b' < b ∨ b' = b) with z | z
            · exact r.2 b' x0 z
            · subst z; exact hq⟩, fun r => ⟨r.1, fun b' x0 x1 => r.2 b' x0 (by omega)⟩⟩
          by_cases q0 : y = 0
          · rw [if_pos q0]
            refine ⟨0, rfl, ?_⟩
            rw [hK, b2i_eq0] at q0
            rw [b2i_neg (fun r => q0 ⟨r.1, fun b' x0 x1 => r.2 b' x0 (by omega)⟩)]
          have y1 : y = 1 := by rw [hK]; rw [hK] at q0; exact (b2i_01 _).resolve_left q0
          rw [if_neg q0]
          rw [y1] at hK
          by_cases q1 : sIn i j
          case neg =>
            rw [b2i_neg q1, if_pos rfl]
            exact ⟨1, rfl, hK.trans (hst _ (fun r => q1 r.1))⟩
          rw [b2i_pos q1, if_neg (by decide)]
          by_cases q2 : sIn i b
          case neg =>
            rw [b2i_neg q2, if_pos rfl]
            exact ⟨1, rfl, hK.trans (hst _ (fun r => q2 r.2.1))⟩
          rw [b2i_pos q2, if_neg (by decide)]
          by_cases q3 : sCl V j b = 0
          · rw [if_pos q3]
            exact ⟨1, rfl, hK.trans (hst _ (fun r => r.2.2 q3))⟩
          · rw [if_neg q3]
            exact ⟨0, rfl, by rw [b2i_neg (fun r => r.2 b hb0 (by omega) ⟨q1, q2, q3⟩)]⟩) (s := x) (by omega) (by rw [hJ]; exact b2i_congr ⟨fun r => ⟨r, fun b' x0 x1 => absurd x1 (by omega)⟩, fun r => r.1⟩)
        refine ⟨(y, zI j), ?_, ?_⟩
        · try dsimp only at e3
          rw [e3, zb_X12_together_3, if_neg (by omega), z_w32_id (by omega) (by omega)]
        · rw [hK]
          refine b2i_congr ⟨fun r a a0 a1 b b0 b1 => ?_, fun r => ⟨fun a a0 a1 => r a a0 (by omega), fun b b0 b1 => r j hj0 (by omega) b b0 b1⟩⟩
          rcases (by omega : a < j ∨ a = j) with z | z
          · exact r.1 a a0 z b b0 b1
          · subst z; exact r.2 b b0 b1) (s := (1, w5)) (by omega) (by rw [b2i_pos (fun a a0 a1 => absurd a1 (by omega))])
      try dsimp only at e2 hJ
      rw [e2, zb_X12_together_2]
      simp only [hE.2.1.1, e_X12_many, z_bI_mk, z_w32_id (n := i + 1) (by omega) (by omega)]
      rw [if_neg (by omega)]
      rw [← propext (sGo_eq hC.2.2.2 i)] at hJ
      have hgt : gTo V i a = fld (gTo V) 0 (i + 1) := by rw [fld_s _ _ (by omega), ← hI]
      unfold gTo at hgt
      rcases Classical.em (sGo V i) with q2 | q2
      · rw [hJ, b2i_pos q2, if_neg (by decide)]
        by_cases q : sMany i ≤ sMany a
        · rw [if_pos q]
          rw [cite_neg (fun r => by have := r.1; omega)] at hgt
          exact ⟨(a, _, _, _), rfl, hgt⟩
        · rw [if_neg q]
          rw [cite_pos ⟨by omega, q2⟩] at hgt
          exact ⟨(i, _, _, _), rfl, hgt⟩
      · rw [hJ, b2i_neg q2, if_pos rfl]
        rw [cite_neg (fun r => q2 r.2)] at hgt
        exact ⟨(a, _, _, _), rfl, hgt⟩) (s := (0, zU, zU, zU)) (by omega) b1.symm
    try dsimp only at e hI
    rw [e, zb_X12_together_1]
    simp only [hE.2.1.1]
    rw [if_neg (by omega), hI]
end
