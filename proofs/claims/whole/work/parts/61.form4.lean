/-! ===== formulas: both are worth the same ===== -/
/-- a knot of the class's row, as the reference bears it; s: the knots that wait ahead of it, s': behind it -/
abbrev nodeR (K P O cd : Int → Int) (F i : Int) (s s' : List Int) : Prop :=
  (0 ≤ cd i ∧ cd i ≤ 999 ∧ K (F + i) = 0 ∧ P (F + i) = cd i ∧ s' = i :: s) ∨
  (1117 ≤ cd i ∧ cd i ≤ 1126 ∧ K (F + i) = 1 ∧ P (F + i) = cd i - 1117 ∧ s' = i :: s) ∨
  (cd i = 1116 ∧ K (F + i) = 2 ∧ ∃ a r, s = a :: r ∧ P (F + i) = F + a ∧ s' = i :: r) ∨
  (3 ≤ K (F + i) ∧ K (F + i) ≤ 14 ∧ cd i = cdK (K (F + i)) ∧ ∃ b a r, s = b :: a :: r ∧ P (F + i) = F + a ∧ O (F + i) = F + b ∧ s' = i :: r)
def wfF (K P O cd : Int → Int) (F : Int) : Nat → Int → List Int → Prop
  | 0, i, s => s = [i - 1]
  | n + 1, i, s => ∃ s', nodeR K P O cd F i s s' ∧ wfF K P O cd F n (i + 1) s'
theorem nodeR_cd {K P O cd : Int → Int} {F i : Int} {s s' : List Int} (h : nodeR K P O cd F i s s') : 0 ≤ cd i := by
  rcases h with h | h | h | ⟨h1, h2, h3, -⟩
  · omega
  · omega
  · omega
  · rw [h3]; unfold cdK; (repeat' split) <;> omega
theorem wfF_cd {K P O cd : Int → Int} {F : Int} : ∀ (n : Nat) (i : Int) (s : List Int), wfF K P O cd F n i s → ∀ j, i ≤ j → j < i + n → 0 ≤ cd j := by
  intro n
  induction n with
  | zero => intro i s _ j a b; omega
  | succ n ih =>
    intro i s ⟨s', h, h2⟩ j a b
    by_cases q : j = i
    · subst q; exact nodeR_cd h
    · exact ih (i + 1) s' h2 j (by omega) (by omega)
abbrev rIn (e F L : Int) (K P O nf : Int → Int) (m : zM) : Prop := LayR m ∧ m 105 e = F ∧ m 106 e = L ∧ (∀ j, m 107 j = K j ∧ m 108 j = P j ∧ m 109 j = O j) ∧ (∀ j, 0 ≤ j → j < 10 → m 114 j = nf j)
section
variable {e F L : Int} {K P O nf cd : Int → Int}
theorem rIn_nx {m m' : zM} {k v : Int} (hf : f64 m m') (h : rIn e F L K P O nf m) : rIn e F L K P O nf (z_wr m' 115 k v) := by
  have h1 : ∀ a j, a ≠ 115 → (a ≠ 84 ∨ j ≠ 64) → z_wr m' 115 k v a j = m a j := fun a j ha hj => by rw [z_wr_ne (Or.inl ha)]; exact hf a j hj
  refine ⟨LayR.sm (hf.sm.tr (Sm.wr (by unfold Scr; omega))) h.1, ?_, ?_, fun j => ⟨?_, ?_, ?_⟩, fun j a b => ?_⟩
  · rw [h1 _ _ (by decide) (Or.inl (by decide))]; exact h.2.1
  · rw [h1 _ _ (by decide) (Or.inl (by decide))]; exact h.2.2.1
  · rw [h1 _ _ (by decide) (Or.inl (by decide))]; exact (h.2.2.2.1 j).1
  · rw [h1 _ _ (by decide) (Or.inl (by decide))]; exact (h.2.2.2.1 j).2.1
  · rw [h1 _ _ (by decide) (Or.inl (by decide))]; exact (h.2.2.2.1 j).2.2
  · rw [h1 _ _ (by decide) (Or.inl (by decide))]; exact h.2.2.2.2 j a b
/-- what one knot does -/
abbrev oneR (m m2 : zM) (F i : Int) (s s' : List Int) (nf cd : Int → Int) : Prop := (m 84 64 = 1 ∧ m2 84 64 = 1) ∨ (m 84 64 = 0 ∧ m2 84 64 = 0 ∧ stp nf (cd i) (s.map (fun x => m 115 (F + x))) = some (s'.map (fun x => m2 115 (F + x)))) ∨ (m 84 64 = 0 ∧ m2 84 64 = 1 ∧ stp nf (cd i) (s.map (fun x => m 115 (F + x))) = none)
theorem cdK_B {k : Int} (h0 : 3 ≤ k) (h1 : k ≤ 14) : isB (cdK k) := by
  unfold isB cdK
  refine ⟨?_, ?_, ?_⟩ <;> ((repeat' split) <;> omega)
theorem map_nx {m m2 : zM} {F i : Int} {r : List Int} (hb : ∀ x ∈ r, 0 ≤ x ∧ x < i) (h : ∀ j, j ≠ F + i → m2 115 j = m 115 j) : r.map (fun x => m2 115 (F + x)) = r.map (fun x => m 115 (F + x)) := List.map_congr_left (fun x hx => h _ (by have := hb x hx; omega))
theorem r_node {m : zM} (h : rIn e F L K P O nf m) (hn : ∀ i, 0 ≤ i → i < 10 → inM (nf i)) (hg : g01 m) {i : Int} (i0 : 0 ≤ i) (F0 : 0 ≤ F) (hi : F + i < 64) {s s' : List Int} (hs : ∀ x ∈ s, 0 ≤ x ∧ x < i) (hr : ∀ j, F ≤ j → j < F + i → inM (m 115 j)) (hnd : nodeR K P O cd F i s s') : ∃ v m', zm_X12_worthOf zLa [zA 12 84, zI (F + i)] m = some ([zJ v], m') ∧ f64 m m' ∧ inM v ∧ g01 m' ∧ (∀ x ∈ s', 0 ≤ x ∧ x < i + 1) ∧ oneR m (z_wr m' 115 (F + i) v) F i s s' nf cd := by
  have hk := (h.2.2.2.1 (F + i)).1
  have hp := (h.2.2.2.1 (F + i)).2.1
  have hq := (h.2.2.2.1 (F + i)).2.2
  have hfl : ∀ (m' : zM) v, z_wr m' 115 (F + i) v 84 64 = m' 84 64 := fun m' v => z_wr_ne (Or.inl (by decide))
  have hmn : ∀ (m' : zM) v (r : List Int), f64 m m' → (∀ x ∈ r, 0 ≤ x ∧ x < i) → (i :: r).map (fun x => z_wr m' 115 (F + i) v 115 (F + x)) = v :: r.map (fun x => m 115 (F + x)) := fun m' v r hf hb => by
    rw [List.map_cons]
    congr 1
    · exact z_wr_eq _ _ _ _
    · exact map_nx hb (fun j hj => by rw [z_wr_ne (Or.inr hj)]; exact hf 115 j (Or.inl (by decide)))
  have hup : ∀ (r : List Int), (∀ x ∈ r, 0 ≤ x ∧ x < i) → ∀ x ∈ i :: r, 0 ≤ x ∧ x < i + 1 := fun r hb x hx => by
    rcases List.mem_cons.1 hx with rfl | hx
    · omega
    · have := hb x hx; omega
  -- a knot without errors
  have sure : ∀ (v : Int) (r : List Int), zm_X12_worthOf zLa [zA 12 84, zI (F + i)] m = some ([zJ v], m) → inM v → s' = i :: r → (∀ x ∈ r, 0 ≤ x ∧ x < i) → stp nf (cd i) (s.map (fun x => m 115 (F + x))) = some (v :: r.map (fun x => m 115 (F + x))) → ∃ v m', zm_X12_worthOf zLa [zA 12 84, zI (F + i)] m = some ([zJ v], m') ∧ f64 m m' ∧ inM v ∧ g01 m' ∧ (∀ x ∈ s', 0 ≤ x ∧ x < i + 1) ∧ oneR m (z_wr m' 115 (F + i) v) F i s s' nf cd := by
    intro v r ev hv es hb hst
    refine ⟨v, m, ev, f64.rf m, hv, hg, by rw [es]; exact hup r hb, ?_⟩
    unfold oneR
    rw [hfl, es, hmn m v r (f64.rf m) hb]
    rcases hg with hg | hg
    · exact Or.inr (Or.inl ⟨hg, hg, hst⟩)
    · exact Or.inl ⟨hg, hg⟩
  rcases hnd with ⟨c0, c1, k0, p0, es⟩ | ⟨c0, c1, k0, p0, es⟩ | ⟨c0, k0, a, r, e1, p0, es⟩ | ⟨c0, c1, c2, b, a, r, e1, p0, q0, es⟩
  · refine sure (cd i) s ?_ ⟨by omega, by omega⟩ es hs (stp_num c1 _)
    rw [wo_num h.1 (by omega) (by omega) (by rw [hk, k0]), hp, p0]
  · refine sure (nf (cd i - 1117)) s ?_ (hn _ (by omega) (by omega)) es hs (stp_name ⟨c0, c1⟩ _)
    rw [wo_name h.1 (by omega) (by omega) (by rw [hk, k0]) (by rw [hp, p0]; omega) (by rw [hp, p0]; omega), hp, p0, h.2.2.2.2 _ (by omega) (by omega)]
  · subst e1
    have ha := hs a (List.mem_cons_self ..)
    refine sure (if m 115 (F + a) = 0 then 1 else 0) r ?_ (by split <;> exact ⟨by decide, by decide⟩) es (fun x hx => hs x (List.mem_cons_of_mem _ hx)) (by rw [c0]; exact stp_not _ _)
    rw [wo_not h.1 (by omega) (by omega) (by rw [hk, k0]) (by rw [hp, p0]; omega) (by rw [hp, p0]; omega), hp, p0]
  · subst e1
    have hb := hs b (List.mem_cons_self ..)
    have ha := hs a (List.mem_cons_of_mem _ (List.mem_cons_self ..))
    have hbr : ∀ x ∈ r, 0 ≤ x ∧ x < i := fun x hx => hs x (List.mem_cons_of_mem _ (List.mem_cons_of_mem _ hx))
    obtain ⟨v, m', ev, hf, hv, hrs⟩ := wo_bin h.1 hg (n := F + i) (by omega) (by omega) hk c0 c1 (by rw [hp, p0]; omega) (by rw [hp, p0]; omega) (by rw [hq, q0]; omega) (by rw [hq, q0]; omega) (by rw [hp, p0]; exact hr _ (by omega) (by omega)) (by rw [hq, q0]; exact hr _ (by omega) (by omega))
    rw [hp, p0, hq, q0, ← c2] at hrs
    have hB : isB (cd i) := by rw [c2]; exact cdK_B c0 c1
    refine ⟨v, m', ev, hf, hv, ?_, by rw [es]; exact hup r hbr, ?_⟩
    · rcases hrs with ⟨-, ⟨x, -, -, z⟩ | ⟨-, z⟩⟩ | ⟨-, z⟩
      · exact Or.inl z
      · exact Or.inr z
      · exact Or.inr z
    · unfold oneR
      rw [hfl, es, hmn m' v r hf hbr]
      rcases hrs with ⟨g, ⟨x, ho, hvx, z⟩ | ⟨ho, z⟩⟩ | ⟨g, z⟩
      · exact Or.inr (Or.inl ⟨g, z, by rw [hvx]; exact stp_bs hB ho _⟩)
      · exact Or.inr (Or.inr ⟨g, z, stp_bn hB ho _⟩)
      · exact Or.inl ⟨g, z⟩
theorem r_all (e0 : 0 ≤ e) (e1 : e < 6) (hn : ∀ i, 0 ≤ i → i < 10 → inM (nf i)) (F0 : 0 ≤ F) (hL : L ≤ 64) : ∀ (n : Nat) (i : Int) (s : List Int) (m : zM), 0 ≤ i → F + i + n = L → 1 ≤ i + n → wfF K P O cd F n i s → (∀ x ∈ s, 0 ≤ x ∧ x < i) → rIn e F L K P O nf m → g01 m → (∀ j, F ≤ j → j < F + i → inM (m 115 j)) → ∃ v M', z_ev (zcd_X12_sumOf zLa) 1 [zA 12 84, zI e, zI (F + i)] [] m = some (.inl ([zJ v], M')) ∧ Sq m M' ∧ inM v ∧ ((m 84 64 = 1 ∧ M' 84 64 = 1) ∨ (m 84 64 = 0 ∧ M' 84 64 = 0 ∧ evF cd nf n i (s.map (fun x => m 115 (F + x))) = some [v]) ∨ (m 84 64 = 0 ∧ M' 84 64 = 1 ∧ evF cd nf n i (s.map (fun x => m 115 (F + x))) = none)) := by
  have hΛ := zLo_ok
  intro n
  induction n with
  | zero =>
    intro i s m i0 hi hi1 hw hs h hg hr
    have hR := h.1
    refine ⟨m 115 (L - 1), m, ?_, Sq.rf m, hr _ (by omega) (by omega), ?_⟩
    · rw [zb_X12_sumOf_1]
      simp only [hR, hΛ]
      rw [if_pos (by omega), h.2.2.1, if_neg (by omega), if_pos (by omega), z_sub_id (by omega) (by omega), if_pos (by omega)]
    · rcases hg with hg | hg
      · refine Or.inr (Or.inl ⟨hg, hg, ?_⟩)
        have hs' : s = [i - 1] := hw
        rw [hs']
        show some [m 115 (F + (i - 1))] = _
        rw [show F + (i - 1) = L - 1 by omega]
      · exact Or.inl ⟨hg, hg⟩
  | succ n ih =>
    intro i s m i0 hi hi1 ⟨s', hnd, hw⟩ hs h hg hr
    have hR := h.1
    obtain ⟨v, m', ev, hf, hv, hg', hs', hone⟩ := r_node h hn hg i0 F0 (by omega) hs hr hnd
    have h2 : rIn e F L K P O nf (z_wr m' 115 (F + i) v) := rIn_nx hf h
    have hfl : z_wr m' 115 (F + i) v 84 64 = m' 84 64 := z_wr_ne (Or.inl (by decide))
    obtain ⟨v2, M', e2, hs2, hiv, hres⟩ := ih (i + 1) s' (z_wr m' 115 (F + i) v) (by omega) (by omega) (by omega) hw hs' h2 (by unfold g01; rw [hfl]; exact hg') (fun j a b => by
      by_cases q : j = F + i
      · subst q; rw [z_wr_eq]; exact hv
      · rw [z_wr_ne (Or.inr q), hf 115 j (Or.inl (by decide))]; exact hr j a (by omega))
    refine ⟨v2, M', ?_, (hf.sq.tr (Sq.wr (by unfold Scq; omega))).tr hs2, hiv, ?_⟩
    · rw [zb_X12_sumOf_1]
      simp only [hR, hΛ]
      rw [if_pos (by omega), h.2.2.1, if_pos (by omega), ev, z_bJ_mk, if_pos (by omega), z_lt_eq, z_w32_id (by omega) (by omega), show F + i + 1 = F + (i + 1) by omega, e2]
    · rcases hone with ⟨g, g'⟩ | ⟨g, g', est⟩ | ⟨g, g', est⟩
      · rcases hres with ⟨-, z⟩ | ⟨z, -⟩ | ⟨z, -⟩
        · exact Or.inl ⟨g, z⟩
        · omega
        · omega
      · rw [evF_s est]
        rcases hres with ⟨z, -⟩ | ⟨-, z1, z2⟩ | ⟨-, z1, z2⟩
        · omega
        · exact Or.inr (Or.inl ⟨g, z1, z2⟩)
        · exact Or.inr (Or.inr ⟨g, z1, z2⟩)
      · rw [evF_n est]
        rcases hres with ⟨-, z⟩ | ⟨z, -⟩ | ⟨z, -⟩
        · exact Or.inr (Or.inr ⟨g, z, rfl⟩)
        · omega
        · omega
theorem e_X12_sumOf (e0 : 0 ≤ e) (e1 : e < 6) (hn : ∀ i, 0 ≤ i → i < 10 → inM (nf i)) (F0 : 0 ≤ F) (hL : L ≤ 64) {N : Int} (hN : F + N = L) (N1 : 1 ≤ N) (hw : wfF K P O cd F N.toNat 0 []) {m : zM} (h : rIn e F L K P O nf m) : ∃ v M', zm_X12_sumOf zLa [zA 12 84, zI e] m = some ([zJ v], M') ∧ Sq m M' ∧ inM v ∧ ((M' 84 64 = 0 ∧ evF cd nf N.toNat 0 [] = some [v]) ∨ (M' 84 64 = 1 ∧ evF cd nf N.toNat 0 [] = none)) := by
  have hΛ := zLo_ok
  have hs0 : Sq m (z_wr m 84 64 0) := Sq.wr (by decide)
  have h1 : rIn e F L K P O nf (z_wr m 84 64 0) := ⟨LayR.sm hs0.sm h.1, by rw [z_wr_ne (Or.inl (by decide))]; exact h.2.1, by rw [z_wr_ne (Or.inl (by decide))]; exact h.2.2.1, fun j => ⟨by rw [z_wr_ne (Or.inl (by decide))]; exact (h.2.2.2.1 j).1, by rw [z_wr_ne (Or.inl (by decide))]; exact (h.2.2.2.1 j).2.1, by rw [z_wr_ne (Or.inl (by decide))]; exact (h.2.2.2.1 j).2.2⟩, fun j a b => by rw [z_wr_ne (Or.inl (by decide))]; exact h.2.2.2.2 j a b⟩
  have hR := h1.1
  obtain ⟨v, M', e2, hs2, hiv, hres⟩ := r_all e0 e1 hn F0 hL N.toNat 0 [] (z_wr m 84 64 0) (Int.le_refl _) (by omega) (by omega) hw (fun x hx => by cases hx) h1 (Or.inl (z_wr_eq _ _ _ _)) (fun j a b => absurd b (by omega))
  refine ⟨v, M', ?_, hs0.tr hs2, hiv, ?_⟩
  · rw [zr_X12_sumOf]
    refine z_out_some ?_
    rw [zb_X12_sumOf_0, z_lt_eq]
    simp only [hR, hΛ]
    rw [if_pos (by omega), h1.2.1]
    rw [Int.add_zero] at e2
    exact e2
  · rw [z_wr_eq] at hres
    rcases hres with ⟨z, -⟩ | ⟨-, z1, z2⟩ | ⟨-, z1, z2⟩
    · omega
    · exact Or.inl ⟨z1, z2⟩
    · exact Or.inr ⟨z1, z2⟩
end

