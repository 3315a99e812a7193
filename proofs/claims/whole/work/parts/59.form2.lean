/-! ===== formulas: the class works them out ===== -/
/-- places that working a formula out may write -/
abbrev Scq (a k : Int) : Prop := a = 77 ∨ a = 78 ∨ a = 114 ∨ a = 115 ∨ (a = 84 ∧ k = 64)
abbrev Sq (M M' : zM) : Prop := ∀ a k, ¬ Scq a k → M' a k = M a k
theorem Sq.rf (M : zM) : Sq M M := fun _ _ _ => rfl
theorem Sq.tr {M M1 M2 : zM} (h : Sq M M1) (h2 : Sq M1 M2) : Sq M M2 := fun a k q => (h2 a k q).trans (h a k q)
theorem Sq.wr {M : zM} {a i v : Int} (h : Scq a i) : Sq M (z_wr M a i v) := fun b j q => by unfold z_wr; rw [if_neg]; rintro ⟨rfl, rfl⟩; exact q h
theorem Sq.sm {M M' : zM} (h : Sq M M') : Sm M M' := fun a k q => h a k (fun r => q (by unfold Scq at r; unfold Scr; omega))
/-- a pile of values in the class's row -/
def vst (m : zM) : List Int → Prop
  | [] => True
  | x :: r => m 78 r.length = x ∧ vst m r
theorem vst_wr {m : zM} {n v : Int} : ∀ {l : List Int}, vst m l → (l.length : Int) ≤ n → vst (z_wr m 78 n v) l := by
  intro l
  induction l with
  | nil => intro _ _; trivial
  | cons x r ih =>
    intro h hn
    have hl : ((x :: r).length : Int) = (r.length : Int) + 1 := by simp
    exact ⟨by rw [z_wr_ne (Or.inr (by omega))]; exact h.1, ih h.2 (by omega)⟩
section
variable {f t i c : Int} {m : zM} {w6 w7 : zV}
theorem la78 : zLa 78 = 64 := rfl
theorem la77 : zLa 77 = 10 := rfl
theorem w3_num (t0 : 0 ≤ t) (t1 : t < 64) (i0 : 0 ≤ i) (i1 : i < 64) (c0 : 0 ≤ c) (c1 : c ≤ 999) : z_ev (zcd_X2_workOut zLa) 3 [zA 2 f, zA 13 77, zA 15 78, zI t, zI i, zI c, w6, w7] [zI 0] m = z_ev (zcd_X2_workOut zLa) 1 [zA 2 f, zA 13 77, zA 15 78, zI (t + 1), zI (i + 1), zI c, z_clv w6, zI 0] [] (z_wr m 78 t c) := by
  have e : z_sub t 0 = t := by rw [z_sub_id (by omega) (by omega), Int.sub_zero]
  rw [zb_X2_workOut_3, e, la78, if_neg (by omega), if_pos t1, if_pos rfl, if_pos c1, if_pos (by omega), z_lt_eq, if_pos (by omega), z_wr_eq, e_X2_isBeyond, z_bI_mk, b2i_neg (fun r => r ⟨by omega, by omega⟩), if_pos rfl, z_w32_id (by omega) (by omega), z_w32_id (by omega) (by omega)]
theorem w3_name (t0 : 0 ≤ t) (t1 : t < 64) (i0 : 0 ≤ i) (i1 : i < 64) (c0 : 1117 ≤ c) (c1 : c ≤ 1126) (hn : inM (m 77 (c - 1117))) : z_ev (zcd_X2_workOut zLa) 3 [zA 2 f, zA 13 77, zA 15 78, zI t, zI i, zI c, w6, w7] [zI 0] m = z_ev (zcd_X2_workOut zLa) 1 [zA 2 f, zA 13 77, zA 15 78, zI (t + 1), zI (i + 1), zI c, z_clv w6, zI 0] [] (z_wr m 78 t (m 77 (c - 1117))) := by
  have e : z_sub t 0 = t := by rw [z_sub_id (by omega) (by omega), Int.sub_zero]
  have e2 : z_sub c 1117 = c - 1117 := z_sub_id (by omega) (by omega)
  rw [zb_X2_workOut_3, e, e2, la78, la77, if_neg (by omega), if_pos t1, if_pos rfl, if_neg (by omega), if_pos (by omega), if_pos (by omega), z_lt_eq, if_pos (by omega), z_wr_eq, e_X2_isBeyond, z_bI_mk, b2i_neg (fun r => r hn), if_pos rfl, z_w32_id (by omega) (by omega), z_w32_id (by omega) (by omega)]
theorem w3_not (t0 : 0 ≤ t) (t1 : t < 64) (i0 : 0 ≤ i) (i1 : i < 64) : z_ev (zcd_X2_workOut zLa) 3 [zA 2 f, zA 13 77, zA 15 78, zI (t + 1), zI i, zI c, w6, w7] [zI 1] m = z_ev (zcd_X2_workOut zLa) 1 [zA 2 f, zA 13 77, zA 15 78, zI (t + 1), zI (i + 1), zI c, z_clv w6, zI 1] [] (z_wr m 78 t (if m 78 t = 0 then 1 else 0)) := by
  have e : z_sub (t + 1) 1 = t := by rw [z_sub_id (by omega) (by omega)]; omega
  rw [zb_X2_workOut_3, e, la78, if_neg (by omega), if_pos t1, if_neg (by decide), if_pos rfl, if_pos (by omega)]
  simp only [cmp3]
  by_cases q : m 78 t = 0
  · rw [if_pos q, if_pos q, if_pos (by omega), z_lt_eq, if_pos (by omega), z_wr_eq, e_X2_isBeyond, z_bI_mk, b2i_neg (fun r => r ⟨by decide, by decide⟩), if_pos rfl, z_w32_id (by omega) (by omega), z_w32_id (by omega) (by omega)]
  · rw [if_neg q, if_neg q, if_pos (by omega), z_lt_eq, if_pos (by omega), z_wr_eq, e_X2_isBeyond, z_bI_mk, b2i_neg (fun r => r ⟨by decide, by decide⟩), if_pos rfl, z_w32_id (by omega) (by omega), z_w32_id (by omega) (by omega)]
theorem w3_few {y : Int} (h : t < y) : z_ev (zcd_X2_workOut zLa) 3 [zA 2 f, zA 13 77, zA 15 78, zI t, zI i, zI c, w6, w7] [zI y] m = some (.inl ([zJ (-4000000000000000000)], m)) := by
  rw [zb_X2_workOut_3, if_pos h]
theorem w3_bs (t0 : 0 ≤ t) (t1 : t < 63) (i0 : 0 ≤ i) (i1 : i < 64) (ha : inM (m 78 t)) (hb : inM (m 78 (t + 1))) {v : Int} (ho : op2 c (m 78 t) (m 78 (t + 1)) = some v) : z_ev (zcd_X2_workOut zLa) 3 [zA 2 f, zA 13 77, zA 15 78, zI (t + 2), zI i, zI c, w6, w7] [zI 2] m = z_ev (zcd_X2_workOut zLa) 1 [zA 2 f, zA 13 77, zA 15 78, zI (t + 1), zI (i + 1), zI c, z_clv w6, zI 2] [] (z_wr m 78 t v) := by
  have e : z_sub (t + 2) 2 = t := by rw [z_sub_id (by omega) (by omega)]; omega
  have e2 : z_add t 1 = t + 1 := z_add_id (by omega) (by omega)
  obtain ⟨x, ex, hx⟩ := e_X2_join ha hb c m
  rw [ho] at hx
  have hxv : x = v := hx
  have hv := op2_in ha hb ho
  rw [zb_X2_workOut_3, e, e2, la78, if_neg (by omega), if_pos (by omega), if_neg (by decide), if_neg (by decide), if_pos (by omega), if_pos (by omega), ex, z_bJ_mk, if_pos (by omega), z_lt_eq, if_pos (by omega), z_wr_eq, e_X2_isBeyond, z_bI_mk, hxv, b2i_neg (fun r => r hv), if_pos rfl, z_w32_id (by omega) (by omega), z_w32_id (by omega) (by omega)]
theorem w3_bn (t0 : 0 ≤ t) (t1 : t < 63) (ha : inM (m 78 t)) (hb : inM (m 78 (t + 1))) (ho : op2 c (m 78 t) (m 78 (t + 1)) = none) : ∃ v, z_ev (zcd_X2_workOut zLa) 3 [zA 2 f, zA 13 77, zA 15 78, zI (t + 2), zI i, zI c, w6, w7] [zI 2] m = some (.inl ([zJ (-4000000000000000000)], z_wr m 78 t v)) := by
  have e : z_sub (t + 2) 2 = t := by rw [z_sub_id (by omega) (by omega)]; omega
  have e2 : z_add t 1 = t + 1 := z_add_id (by omega) (by omega)
  obtain ⟨x, ex, hx⟩ := e_X2_join ha hb c m
  rw [ho] at hx
  refine ⟨x, ?_⟩
  rw [zb_X2_workOut_3, e, e2, la78, if_neg (by omega), if_pos (by omega), if_neg (by decide), if_neg (by decide), if_pos (by omega), if_pos (by omega), ex, z_bJ_mk, if_pos (by omega), z_lt_eq, if_pos (by omega), z_wr_eq, e_X2_isBeyond, z_bI_mk, b2i_pos hx, if_neg (by decide)]
end
section
variable {f N : Int} {cd nf : Int → Int}
abbrev wIn (f N : Int) (cd nf : Int → Int) (m : zM) : Prop := m f 0 = N ∧ m f 1 = f + 1 ∧ (∀ j, 0 ≤ j → j < N → m (f + 1) j = cd j) ∧ (∀ j, 0 ≤ j → j < 10 → m 77 j = nf j)
theorem wIn_wr {m : zM} {n v : Int} (hf : f ≠ 78 ∧ f + 1 ≠ 78) (h : wIn f N cd nf m) : wIn f N cd nf (z_wr m 78 n v) :=
  ⟨by rw [z_wr_ne (Or.inl hf.1)]; exact h.1, by rw [z_wr_ne (Or.inl hf.1)]; exact h.2.1, fun j a b => by rw [z_wr_ne (Or.inl hf.2)]; exact h.2.2.1 j a b, fun j a b => by rw [z_wr_ne (Or.inl (by decide))]; exact h.2.2.2 j a b⟩
/-- from a label to the next by the knot -/
theorem w1 {m : zM} (h : wIn f N cd nf m) (hla : zLa (f + 1) = 64) {i : Int} (i0 : 0 ≤ i) (i1 : i < N) (hN : N ≤ 64) (t : Int) (w5 w6 w7 : zV) : ∃ w6', z_ev (zcd_X2_workOut zLa) 1 [zA 2 f, zA 13 77, zA 15 78, zI t, zI i, w5, w6, w7] [] m = z_ev (zcd_X2_workOut zLa) 3 [zA 2 f, zA 13 77, zA 15 78, zI t, zI i, zI (cd i), w6', w7] [zI (if cd i ≤ 999 then 0 else if 1117 ≤ cd i ∧ cd i ≤ 1126 then 0 else if cd i = 1116 then 1 else 2)] m := by
  rw [zb_X2_workOut_1, h.1, h.2.1, hla, if_pos i1, if_pos (by omega), h.2.2.1 i i0 i1]
  by_cases q1 : cd i ≤ 999
  · rw [if_pos q1, if_pos q1, zb_X2_workOut_2, if_neg (by decide)]
    exact ⟨_, rfl⟩
  rw [if_neg q1, if_neg q1, e_X10_isName, z_bI_mk]
  by_cases q2 : 1117 ≤ cd i ∧ cd i ≤ 1126
  · rw [b2i_pos q2, if_neg (by decide), if_pos q2, zb_X2_workOut_2, if_neg (by decide)]
    exact ⟨_, rfl⟩
  rw [b2i_neg q2, if_pos rfl, if_neg q2, zb_X2_workOut_2, if_pos rfl]
  by_cases q3 : cd i = 1116
  · rw [if_pos q3, if_pos q3]
    exact ⟨_, rfl⟩
  · rw [if_neg q3, if_neg q3]
    exact ⟨_, rfl⟩
theorem w_end {m : zM} (h : wIn f N cd nf m) (l : List Int) (hv : vst m l) (w5 w6 w7 : zV) : z_ev (zcd_X2_workOut zLa) 1 [zA 2 f, zA 13 77, zA 15 78, zI l.length, zI N, w5, w6, w7] [] m = some (.inl ([zJ (cR (some l))], m)) := by
  rw [zb_X2_workOut_1, h.1, if_neg (by omega), la78]
  cases l with
  | nil => rw [if_neg (by decide)]; rfl
  | cons v r =>
    cases r with
    | nil =>
      rw [if_pos (by rfl), if_pos (by decide)]
      have h0 : m 78 0 = v := hv.1
      rw [h0]
      rfl
    | cons a r =>
      rw [if_neg (by simp only [List.length_cons]; omega)]
      rfl
abbrev wGo (f N : Int) (cd nf : Int → Int) (n : Nat) (i : Int) : Prop := ∀ (l : List Int) (m : zM) (w5 w6 w7 : zV), 0 ≤ i → i + n = N → (l.length : Int) ≤ i → inL l → vst m l → wIn f N cd nf m → ∃ M', z_ev (zcd_X2_workOut zLa) 1 [zA 2 f, zA 13 77, zA 15 78, zI l.length, zI i, w5, w6, w7] [] m = some (.inl ([zJ (cR (evF cd nf n i l))], M')) ∧ Sq m M'
theorem w_next (hf : f ≠ 78 ∧ f + 1 ≠ 78) {n : Nat} {i : Int} (ih : wGo f N cd nf n (i + 1)) (v : Int) (r : List Int) (m : zM) (w5 w6 w7 : zV) (i0 : 0 ≤ i) (hi : i + 1 + n = N) (hr : (r.length : Int) ≤ i) (hin : inL r) (hvi : inM v) (hv : vst m r) (hw : wIn f N cd nf m) : ∃ M', z_ev (zcd_X2_workOut zLa) 1 [zA 2 f, zA 13 77, zA 15 78, zI (r.length + 1), zI (i + 1), w5, w6, w7] [] (z_wr m 78 r.length v) = some (.inl ([zJ (cR (evF cd nf n (i + 1) (v :: r)))], M')) ∧ Sq m M' := by
  have hlen : ((v :: r).length : Int) = (r.length : Int) + 1 := by simp
  have hvv : vst (z_wr m 78 r.length v) (v :: r) := ⟨z_wr_eq _ _ _ _, vst_wr hv (Int.le_refl _)⟩
  obtain ⟨M', e, hs⟩ := ih (v :: r) (z_wr m 78 r.length v) w5 w6 w7 (by omega) hi (by omega) (inL_c hvi hin) hvv (wIn_wr hf hw)
  rw [hlen] at e
  exact ⟨M', e, (Sq.wr (by unfold Scq; omega)).tr hs⟩
theorem w_all (hN1 : N ≤ 64) (hla : zLa (f + 1) = 64) (hn : ∀ i, 0 ≤ i → i < 10 → inM (nf i)) (hc0 : ∀ j, 0 ≤ j → j < N → 0 ≤ cd j) (hf : f ≠ 78 ∧ f + 1 ≠ 78) : ∀ (n : Nat) (i : Int), wGo f N cd nf n i := by
  intro n
  induction n with
  | zero =>
    intro i l m w5 w6 w7 hi0 hiN hl hin hv hw
    have hi : i = N := by omega
    rw [hi, w_end hw l hv]
    exact ⟨m, rfl, Sq.rf m⟩
  | succ n ih =>
    intro i l m w5 w6 w7 hi0 hiN hl hin hv hw
    have hi : i < N := by omega
    have hc := hc0 i hi0 hi
    have go := w_next hf (ih (i + 1))
    obtain ⟨w6', e1⟩ := w1 hw hla hi0 hi hN1 l.length w5 w6 w7
    rw [e1]
    clear e1
    by_cases q1 : cd i ≤ 999
    · rw [if_pos q1, w3_num (by omega) (by omega) hi0 (by omega) hc q1, evF_s (stp_num q1 l)]
      exact go (cd i) l m _ _ _ hi0 (by omega) hl hin ⟨by omega, by omega⟩ hv hw
    by_cases q2 : 1117 ≤ cd i ∧ cd i ≤ 1126
    · have hnn : m 77 (cd i - 1117) = nf (cd i - 1117) := hw.2.2.2 _ (by omega) (by omega)
      have hnm := hn (cd i - 1117) (by omega) (by omega)
      rw [if_neg q1, if_pos q2, w3_name (by omega) (by omega) hi0 (by omega) q2.1 q2.2 (by rw [hnn]; exact hnm), evF_s (stp_name q2 l), hnn]
      exact go _ l m _ _ _ hi0 (by omega) hl hin hnm hv hw
    by_cases q3 : cd i = 1116
    · rw [if_neg q1, if_neg q2, if_pos q3]
      cases l with
      | nil =>
        rw [w3_few (by decide), evF_n (by rw [q3]; exact stp_not0)]
        exact ⟨m, rfl, Sq.rf m⟩
      | cons a r =>
        have hlen : ((a :: r).length : Int) = (r.length : Int) + 1 := by simp
        rw [hlen] at hl
        rw [hlen, w3_not (by omega) (by omega) hi0 (by omega), hv.1, evF_s (by rw [q3]; exact stp_not a r)]
        exact go _ r m _ _ _ hi0 (by omega) (by omega) (inL_t hin).2 (by split <;> exact ⟨by decide, by decide⟩) hv.2 hw
    · rw [if_neg q1, if_neg q2, if_neg q3]
      have hB : isB (cd i) := ⟨q1, q2, q3⟩
      cases l with
      | nil =>
        rw [w3_few (by decide), evF_n (stp_b0 hB)]
        exact ⟨m, rfl, Sq.rf m⟩
      | cons b r =>
        cases r with
        | nil =>
          rw [w3_few (by show ((1 : Nat) : Int) < 2; decide), evF_n (stp_b1 hB b)]
          exact ⟨m, rfl, Sq.rf m⟩
        | cons a r =>
          have hlen : ((b :: a :: r).length : Int) = (r.length : Int) + 2 := by simp only [List.length_cons]; omega
          have hvb : m 78 ((r.length : Int) + 1) = b := by
            have h := hv.1
            have e : (((a :: r).length : Nat) : Int) = (r.length : Int) + 1 := by simp
            rwa [e] at h
          have hva : m 78 (r.length : Int) = a := hv.2.1
          have hib := (inL_t hin).1
          have hia := (inL_t (inL_t hin).2).1
          have hir := (inL_t (inL_t hin).2).2
          rw [hlen] at hl
          rw [hlen]
          cases ho : op2 (cd i) a b with
          | none =>
            obtain ⟨v, ev⟩ := w3_bn (f := f) (t := r.length) (i := i) (c := cd i) (m := m) (w6 := w6') (w7 := w7) (by omega) (by omega) (by rw [hva]; exact hia) (by rw [hvb]; exact hib) (by rw [hva, hvb]; exact ho)
            rw [ev, evF_n (stp_bn hB ho r)]
            exact ⟨_, rfl, Sq.wr (by unfold Scq; omega)⟩
          | some v =>
            rw [w3_bs (v := v) (by omega) (by omega) hi0 (by omega) (by rw [hva]; exact hia) (by rw [hvb]; exact hib) (by rw [hva, hvb]; exact ho), evF_s (stp_bs hB ho r)]
            exact go v r m _ _ _ hi0 (by omega) (by omega) hir (op2_in hia hib ho) hv.2.2 hw
theorem e_X2_workOut (hN0 : 0 ≤ N) (hN1 : N ≤ 64) (hla : zLa (f + 1) = 64) (hn : ∀ i, 0 ≤ i → i < 10 → inM (nf i)) (hc0 : ∀ j, 0 ≤ j → j < N → 0 ≤ cd j) (hf : f ≠ 78 ∧ f + 1 ≠ 78) {m : zM} (hw : wIn f N cd nf m) : ∃ M', zm_X2_workOut zLa [zA 2 f, zA 13 77, zA 15 78] m = some ([zJ (cR (evF cd nf N.toNat 0 []))], M') ∧ Sq m M' := by
  obtain ⟨M', e, hs⟩ := w_all hN1 hla hn hc0 hf N.toNat 0 [] m zU zU zU (Int.le_refl _) (by omega) (Int.le_refl _) (fun x hx => by cases hx) trivial hw
  refine ⟨M', ?_, hs⟩
  rw [zr_X2_workOut]
  refine z_out_some ?_
  rw [zb_X2_workOut_0]
  exact e
end
