/-! ===== what LAW, BAR and JURY say: both ===== -/
def lawV (o : Option (List Int)) : Int := match o with
  | some [v] => if v < 0 then 0 else if v ≤ 100 then v else 100
  | _ => 50
def soV (o : Option (List Int)) : Prop := match o with
  | some [v] => v ≠ 0
  | _ => False
theorem oCs (o : Option (List Int)) : (∃ v, o = some [v]) ∨ (cR o = -4000000000000000000 ∧ lawV o = 50 ∧ ¬ soV o) := by
  rcases o with _ | l
  · exact Or.inr ⟨rfl, rfl, fun h => h⟩
  · rcases l with _ | ⟨v, _ | ⟨w, r⟩⟩
    · exact Or.inr ⟨rfl, rfl, fun h => h⟩
    · exact Or.inl ⟨v, rfl⟩
    · exact Or.inr ⟨rfl, rfl, fun h => h⟩
theorem stp_in {nf : Int → Int} (hn : ∀ i, 0 ≤ i → i < 10 → inM (nf i)) {c : Int} (hc : 0 ≤ c) {l l' : List Int} (hl : inL l) (h : stp nf c l = some l') : inL l' := by
  by_cases h1 : c ≤ 999
  · rw [stp_num h1] at h
    cases h
    exact inL_c ⟨by omega, by omega⟩ hl
  by_cases h2 : 1117 ≤ c ∧ c ≤ 1126
  · rw [stp_name h2] at h
    cases h
    exact inL_c (hn _ (by omega) (by omega)) hl
  by_cases h3 : c = 1116
  · subst h3
    rcases l with _ | ⟨a, r⟩
    · rw [stp_not0] at h; cases h
    · rw [stp_not] at h
      cases h
      exact inL_c (by split <;> exact ⟨by omega, by omega⟩) (inL_t hl).2
  have hB : isB c := ⟨h1, h2, h3⟩
  rcases l with _ | ⟨b, _ | ⟨a, r⟩⟩
  · rw [stp_b0 hB] at h; cases h
  · rw [stp_b1 hB] at h; cases h
  · cases ho : op2 c a b with
    | none => rw [stp_bn hB ho] at h; cases h
    | some v =>
      rw [stp_bs hB ho] at h
      cases h
      have t1 := inL_t hl
      have t2 := inL_t t1.2
      exact inL_c (op2_in t2.1 t1.1 ho) t2.2
theorem evF_in {cd nf : Int → Int} (hn : ∀ i, 0 ≤ i → i < 10 → inM (nf i)) : ∀ (n : Nat) (i : Int) (l : List Int), (∀ j, i ≤ j → j < i + n → 0 ≤ cd j) → inL l → ∀ l', evF cd nf n i l = some l' → inL l' := by
  intro n
  induction n with
  | zero => intro i l _ hl l' h; cases h; exact hl
  | succ n ih =>
    intro i l hc hl l' h
    cases hs : stp nf (cd i) l with
    | none => rw [evF_n hs] at h; cases h
    | some l1 =>
      rw [evF_s hs] at h
      exact ih (i + 1) l1 (fun j a b => hc j (by omega) (by omega)) (stp_in hn (hc i (by omega) (by omega)) hl hs) l' h
theorem evF_1 {cd nf : Int → Int} (hn : ∀ i, 0 ≤ i → i < 10 → inM (nf i)) {N : Int} (hN : 0 ≤ N) (hc : ∀ j, 0 ≤ j → j < N → 0 ≤ cd j) {v : Int} (h : evF cd nf N.toNat 0 [] = some [v]) : inM v := evF_in hn N.toNat 0 [] (fun j a b => hc j a (by omega)) (fun x hx => by cases hx) [v] h v (List.mem_cons_self ..)
/-- the knots of a formula, in class and reference -/
abbrev fOk (M : zM) (N : Int) (cd : Int → Int) (e : Int) : Prop := 0 ≤ N ∧ N ≤ 64 ∧ ((N = 0 ∧ M 106 e ≤ M 105 e) ∨ (1 ≤ N ∧ 0 ≤ M 105 e ∧ M 105 e + N = M 106 e ∧ M 106 e ≤ 64 ∧ wfF (M 107) (M 108) (M 109) cd (M 105 e) N.toNat 0 []))
theorem fOk.sm {M M' : zM} {N e : Int} {cd : Int → Int} (hs : Sm M M') (h : fOk M N cd e) : fOk M' N cd e := by
  have e5 : M' 105 = M 105 := funext fun k => hs _ _ (Scr_no (by decide))
  have e6 : M' 106 = M 106 := funext fun k => hs _ _ (Scr_no (by decide))
  have e7 : M' 107 = M 107 := funext fun k => hs _ _ (Scr_no (by decide))
  have e8 : M' 108 = M 108 := funext fun k => hs _ _ (Scr_no (by decide))
  have e9 : M' 109 = M 109 := funext fun k => hs _ _ (Scr_no (by decide))
  have : fOk M' N cd e = fOk M N cd e := by unfold fOk; rw [e5, e6, e7, e8, e9]
  rw [this]
  exact h
theorem fOk.cd {M : zM} {N e : Int} {cd : Int → Int} (h : fOk M N cd e) : ∀ j, 0 ≤ j → j < N → 0 ≤ cd j := by
  intro j a b
  rcases h.2.2 with ⟨q, -⟩ | ⟨-, -, -, -, q⟩
  · omega
  · exact wfF_cd _ _ _ q j a (by omega)
abbrev gF (M V : zM) : Prop := fOk M (V 25 0) (V 26) 0 ∧ fOk M (V 27 0) (V 28) 1 ∧ fOk M (V 29 0) (V 30) 2
theorem gF.sm {M M' V : zM} (hs : Sm M M') (h : gF M V) : gF M' V := ⟨h.1.sm hs, h.2.1.sm hs, h.2.2.sm hs⟩
section
variable {M V m : zM} {c : Int} {nf : Int → Int}
theorem wIn25 (hC : cOk m c V) (hn : ∀ j, 0 ≤ j → j < 10 → m 77 j = nf j) : wIn (c + 25) (V 25 0) (V 26) nf m := ⟨cv_25 hC.2.2.1 0, by simp only [hC.2.1]; omega, fun j a b => by rw [(by omega : c + 25 + 1 = c + 26)]; exact cv_26 hC.2.2.1 j, hn⟩
theorem wIn27 (hC : cOk m c V) (hn : ∀ j, 0 ≤ j → j < 10 → m 77 j = nf j) : wIn (c + 27) (V 27 0) (V 28) nf m := ⟨cv_27 hC.2.2.1 0, by simp only [hC.2.1]; omega, fun j a b => by rw [(by omega : c + 27 + 1 = c + 28)]; exact cv_28 hC.2.2.1 j, hn⟩
theorem wIn29 (hC : cOk m c V) (hn : ∀ j, 0 ≤ j → j < 10 → m 77 j = nf j) : wIn (c + 29) (V 29 0) (V 30) nf m := ⟨cv_29 hC.2.2.1 0, by simp only [hC.2.1]; omega, fun j a b => by rw [(by omega : c + 29 + 1 = c + 30)]; exact cv_30 hC.2.2.1 j, hn⟩
theorem lawC {cd : Int → Int} {N : Int} (hn : ∀ i, 0 ≤ i → i < 10 → inM (nf i)) (hN : 0 ≤ N) (hc : ∀ j, 0 ≤ j → j < N → 0 ≤ cd j) (M : zM) : (if (if cR (evF cd nf N.toNat 0 []) < (-4000000000000000000:Int) then (-1:Int) else if cR (evF cd nf N.toNat 0 []) = (-4000000000000000000:Int) then 0 else 1) = 0 then some (Sum.inl ([zI (50:Int)], M)) else some (.inl ([zI (z_w32 (z_lmax (0:Int) (z_lmin (100:Int) (cR (evF cd nf N.toNat 0 [])))))], M)) : Option zRs) = some (.inl ([zI (lawV (evF cd nf N.toNat 0 []))], M)) := by
  rcases oCs (evF cd nf N.toNat 0 []) with ⟨v, q⟩ | ⟨q1, q2, -⟩
  · have hv : inM v := evF_1 hn hN hc q
    rw [q]
    have e1 : cR (some [v]) = v := rfl
    have e2 : lawV (some [v]) = if v < 0 then 0 else if v ≤ 100 then v else 100 := rfl
    have e3 : z_lmax 0 (z_lmin 100 v) = if v < 0 then 0 else if v ≤ 100 then v else 100 := by unfold z_lmax z_lmin; (repeat' split) <;> omega
    rw [e1, e2, e3, if_neg (fun r => by have := cmp3.2.2.mp r; omega), z_w32_id (by (repeat' split) <;> omega) (by (repeat' split) <;> omega)]
  · rw [q1, q2, if_pos (cmp3.2.2.mpr rfl)]
theorem e_X4_isSo {f N : Int} {cd : Int → Int} (h0 : M 76 0 = 77) (h1 : M 76 1 = 78) (hN0 : 0 ≤ N) (hN1 : N ≤ 64) (hla : zLa (f + 1) = 64) (hn : ∀ i, 0 ≤ i → i < 10 → inM (nf i)) (hc0 : ∀ j, 0 ≤ j → j < N → 0 ≤ cd j) (hf : f ≠ 78 ∧ f + 1 ≠ 78) (hw : wIn f N cd nf M) : ∃ M', zm_X4_isSo zLa [zA 4 76, zA 2 f] M = some ([zI (b2i (soV (evF cd nf N.toNat 0 [])))], M') ∧ Sm M M' := by
  obtain ⟨M', e, hs⟩ := e_X2_workOut hN0 hN1 hla hn hc0 hf hw
  refine ⟨M', ?_, hs.sm⟩
  rw [zr_X4_isSo]
  refine z_out_some ?_
  rw [zb_X4_isSo_0, h0, h1, e, z_bJ_mk]
  rcases oCs (evF cd nf N.toNat 0 []) with ⟨v, q⟩ | ⟨q1, -, q2⟩
  · have hv : inM v := evF_1 hn hN0 hc0 q
    rw [q]
    have e1 : cR (some [v]) = v := rfl
    rw [e1, if_neg (fun r => by have := cmp3.2.2.mp r; omega)]
    by_cases qv : v = 0
    · rw [if_pos (cmp3.2.2.mpr qv), b2i_neg (p := soV (some [v])) (fun r => r qv)]
    · rw [if_neg (fun r => qv (cmp3.2.2.mp r)), b2i_pos (p := soV (some [v])) qv]
  · rw [q1, if_pos (cmp3.2.2.mpr rfl), b2i_neg q2]
theorem cne (hC : zCc c) : (c + 25 ≠ 78 ∧ c + 25 + 1 ≠ 78) ∧ (c + 27 ≠ 78 ∧ c + 27 + 1 ≠ 78) ∧ (c + 29 ≠ 78 ∧ c + 29 + 1 ≠ 78) := by rcases hC with r | r <;> omega
theorem nW_in (hv : vOk V) {k : Int} (k0 : 0 ≤ k) (k1 : k < V 13 0) : ∀ j, 0 ≤ j → j < 10 → inM (nW V k j) := by
  intro j a b
  have hN := hv.1
  have hk := hv.2.2.2.1 k k0 k1
  have hst := hv.2.2.1 (V 15 k) (by omega) (by omega)
  have hr := sLo_rng hv (t := V 15 k) (u := V 16 k) (by omega) (by omega) (by omega) (by omega)
  have c3 := cnt_rng (aW V k) k0
  have c4 := cnt_rng (aW2 V k) k0
  unfold nW
  (repeat' split) <;> exact ⟨by omega, by omega⟩
theorem nT_in (hv : vOk V) {t : Int} (t0 : 0 ≤ t) (t1 : t < V 7 0) : ∀ j, 0 ≤ j → j < 10 → inM (nT V t j) := by
  intro j a b
  have hN := hv.1
  have hst := hv.2.2.1 t t0 t1
  have hr := sLo_rng hv (t := t) (u := V 11 t) t0 t1 (by omega) (by omega)
  have c3 := cnt_rng (p3 V t 0) (n := V 13 0) (by omega)
  have c4 := cnt_rng (p4 V t 0) (n := V 13 0) (by omega)
  have c5 := cnt_rng (p5 V t 0) (n := V 13 0) (by omega)
  have c6 := cnt_rng (p6 V t 0) (n := V 13 0) (by omega)
  have c7 := cnt_rng (p7 V t 0) (n := V 13 0) (by omega)
  have c8 := cnt_rng (fun g => V 20 g = t ∧ 2 ≤ sPg V g) (n := V 19 0) (by omega)
  have c9 := cnt_rng (fun g => V 20 g = t) (n := V 19 0) (by omega)
  unfold nT
  (repeat' split) <;> exact ⟨by omega, by omega⟩
theorem nTp_in (hv : vOk V) {t : Int} (t0 : 0 ≤ t) (t1 : t < V 7 0) : ∀ j, 0 ≤ j → j < 10 → inM (nTp V t j) := by
  intro j a b
  have hN := hv.1
  have hst := hv.2.2.1 t t0 t1
  have c3 := cnt_rng (p3 V t (V 12 t)) (n := V 13 0) (by omega)
  have c4 := cnt_rng (p4 V t (V 12 t)) (n := V 13 0) (by omega)
  have c5 := cnt_rng (p5 V t (V 12 t)) (n := V 13 0) (by omega)
  have c6 := cnt_rng (p6 V t (V 12 t)) (n := V 13 0) (by omega)
  have c7 := cnt_rng (p7 V t (V 12 t)) (n := V 13 0) (by omega)
  unfold nTp
  (repeat' split) <;> exact ⟨by omega, by omega⟩
theorem nP_in (hv : vOk V) {t : Int} (t0 : 0 ≤ t) (t1 : t < V 7 0) : ∀ j, 0 ≤ j → j < 10 → inM (nP V t j) := by
  intro j a b
  have hN := hv.1
  have hst := hv.2.2.1 t t0 t1
  have c5 := cnt_rng (fun g => sPf V g t ∧ V 22 g = V 4 (V 21 g)) (n := V 19 0) (by omega)
  have c6 := cnt_rng (fun g => sPf V g t ∧ ¬ V 22 g = V 4 (V 21 g)) (n := V 19 0) (by omega)
  have c9 := cnt_rng (fun g => V 20 g = t) (n := V 19 0) (by omega)
  unfold nP
  (repeat' split) <;> exact ⟨by omega, by omega⟩
noncomputable def sLaw (V : zM) (k : Int) : Int := lawV (evF (V 26) (nW V k) (V 25 0).toNat 0 [])
def sBar (V : zM) (t : Int) : Prop := soV (evF (V 28) (nT V t) (V 27 0).toNat 0 [])
def sFd (V : zM) (t x : Int) : Prop := if x = 0 then soV (evF (V 30) (nP V t) (V 29 0).toNat 0 []) else if x = 1 then soV (evF (V 30) (nTp V t) (V 29 0).toNat 0 []) else soV (evF (V 30) (nT V t) (V 29 0).toNat 0 [])
abbrev cF (V : zM) : Prop := (0 ≤ V 25 0 ∧ V 25 0 ≤ 64 ∧ ∀ j, 0 ≤ j → j < V 25 0 → 0 ≤ V 26 j) ∧ (0 ≤ V 27 0 ∧ V 27 0 ≤ 64 ∧ ∀ j, 0 ≤ j → j < V 27 0 → 0 ≤ V 28 j) ∧ (0 ≤ V 29 0 ∧ V 29 0 ≤ 64 ∧ ∀ j, 0 ≤ j → j < V 29 0 → 0 ≤ V 30 j)
theorem gF.cF (h : gF M V) : cF V := ⟨⟨h.1.1, h.1.2.1, h.1.cd⟩, ⟨h.2.1.1, h.2.1.2.1, h.2.1.cd⟩, ⟨h.2.2.1, h.2.2.2.1, h.2.2.cd⟩⟩
theorem e_X4_lawAt (hO : M 76 0 = 77 ∧ M 76 1 = 78) (h : cOk M c V) (hF : cF V) {k : Int} (k0 : 0 ≤ k) (k1 : k < V 13 0) : ∃ M', zm_X4_lawAt zLa [zA 4 76, zA 0 c, zI k] M = some ([zI (sLaw V k)], M') ∧ Sq M M' := by
  obtain ⟨M1, e1, hf1, hn1⟩ := e_X4_setAtWord hO.1 h k0 k1
  have hC1 := h.sm hf1.sm7
  have hL1 := hC1.2.1
  have hi := nW_in h.2.2.2 k0 k1
  obtain ⟨M2, e2, hs2⟩ := e_X2_workOut hF.1.1 hF.1.2.1 (by rw [(by omega : c + 25 + 1 = c + 26)]; exact la_c26 h.1) hi hF.1.2.2 (cne h.1).1 (wIn25 hC1 hn1)
  refine ⟨M2, ?_, Sq.tr (fun a k q => hf1 a k (by unfold Scq at q; omega)) hs2⟩
  rw [zr_X4_lawAt]
  refine z_out_some ?_
  rw [zb_X4_lawAt_0, e1, z_bV_mk, o76 hO.1 hf1, (hf1 76 1 (by decide)).trans hO.2]
  simp only [hL1]
  rw [e2, z_bJ_mk]
  exact lawC hi hF.1.1 hF.1.2.2 M2
theorem e_X4_bars (hO : M 76 0 = 77 ∧ M 76 1 = 78) (h : cOk M c V) (hF : cF V) {t : Int} (t0 : 0 ≤ t) (t1 : t < V 7 0) : ∃ M', zm_X4_bars zLa [zA 4 76, zA 0 c, zI t] M = some ([zI (b2i (sBar V t))], M') ∧ Sm M M' := by
  obtain ⟨M1, e1, hf1, hn1⟩ := e_X4_setTalk hO.1 h t0 t1
  have hC1 := h.sm hf1.sm7
  have hL1 := hC1.2.1
  obtain ⟨M2, e2, hs2⟩ := e_X4_isSo (o76 hO.1 hf1) ((hf1 76 1 (by decide)).trans hO.2) hF.2.1.1 hF.2.1.2.1 (by rw [(by omega : c + 27 + 1 = c + 28)]; exact la_c28 h.1) (nT_in h.2.2.2 t0 t1) hF.2.1.2.2 (cne h.1).2.1 (wIn27 hC1 hn1)
  refine ⟨M2, ?_, hf1.sm7.tr hs2⟩
  rw [zr_X4_bars]
  refine z_out_some ?_
  rw [zb_X4_bars_0, e1, z_bV_mk]
  simp only [hL1]
  rw [e2, z_bI_mk, if_pos (b2i_01 _)]
  rfl
theorem e_X4_finds (hO : M 76 0 = 77 ∧ M 76 1 = 78) (h : cOk M c V) (hF : cF V) {t : Int} (t0 : 0 ≤ t) (t1 : t < V 7 0) (x : Int) : ∃ M', zm_X4_finds zLa [zA 4 76, zA 0 c, zI t, zI x] M = some ([zI (b2i (sFd V t x))], M') ∧ Sm M M' := by
  have hla : zLa (c + 29 + 1) = 64 := by rw [(by omega : c + 29 + 1 = c + 30)]; exact la_c30 h.1
  unfold sFd
  by_cases q0 : x = 0
  · obtain ⟨M1, e1, hf1, hn1⟩ := e_X4_setPage hO.1 h t0 t1
    have hC1 := h.sm hf1.sm7
    have hL1 := hC1.2.1
    obtain ⟨M2, e2, hs2⟩ := e_X4_isSo (o76 hO.1 hf1) ((hf1 76 1 (by decide)).trans hO.2) hF.2.2.1 hF.2.2.2.1 hla (nP_in h.2.2.2 t0 t1) hF.2.2.2.2 (cne h.1).2.2 (wIn29 hC1 hn1)
    refine ⟨M2, ?_, hf1.sm7.tr hs2⟩
    rw [zr_X4_finds]
    refine z_out_some ?_
    rw [zb_X4_finds_0, if_pos q0, if_pos q0, e1, z_bV_mk]
    simp only [hL1]
    rw [e2, z_bI_mk, if_pos (b2i_01 _)]
  by_cases q1 : x = 1
  · obtain ⟨M1, e1, hf1, hn1⟩ := e_X4_setTape hO.1 h t0 t1
    have hC1 := h.sm hf1.sm7
    have hL1 := hC1.2.1
    obtain ⟨M2, e2, hs2⟩ := e_X4_isSo (o76 hO.1 hf1) ((hf1 76 1 (by decide)).trans hO.2) hF.2.2.1 hF.2.2.2.1 hla (nTp_in h.2.2.2 t0 t1) hF.2.2.2.2 (cne h.1).2.2 (wIn29 hC1 hn1)
    refine ⟨M2, ?_, hf1.sm7.tr hs2⟩
    rw [zr_X4_finds]
    refine z_out_some ?_
    rw [zb_X4_finds_0, if_neg q0, if_pos q1, if_neg q0, if_pos q1, e1, z_bV_mk]
    simp only [hL1]
    rw [e2, z_bI_mk, if_pos (b2i_01 _)]
  · obtain ⟨M1, e1, hf1, hn1⟩ := e_X4_setTalk hO.1 h t0 t1
    have hC1 := h.sm hf1.sm7
    have hL1 := hC1.2.1
    obtain ⟨M2, e2, hs2⟩ := e_X4_isSo (o76 hO.1 hf1) ((hf1 76 1 (by decide)).trans hO.2) hF.2.2.1 hF.2.2.2.1 hla (nT_in h.2.2.2 t0 t1) hF.2.2.2.2 (cne h.1).2.2 (wIn29 hC1 hn1)
    refine ⟨M2, ?_, hf1.sm7.tr hs2⟩
    rw [zr_X4_finds]
    refine z_out_some ?_
    rw [zb_X4_finds_0, if_neg q0, if_neg q1, if_neg q0, if_neg q1, e1, z_bV_mk]
    simp only [hL1]
    rw [e2, z_bI_mk, if_pos (b2i_01 _)]
/-! the reference -/
theorem e_X12_hasLine (hR : LayR M) {e : Int} (e0 : 0 ≤ e) (e1 : e < 6) : zm_X12_hasLine zLa [zA 12 84, zI e] M = some ([zI (b2i (M 105 e < M 106 e))], M) := by
  have hΛ := zLo_ok
  rw [zr_X12_hasLine]
  refine z_out_some ?_
  rw [zb_X12_hasLine_0]
  simp only [hR]
  simp only [hΛ]
  rw [if_pos (by omega), if_pos (by omega)]
  by_cases q : M 106 e ≤ M 105 e
  · rw [if_pos q, b2i_neg (by omega)]
  · rw [if_neg q, b2i_pos (by omega)]
/-- what a formula is worth in the reference -/
theorem r_sum (hR : LayR M) {N e : Int} {cd : Int → Int} (e0 : 0 ≤ e) (e1 : e < 6) (hF : fOk M N cd e) (hi : ∀ i, 0 ≤ i → i < 10 → inM (nf i)) (hn : ∀ j, 0 ≤ j → j < 10 → M 114 j = nf j) (hl : M 105 e < M 106 e) : ∃ v M', zm_X12_sumOf zLa [zA 12 84, zI e] M = some ([zJ v], M') ∧ Sq M M' ∧ inM v ∧ ((M' 84 64 = 0 ∧ evF cd nf N.toNat 0 [] = some [v]) ∨ (M' 84 64 = 1 ∧ evF cd nf N.toNat 0 [] = none)) := by
  rcases hF.2.2 with ⟨q1, q2⟩ | ⟨q1, q2, q3, q4, q5⟩
  · omega
  · exact e_X12_sumOf (K := M 107) (P := M 108) (O := M 109) e0 e1 hi q2 q4 q3 q1 q5 ⟨hR, rfl, rfl, fun j => ⟨rfl, rfl, rfl⟩, hn⟩
theorem e_X12_holds (hR : LayR M) {N e : Int} {cd : Int → Int} (e0 : 0 ≤ e) (e1 : e < 6) (hF : fOk M N cd e) (hi : ∀ i, 0 ≤ i → i < 10 → inM (nf i)) (hn : ∀ j, 0 ≤ j → j < 10 → M 114 j = nf j) : ∃ M', zm_X12_holds zLa [zA 12 84, zI e] M = some ([zI (b2i (soV (evF cd nf N.toNat 0 [])))], M') ∧ Sm M M' := by
  by_cases hl : M 105 e < M 106 e
  · obtain ⟨v, M', h1, hs, hv, h2⟩ := r_sum hR e0 e1 hF hi hn hl
    refine ⟨M', ?_, hs.sm⟩
    rw [zr_X12_holds]
    refine z_out_some ?_
    rw [zb_X12_holds_0, e_X12_hasLine hR e0 e1, z_bI_mk, b2i_pos hl, if_neg (by decide), h1, z_bJ_mk]
    rcases h2 with ⟨a, b⟩ | ⟨a, b⟩
    · rw [a, b, if_pos rfl]
      by_cases qv : v = 0
      · rw [if_pos (cmp3.2.2.mpr qv), b2i_neg (p := soV (some [v])) (fun r => r qv)]
      · rw [if_neg (fun r => qv (cmp3.2.2.mp r)), b2i_pos (p := soV (some [v])) qv]
    · rw [a, b, if_neg (by decide), b2i_neg (p := soV none) (fun r => r)]
  · have hN : N = 0 := by rcases hF.2.2 with ⟨q, -⟩ | ⟨q1, q2, q3, -⟩ <;> omega
    refine ⟨M, ?_, Sm.rf M⟩
    rw [zr_X12_holds]
    refine z_out_some ?_
    rw [zb_X12_holds_0, e_X12_hasLine hR e0 e1, z_bI_mk, b2i_neg hl, if_pos rfl, hN, b2i_neg (p := soV (evF cd nf (0 : Int).toNat 0 [])) (fun r => r)]
theorem e_X12_isBarred (h : mOk M V) (hF : gF M V) {t : Int} (t0 : 0 ≤ t) (t1 : t < V 7 0) : ∃ M', zm_X12_isBarred zLa [zA 12 84, zI t] M = some ([zI (b2i (sBar V t))], M') ∧ Sm M M' := by
  obtain ⟨M1, e1, hf1, hn1⟩ := e_X12_namesByBoth h t0 t1
  obtain ⟨M2, e2, hs2⟩ := e_X12_holds (h.sm hf1.sm4).1 (by decide) (by decide) (hF.sm hf1.sm4).2.1 (nT_in h.2.2 t0 t1) hn1
  refine ⟨M2, ?_, hf1.sm4.tr hs2⟩
  rw [zr_X12_isBarred]
  refine z_out_some ?_
  rw [zb_X12_isBarred_0, e1, z_bV_mk, e2, z_bI_mk, if_pos (b2i_01 _)]
  rfl
theorem e_X12_finds (h : mOk M V) (hF : gF M V) {t : Int} (t0 : 0 ≤ t) (t1 : t < V 7 0) (x : Int) : ∃ M', zm_X12_finds zLa [zA 12 84, zI t, zI x] M = some ([zI (b2i (sFd V t x))], M') ∧ Sm M M' := by
  have hN := h.2.2.1
  have hΛ := zLo_ok
  have hst := h.2.2.2.2.1 t t0 t1
  unfold sFd
  by_cases q0 : x = 0
  · obtain ⟨M1, e1, hf1, hn1⟩ := e_X12_namesByPage h t0 t1
    obtain ⟨M2, e2, hs2⟩ := e_X12_holds (h.sm hf1.sm4).1 (by decide) (by decide) (hF.sm hf1.sm4).2.2 (nP_in h.2.2 t0 t1) hn1
    refine ⟨M2, ?_, hf1.sm4.tr hs2⟩
    rw [zr_X12_finds]
    refine z_out_some ?_
    rw [zb_X12_finds_0, if_pos q0, if_pos q0, e1, z_bV_mk, e2, z_bI_mk, if_pos (b2i_01 _)]
  by_cases q1 : x = 1
  · obtain ⟨M1, e1, hf1, hn1⟩ := r_tape h t0 t1
    have hm1 := h.sm hf1.sm4
    have hR1 := hm1.1
    have hE1 := hm1.2.1.2.2.1 t t0 t1
    have key : ∀ v, v = nTp V t 1 → ∃ M2, zm_X12_holds zLa [zA 12 84, zI 2] (z_wr M1 114 1 v) = some ([zI (b2i (soV (evF (V 30) (nTp V t) (V 29 0).toNat 0 [])))], M2) ∧ Sm M M2 := fun v hv => by
      have hf2 : fA 114 M (z_wr M1 114 1 v) := hf1.tr fA.wr
      obtain ⟨M2, e2, hs2⟩ := e_X12_holds (h.sm hf2.sm4).1 (e := 2) (by decide) (by decide) (hF.sm hf2.sm4).2.2 (nTp_in h.2.2 t0 t1) (fun j a b => by
        by_cases qj : j = 1
        · subst qj; rw [z_wr_eq, hv]
        · rw [z_wr_ne (Or.inr qj)]; exact hn1 j a b qj)
      exact ⟨M2, e2, hf2.sm4.tr hs2⟩
    by_cases q2 : V 12 t < 0
    · obtain ⟨M2, e2, hs2⟩ := key 0 (by unfold nTp; rw [if_neg (by decide), if_pos (by omega)])
      refine ⟨M2, ?_, hs2⟩
      rw [zr_X12_finds]
      refine z_out_some ?_
      rw [zb_X12_finds_0, if_neg q0, if_pos q1, if_neg q0, if_pos q1, e1, z_bV_mk]
      simp only [hR1]
      simp only [hΛ, hE1, z_lt_eq]
      rw [if_pos (by omega), if_pos q2, if_pos (by decide), e2, z_bI_mk, if_pos (b2i_01 _)]
    · obtain ⟨M2, e2, hs2⟩ := key (V 11 t - V 12 t) (by unfold nTp; rw [if_neg (by decide), if_neg (by omega), if_pos rfl])
      refine ⟨M2, ?_, hs2⟩
      rw [zr_X12_finds]
      refine z_out_some ?_
      rw [zb_X12_finds_0, if_neg q0, if_pos q1, if_neg q0, if_pos q1, e1, z_bV_mk]
      simp only [hR1]
      simp only [hΛ, hE1, z_lt_eq]
      rw [if_pos (by omega), if_neg q2, if_pos (by omega), if_pos (by omega), if_pos (by decide), z_sub_id (by omega) (by omega), e2, z_bI_mk, if_pos (b2i_01 _)]
  · obtain ⟨M1, e1, hf1, hn1⟩ := e_X12_namesByBoth h t0 t1
    obtain ⟨M2, e2, hs2⟩ := e_X12_holds (h.sm hf1.sm4).1 (by decide) (by decide) (hF.sm hf1.sm4).2.2 (nT_in h.2.2 t0 t1) hn1
    refine ⟨M2, ?_, hf1.sm4.tr hs2⟩
    rw [zr_X12_finds]
    refine z_out_some ?_
    rw [zb_X12_finds_0, if_neg q0, if_neg q1, if_neg q0, if_neg q1, e1, z_bV_mk, e2, z_bI_mk, if_pos (b2i_01 _)]
theorem e_X12_lawAt (h : mOk M V) (hF : gF M V) {k : Int} (k0 : 0 ≤ k) (k1 : k < V 13 0) (k2 : V 16 k ≤ V 0 9) : ∃ M', zm_X12_lawAt zLa [zA 12 84, zI k] M = some ([zI (sLaw V k)], M') ∧ Sq M M' := by
  have hN := h.2.2.1
  have hΛ := zLo_ok
  have hk := h.2.2.2.2.2.1 k k0 k1
  have hst := h.2.2.2.2.1 (V 15 k) (by omega) (by omega)
  have hr := sLo_rng h.2.2 (t := V 15 k) (u := V 16 k) (by omega) (by omega) (by omega) (by omega)
  by_cases hl : M 105 0 < M 106 0
  case neg =>
    have hN0 : V 25 0 = 0 := by rcases hF.1.2.2 with ⟨q, -⟩ | ⟨q1, q2, q3, -⟩ <;> omega
    refine ⟨M, ?_, Sq.rf M⟩
    rw [zr_X12_lawAt]
    refine z_out_some ?_
    rw [zb_X12_lawAt_0, e_X12_hasLine h.1 (by decide) (by decide), z_bI_mk, b2i_neg hl, if_pos rfl]
    unfold sLaw
    rw [hN0]
    rfl
  have hR := h.1
  have mk := h.2.1.2.2.2.1 k k0 k1
  obtain ⟨M1, e1, hf1, h10, h1z⟩ := e_X12_noNames h (t := V 15 k) (by omega) (by omega)
  have hm1 := h.sm hf1.sm4
  have hR1 := hm1.1
  have mk1 := hm1.2.1.2.2.2.1 k k0 k1
  have mt1 := hm1.2.1.2.2.1 (V 15 k) (by omega) (by omega)
  have hf2 : fA 114 M (z_wr M1 114 1 (V 16 k - V 10 (V 15 k))) := hf1.tr fA.wr
  have hm2 := h.sm hf2.sm4
  have hR2 := hm2.1
  have mk2 := hm2.2.1.2.2.2.1 k k0 k1
  have hf3 : fA 114 M (z_wr (z_wr M1 114 1 (V 16 k - V 10 (V 15 k))) 114 2 (sLo V (V 15 k) (V 16 k) - V 10 (V 15 k) + 1)) := hf2.tr fA.wr
  generalize hM3 : z_wr (z_wr M1 114 1 (V 16 k - V 10 (V 15 k))) 114 2 (sLo V (V 15 k) (V 16 k) - V 10 (V 15 k) + 1) = M3 at hf3
  have g0 : M3 114 0 = V 9 (V 15 k) := by rw [← hM3, z_wr_ne (Or.inr (by decide)), z_wr_ne (Or.inr (by decide))]; exact h10
  have g1 : M3 114 1 = V 16 k - V 10 (V 15 k) := by rw [← hM3, z_wr_ne (Or.inr (by decide)), z_wr_eq]
  have g2 : M3 114 2 = sLo V (V 15 k) (V 16 k) - V 10 (V 15 k) + 1 := by rw [← hM3, z_wr_eq]
  have gz : ∀ j, 3 ≤ j → j < 10 → M3 114 j = 0 := fun j a b => by rw [← hM3, z_wr_ne (Or.inr (by omega)), z_wr_ne (Or.inr (by omega))]; exact h1z j (by omega) b
  obtain ⟨M4, e4, hf4, h43, h44, h4o⟩ := lp_ex (fun i (m : zM) => z_ev (zcd_X12_lawAt zLa) 1 [zA 12 84, zI k, zI (V 15 k), zI i, zU] [] m) (fun i m => fA 114 M3 m ∧ m 114 3 = cnt (aW V k) i ∧ m 114 4 = cnt (aW2 V k) i ∧ ∀ j, j ≠ 3 → j ≠ 4 → m 114 j = M3 114 j) (n := k) 0 (fun i m hi0 hi1 ⟨hf, h3, h4, ho⟩ => by
    have hm := h.sm (hf3.tr hf).sm4
    have c3 := cnt_rng (aW V k) hi0
    have c4 := cnt_rng (aW2 V k) hi0
    have s3 := cnt_s (aW V k) hi0
    have s4 := cnt_s (aW2 V k) hi0
    rw [zb_X12_lawAt_1, if_pos hi1, e_X12_asks hm, z_bI_mk, z_w32_id (n := i + 1) (by omega) (by omega)]
    rcases Classical.em (sAsk V i (V 15 k)) with q | q
    case inr =>
      have q' : ¬ aW V k i := fun r => q ⟨hi0, by omega, v_ahead h.2.2.2.2.2.2.1 hi0 hi1 k1 k2 r.1, r.2, r.1⟩
      rw [b2i_neg q, if_pos rfl]
      rw [b2i_neg q'] at s3
      rw [b2i_neg (fun r => q' r.1)] at s4
      exact ⟨m, rfl, hf, by omega, by omega, ho⟩
    have q' : aW V k i := ⟨q.2.2.2.2, q.2.2.2.1⟩
    rw [b2i_pos q, if_neg (by decide)]
    rw [b2i_pos q'] at s3
    rw [b2i_congr (q := V 18 i ≠ -1) ⟨fun r => r.2, fun r => ⟨q', r⟩⟩] at s4
    obtain ⟨m', e', hf', h3', h4', ho'⟩ := r_ask hm hi0 (by omega) (by omega) (by omega) (fun M => z_ev (zcd_X12_lawAt zLa) 1 [zA 12 84, zI k, zI (V 15 k), zI (i + 1), zU] [] M)
    exact ⟨m', e', hf.tr hf', by omega, by omega, fun j a b => (ho' j a b).trans (ho j a b)⟩) (s := M3) (by omega) ⟨fA.rf 114 M3, gz 3 (by decide) (by decide), gz 4 (by decide) (by decide), fun _ _ _ => rfl⟩
  try dsimp only at e4
  have hf4' := hf3.tr hf4
  have hn4 : ∀ j, 0 ≤ j → j < 10 → M4 114 j = nW V k j := fun j a b => by
    rcases (by omega : j = 0 ∨ j = 1 ∨ j = 2 ∨ j = 3 ∨ j = 4 ∨ 5 ≤ j) with r | r | r | r | r | r
    · subst r; rw [h4o 0 (by decide) (by decide), g0]; rfl
    · subst r; rw [h4o 1 (by decide) (by decide), g1]; rfl
    · subst r; rw [h4o 2 (by decide) (by decide), g2]; rfl
    · subst r; rw [h43]; rfl
    · subst r; rw [h44]; rfl
    · rw [h4o j (by omega) (by omega), gz j (by omega) b]
      unfold nW
      rw [if_neg (by omega), if_neg (by omega), if_neg (by omega), if_neg (by omega), if_neg (by omega)]
  have hi := nW_in h.2.2 k0 k1
  have e5 : M4 105 0 = M 105 0 := hf4' 105 0 (by decide)
  have e6 : M4 106 0 = M 106 0 := hf4' 106 0 (by decide)
  obtain ⟨v, M5, e7, hs5, hv, h5⟩ := r_sum (h.sm hf4'.sm4).1 (by decide) (by decide) (hF.sm hf4'.sm4).1 hi hn4 (by omega)
  refine ⟨M5, ?_, Sq.tr (fun a k q => hf4' a k (by unfold Scq at q; omega)) hs5⟩
  rw [zr_X12_lawAt]
  refine z_out_some ?_
  rw [zb_X12_lawAt_0, e_X12_hasLine h.1 (by decide) (by decide), z_bI_mk, b2i_pos hl, if_neg (by decide)]
  simp only [hR]
  simp only [hΛ, mk]
  rw [if_pos (by omega), e1, z_bV_mk]
  simp only [hR1, z_lt_eq]
  simp only [hΛ, mk1, mt1]
  rw [if_pos (by omega), if_pos (by omega), if_pos (by decide), z_sub_id (a := V 16 k) (by omega) (by omega)]
  simp only [hR2]
  simp only [hΛ, mk2]
  rw [if_pos (by omega), e_X12_offUpTo hm2 (by omega) (by omega) (by omega) (by omega), z_bI_mk, if_pos (by decide), hM3, e4, zb_X12_lawAt_1, if_neg (by omega), e7, z_bJ_mk]
  unfold sLaw
  rcases h5 with ⟨a, b⟩ | ⟨a, b⟩
  · rw [a, b, if_pos rfl]
    have e2 : lawV (some [v]) = if v < 0 then 0 else if v ≤ 100 then v else 100 := rfl
    rw [e2]
    by_cases r1 : v < 0
    · rw [if_pos (cmp3.1.mpr r1), if_pos r1]
    rw [if_neg (fun r => r1 (cmp3.1.mp r)), if_neg r1]
    by_cases r2 : v ≤ 100
    · rw [if_pos (cmp3.2.1.mpr r2), if_pos r2, z_w32_id (by omega) (by omega)]
    · rw [if_neg (fun r => r2 (cmp3.2.1.mp r)), if_neg r2]
  · rw [a, b, if_neg (by decide)]
    rfl
end
