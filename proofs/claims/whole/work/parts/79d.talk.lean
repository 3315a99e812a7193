section
/-! ===== lines of a TALK ===== -/
section
variable {B K A P Q : Int → Int} {n N : Int} {Mc Mr U U' : zM} {c p : Int}
/-- an HOUR of a TELLER's talk: read alike, too early told alike -/
theorem ck_hour (hT : TS B n 0 N K A P Q) (n1 : n ≤ 800) (hv : vOk U) (hc : PC N K A P Mc c U p) (hr : PR B K A P Q n Mr U p) {t : Int} (t0 : 0 ≤ t) (t1 : t < U 7 0) : (K p = 1002 ∧ U 10 t ≤ A p ∧ A p ≤ U 11 t ∧ sLh U t ≤ A p ∧ (∃ m, zm_X7_takeHour zLa [zA 7 1, zI t] Mc = some ([zI 1], m) ∧ PC N K A P m c U (p + 1) ∧ m 1 4 = A p ∧ gC c Mc m) ∧ zm_X12_numberRead zLa [zA 12 84, zI (U 10 t), zI (U 11 t)] Mr = some ([zI 1], Mr) ∧ Mr 84 9 = A p ∧ ∃ d, zm_X12_latestHour zLa [zA 12 84, zI 60, zI (U 13 0), zI t] Mr = some ([zI d], Mr) ∧ ¬ A p < d) ∨ LN (zm_X7_takeHour zLa [zA 7 1, zI t] Mc) (zm_X12_numberRead zLa [zA 12 84, zI (U 10 t), zI (U 11 t)] Mr) c Mc Mr ∨ (zm_X12_numberRead zLa [zA 12 84, zI (U 10 t), zI (U 11 t)] Mr = some ([zI 1], Mr) ∧ Mr 84 9 = A p ∧ (∃ d, zm_X12_latestHour zLa [zA 12 84, zI 60, zI (U 13 0), zI t] Mr = some ([zI d], Mr) ∧ A p < d) ∧ LN (zm_X7_takeHour zLa [zA 7 1, zI t] Mc) (zm_X12_wrong zLa [zA 12 84, zI 5] Mr) c Mc Mr) := by
  have hN := hv.1
  have hS := hv.2.2.1 t t0 t1
  have e2 : ∀ w2 w3, z_ev (zcd_X7_takeHour zLa) 2 [zA 7 1, zI t, w2, w3] [] Mc = z_bI (zm_X7_takeNumber zLa [zA 7 1, zI (U 10 t), zI (U 11 t)] Mc) (fun r2 M1 => if r2 = 0 ∨ r2 = 1 then some (.inl ([zI r2], M1)) else none) := fun w2 w3 => by
    rw [zb_X7_takeHour_2, hc.2.1, lc_0_1 hc.y, lc_7_3 hc.y, la_c10 hc.1, if_pos ⟨t0, by omega⟩, lc_7_4 hc.y, la_c11 hc.1, if_pos ⟨t0, by omega⟩, cv_10 hc.v, cv_11 hc.v]
  have e0 : z_ev (zcd_X7_takeHour zLa) 0 [zA 7 1, zI t, zU, zU] [] Mc = if A p < U 10 t then z_ev (zcd_X7_takeHour zLa) 1 [zA 7 1, zI t, zI (A p), zU] [zI 0] Mc else if A p ≤ U 11 t then z_ev (zcd_X7_takeHour zLa) 1 [zA 7 1, zI t, zI (A p), zU] [zI 1] Mc else z_ev (zcd_X7_takeHour zLa) 1 [zA 7 1, zI t, zI (A p), zU] [zI 0] Mc := by
    have t5 : 0 ≤ t ∧ t < 5 := ⟨t0, by omega⟩
    rw [zb_X7_takeHour_0, hc.2.1, lc_0_1 hc.y, lc_7_3 hc.y, la_c10 hc.1, if_pos t5, lc_7_4 hc.y, la_c11 hc.1, if_pos t5, cv_10 hc.v, cv_11 hc.v, lo_1_0 hc.o, hc.a]
  have hck := ck_num hT n1 hc hr (U 10 t) (U 11 t) (by omega)
  by_cases q : K p = 1002 ∧ U 10 t ≤ A p ∧ A p ≤ U 11 t
  case neg =>
    have e1 : z_ev (zcd_X7_takeHour zLa) 0 [zA 7 1, zI t, zU, zU] [] Mc = z_bI (zm_X7_takeNumber zLa [zA 7 1, zI (U 10 t), zI (U 11 t)] Mc) (fun r2 M1 => if r2 = 0 ∨ r2 = 1 then some (.inl ([zI r2], M1)) else none) := by
      rw [e0]
      by_cases qk : K p = 1002
      · by_cases q1 : A p < U 10 t
        · rw [if_pos q1, zb_X7_takeHour_1, lo_1_0 hc.o, hc.k, if_pos qk, if_pos rfl, e2]
        · rw [if_neg q1, if_neg (by omega), zb_X7_takeHour_1, lo_1_0 hc.o, hc.k, if_pos qk, if_pos rfl, e2]
      · have ek : ∀ y0 : Int, z_ev (zcd_X7_takeHour zLa) 1 [zA 7 1, zI t, zI (A p), zU] [zI y0] Mc = z_bI (zm_X7_takeNumber zLa [zA 7 1, zI (U 10 t), zI (U 11 t)] Mc) (fun r2 M1 => if r2 = 0 ∨ r2 = 1 then some (.inl ([zI r2], M1)) else none) := fun y0 => by rw [zb_X7_takeHour_1, lo_1_0 hc.o, hc.k, if_neg qk, e2]
        rw [ek 0, ek 1]
        split
        · rfl
        · split <;> rfl
    rcases hck with ⟨a1, a2, a3, -⟩ | ⟨mc, mr, e, e', a1, a2, a3⟩
    · exact absurd ⟨a1, a2, a3⟩ q
    · refine Or.inr (Or.inl ⟨mc, mr, ?_, e', a1, a2, a3⟩)
      rw [zr_X7_takeHour, e1, e, z_bI_mk, if_pos (Or.inl rfl)]; rfl
  obtain ⟨qk, q1, q2⟩ := q
  have hml := hr.2.1.2.2.2.1
  have hd : ∃ d, zm_X12_latestHour zLa [zA 12 84, zI 60, zI (U 13 0), zI t] Mr = some ([zI d], Mr) ∧ (A p < d ↔ A p < sLh U t) := by
    refine ⟨_, e_X12_latestHour hr.1 (by decide) (by omega) (by omega) t, ?_⟩
    have e : lst (fun i => Mr 98 (60 + i) = t) (U 13 0) = lst (fun i => U 15 i = t) (U 13 0) := lst_congr (fun k a b => by rw [(hml k a b).2.1])
    rw [e]
    unfold sLh
    rcases lst_spec (fun i => U 15 i = t) (n := U 13 0) (by omega) with ⟨a, -⟩ | ⟨a, b, -, -⟩
    · rw [cite_pos a, cite_pos a]
      omega
    · rw [cite_neg (by omega), cite_neg (by omega), (hml _ a b).2.2.1]
  obtain ⟨d, ed, hd⟩ := hd
  have e1 : z_ev (zcd_X7_takeHour zLa) 0 [zA 7 1, zI t, zU, zU] [] Mc = if A p < sLh U t then z_bI (zm_X7_wrong zLa [zA 7 1, zI 5] Mc) (fun r4 M3 => if r4 = 0 ∨ r4 = 1 then some (.inl ([zI r4], M3)) else none) else z_bI (zm_X7_takeNumber zLa [zA 7 1, zI (U 10 t), zI (U 11 t)] Mc) (fun r2 M1 => if r2 = 0 ∨ r2 = 1 then some (.inl ([zI r2], M1)) else none) := by
    rw [e0, if_neg (by omega), if_pos q2, zb_X7_takeHour_1, lo_1_0 hc.o, hc.k, if_pos qk, if_neg (by decide), hc.2.1, lc_0_2 hc.y, e_X3_latestHour (hc.co hv), z_bI_mk, e2]
  rcases hck with ⟨-, -, -, ⟨m, e, h1, t1', g1⟩, e', w'⟩ | ⟨mc, mr, e, e', a1, a2, a3⟩
  · by_cases q3 : A p < sLh U t
    · obtain ⟨f1, f2, f3⟩ := fail2 hc hr 5
      refine Or.inr (Or.inr ⟨e', w', ⟨d, ed, hd.2 q3⟩, _, _, ?_, r_wrong hr 5, f1, f2, f3⟩)
      rw [zr_X7_takeHour, e1, if_pos q3, c_wrong hc, z_bI_mk, if_pos (Or.inl rfl)]; rfl
    · refine Or.inl ⟨qk, q1, q2, by omega, ⟨m, ?_, h1, t1', g1⟩, e', w', d, ed, fun r => q3 (hd.1 r)⟩
      rw [zr_X7_takeHour, e1, if_neg q3, e, z_bI_mk, if_pos (Or.inr rfl)]; rfl
  · exfalso
    obtain ⟨m, e9, -⟩ := c_take_ok hT n1 hc (y := 1002) (by decide) qk
    rw [zr_X7_takeNumber, zb_X7_takeNumber_0, lo_1_0 hc.o, hc.k, hc.a, if_pos qk, if_neg (by omega), if_pos q2, e9, z_bI_mk, if_pos (Or.inr rfl)] at e
    cases e
/-- the reference's TALK LINE is told -/
theorem PR.aL {y t u w v : Int} (hN : vOkN U) (n40 : U 13 0 < 40) (hy : y = 0 ∨ y = 1) (h : PR B K A P Q n Mr U p) : PR B K A P Q n (z_wr (z_wr (z_wr (z_wr (z_wr (z_wr Mr 97 (60 + U 13 0) y) 98 (60 + U 13 0) t) 99 (60 + U 13 0) u) 100 (60 + U 13 0) w) 101 (60 + U 13 0) v) 84 18 (U 13 0 + 1)) (addL U y t u w v) p := by
  have h1 := h.st hN (a := 97) (k := 60 + U 13 0) (v := y) (by unfold wSt; omega)
  have h2 := h1.st hN (a := 98) (k := 60 + U 13 0) (v := t) (by unfold wSt; omega)
  have h3 := h2.st hN (a := 99) (k := 60 + U 13 0) (v := u) (by unfold wSt; omega)
  have h4 := h3.st hN (a := 100) (k := 60 + U 13 0) (v := w) (by unfold wSt; omega)
  have h5 := h4.st hN (a := 101) (k := 60 + U 13 0) (v := v) (by unfold wSt; omega)
  have e97 : z_wr (z_wr (z_wr (z_wr (z_wr Mr 97 (60 + U 13 0) y) 98 (60 + U 13 0) t) 99 (60 + U 13 0) u) 100 (60 + U 13 0) w) 101 (60 + U 13 0) v 97 (60 + U 13 0) = y := by rw [z_wr_ne (by omega), z_wr_ne (by omega), z_wr_ne (by omega), z_wr_ne (by omega), z_wr_eq]
  have e98 : z_wr (z_wr (z_wr (z_wr (z_wr Mr 97 (60 + U 13 0) y) 98 (60 + U 13 0) t) 99 (60 + U 13 0) u) 100 (60 + U 13 0) w) 101 (60 + U 13 0) v 98 (60 + U 13 0) = t := by rw [z_wr_ne (by omega), z_wr_ne (by omega), z_wr_ne (by omega), z_wr_eq]
  have e99 : z_wr (z_wr (z_wr (z_wr (z_wr Mr 97 (60 + U 13 0) y) 98 (60 + U 13 0) t) 99 (60 + U 13 0) u) 100 (60 + U 13 0) w) 101 (60 + U 13 0) v 99 (60 + U 13 0) = u := by rw [z_wr_ne (by omega), z_wr_ne (by omega), z_wr_eq]
  have e100 : z_wr (z_wr (z_wr (z_wr (z_wr Mr 97 (60 + U 13 0) y) 98 (60 + U 13 0) t) 99 (60 + U 13 0) u) 100 (60 + U 13 0) w) 101 (60 + U 13 0) v 100 (60 + U 13 0) = w := by rw [z_wr_ne (by omega), z_wr_eq]
  have e101 : z_wr (z_wr (z_wr (z_wr (z_wr Mr 97 (60 + U 13 0) y) 98 (60 + U 13 0) t) 99 (60 + U 13 0) u) 100 (60 + U 13 0) w) 101 (60 + U 13 0) v 101 (60 + U 13 0) = v := z_wr_eq _ _ _ _
  generalize z_wr (z_wr (z_wr (z_wr (z_wr Mr 97 (60 + U 13 0) y) 98 (60 + U 13 0) t) 99 (60 + U 13 0) u) 100 (60 + U 13 0) w) 101 (60 + U 13 0) v = R0 at h5 e97 e98 e99 e100 e101 ⊢
  have fr : ∀ a k, ¬ (a = 84 ∧ k = 18) → z_wr R0 84 18 (U 13 0 + 1) a k = R0 a k := fun a k q1 => z_wr_ne (by omega)
  have e18 : z_wr R0 84 18 (U 13 0 + 1) 84 18 = U 13 0 + 1 := z_wr_eq _ _ _ _
  generalize z_wr R0 84 18 (U 13 0 + 1) = R at fr e18 ⊢
  have t' := h5.tk
  have hm := h5.2.1
  have ho : ∀ o k, (o < 13 ∨ 18 < o ∨ (o = 13 ∧ k ≠ 0)) → addL U y t u w v o k = U o k := fun o k q => addL_o q
  have h14 := addL_14 (V := U) (y := y) (t := t) (u := u) (w := w) (v := v)
  have h15 := addL_15 (V := U) (y := y) (t := t) (u := u) (w := w) (v := v)
  have h16 := addL_16 (V := U) (y := y) (t := t) (u := u) (w := w) (v := v)
  have h17 := addL_17 (V := U) (y := y) (t := t) (u := u) (w := w) (v := v)
  have h18 := addL_18 (V := U) (y := y) (t := t) (u := u) (w := w) (v := v)
  have h0 : addL U y t u w v 13 0 = U 13 0 + 1 := addL_n
  generalize addL U y t u w v = U' at ho h14 h15 h16 h17 h18 h0 ⊢
  have e' : ∀ o k, o < 13 ∨ 18 < o → U' o k = U o k := fun o k q => ho o k (by omega)
  refine ⟨h5.1.ag (fun a k q => fr a k (by unfold pR at q; omega)), ⟨⟨?_, ?_, by rw [e18, h0], ?_⟩, fun k x y => ?_, fun k x y => ?_, fun k x y => ?_, fun k x y => ?_⟩, fRd.u (fun o k q => ho o k (by omega)) (fRd.ag (fr _ _ (by omega)) (fr _ _ (by omega)) (fun j _ _ => ⟨fr _ _ (by omega), fr _ _ (by omega)⟩) (fun j _ _ => ⟨fr _ _ (by omega), fr _ _ (by omega), fr _ _ (by omega)⟩) h5.2.2.1), ⟨⟨(fr _ _ (by omega)).trans t'.1.1, (fr _ _ (by omega)).trans t'.1.2.1, (fr _ _ (by omega)).trans t'.1.2.2.1, fun j x y => (fr _ _ (by omega)).trans (t'.1.2.2.2.1 j x y), fun j x y => (fr _ _ (by omega)).trans (t'.1.2.2.2.2 j x y)⟩, (fr _ _ (by omega)).trans t'.2.1, (fr _ _ (by omega)).trans t'.2.2.1, by rw [fr _ _ (by omega), fr _ _ (by omega)]; exact t'.2.2.2⟩, bR.ag (fun k => fr _ _ (by omega)) h5.2.2.2.2⟩
  · rw [e' _ _ (by decide), fr _ _ (by omega)]; exact hm.1.1
  · rw [e' _ _ (by decide), fr _ _ (by omega)]; exact hm.1.2.1
  · rw [e' _ _ (by decide), fr _ _ (by omega)]; exact hm.1.2.2.2
  · rw [e' _ _ (by decide)] at y
    have := hm.2.1 k x y
    rw [e' 2 k (by decide), e' 3 k (by decide), e' 4 k (by decide), e' 5 k (by decide), e' 6 k (by decide), fr _ _ (by omega), fr _ _ (by omega), fr _ _ (by omega), fr _ _ (by omega), fr _ _ (by omega)]
    exact this
  · rw [e' _ _ (by decide)] at y
    have := hm.2.2.1 k x y
    rw [e' 8 k (by decide), e' 9 k (by decide), e' 10 k (by decide), e' 11 k (by decide), e' 12 k (by decide), fr _ _ (by omega), fr _ _ (by omega), fr _ _ (by omega), fr _ _ (by omega), fr _ _ (by omega)]
    exact this
  · rw [h0] at y
    rw [h14, h15, h16, h17, h18, fr _ _ (by omega), fr _ _ (by omega), fr _ _ (by omega), fr _ _ (by omega), fr _ _ (by omega)]
    by_cases q : k = U 13 0
    · rw [if_pos q, if_pos q, if_pos q, if_pos q, if_pos q, q]
      exact ⟨e97, e98, e99, e100, e101⟩
    · rw [if_neg q, if_neg q, if_neg q, if_neg q, if_neg q]
      exact hm.2.2.2.1 k x (by omega)
  · rw [e' _ _ (by decide)] at y
    have := hm.2.2.2.2 k x y
    rw [e' 20 k (by decide), e' 21 k (by decide), e' 22 k (by decide), fr _ _ (by omega), fr _ _ (by omega), fr _ _ (by omega)]
    exact this
/-- the end of a TALK LINE: it is kept on both sides -/
theorem l_tkEnd (hv : vOk U) (n40 : U 13 0 < 40) {y t u w v p0 : Int} (hy : y = 0 ∨ y = 1) (t0 : 0 ≤ t) (t1 : t < U 7 0) (u0 : U 10 t ≤ u) (u1 : u ≤ U 11 t) (w0 : 0 ≤ w) (w1 : w < U 1 0) (v0 : -1 ≤ v) (v1 : v < U 3 w) (v2 : y ≠ 0 → 0 ≤ v) (hl : sLh U t ≤ u) (hp : p0 < p) (hc : PC N K A P Mc c U p) (hr : PR B K A P Q n Mr U p) : LK (z_out (z_bV (zm_X3_add zLa [zA 3 (Mc (Mc 1 1) 2), zI y, zI t, zI u, zI w, zI v] Mc) (fun M8 => some (.inl ([zI (1:Int)], M8))))) (z_out (z_ev (zcd_X12_talkLine zLa) 2 [zA 12 84, zI y, zI (60 + U 13 0), zI t, zI u, zI w, zI v] [] Mr)) c Mc Mr (SK B K A P Q n N c p0 U) := by
  have hN := hv.1
  obtain ⟨c1, e1, hL1, hV1, ff⟩ := e_X3_add (y := y) (t := t) (u := u) (w := w) (v := v) hc.1 hc.y hc.v (by omega) (by omega) hy
  have h1 := hc.fc (fun a k q => ff a k (by omega)) hL1 hV1
  have hN' : vOk (addL U y t u w v) := vOk_addL hv (by omega) hy t0 t1 u0 u1 w0 w1 v0 v1 v2 hl
  have s1 := hr.st hN (a := 97) (k := 60 + U 13 0) (v := y) (by unfold wSt; omega)
  have s2 := s1.st hN (a := 98) (k := 60 + U 13 0) (v := t) (by unfold wSt; omega)
  have s3 := s2.st hN (a := 99) (k := 60 + U 13 0) (v := u) (by unfold wSt; omega)
  have s4 := s3.st hN (a := 100) (k := 60 + U 13 0) (v := w) (by unfold wSt; omega)
  have s5 := s4.st hN (a := 101) (k := 60 + U 13 0) (v := v) (by unfold wSt; omega)
  have hE := hr.aL (t := t) (u := u) (w := w) (v := v) hN n40 hy
  rw [hc.2.1, lc_0_2 hc.y, e1, z_bV_mk, zb_X12_talkLine_2, lr_31 hr.1, la_97, if_pos ⟨⟨by omega, by omega⟩, hy⟩, z_lt_eq, lr_32 s1.1, la_98, if_pos ⟨by omega, by omega⟩, z_lt_eq, lr_33 s2.1, la_99, if_pos ⟨by omega, by omega⟩, z_lt_eq, lr_34 s3.1, la_100, if_pos ⟨by omega, by omega⟩, z_lt_eq, lr_35 s4.1, la_101, if_pos ⟨by omega, by omega⟩, z_lt_eq, s5.2.1.1.2.2.1, z_add_id (by omega) (by omega), z_lt_eq]
  exact Or.inl ⟨_, _, rfl, rfl, fun a k _ _ _ q => ff a k (by omega), (((((gR.wr (by unfold wRd; omega)).tr (gR.wr (by unfold wRd; omega))).tr (gR.wr (by unfold wRd; omega))).tr (gR.wr (by unfold wRd; omega))).tr (gR.wr (by unfold wRd; omega))).tr (gR.wr (by unfold wRd; omega)), _, _, h1, hE, hN', fun k _ => addL_o (by omega), addL_o (by omega), hp, fun _ => by rw [addL_n]; omega⟩
theorem l_talk (hT : TS B n 0 N K A P Q) (n1 : n ≤ 800) (hv : vOk U) (hc : PC N K A P Mc c U p) (hr : PR B K A P Q n Mr U p) (h40 : U 13 0 ≤ 40) {y : Int} (hy : (y = 0 ∧ K p = 1108) ∨ (y = 1 ∧ K p = 1109)) : LK (zm_X7_readTalk zLa [zA 7 1, zI y] Mc) (zm_X12_talkLine zLa [zA 12 84, zI y] Mr) c Mc Mr (SK B K A P Q n N c p U) := by
  have hN := hv.1
  have hp := hc.p0
  have hcc : c = 8 ∨ c = 42 := hc.1
  rw [zr_X7_readTalk, zr_X12_talkLine, zb_X7_readTalk_0, zb_X12_talkLine_0, hc.2.1, lc_0_2 hc.y, cv_13 hc.v, hr.2.1.1.2.2.1]
  by_cases q8 : U 13 0 < 40
  case neg =>
    obtain ⟨f1, f2, f3⟩ := fail2 hc hr 2
    rw [if_neg q8, if_pos (by omega), c_wrong hc, z_bI_mk, if_pos (Or.inl rfl), r_wrong hr, z_bI_mk, if_pos (Or.inl rfl)]
    exact Or.inr ⟨_, _, rfl, rfl, f1, f2, f3⟩
  obtain ⟨c1, e1, h1, f1⟩ := hc.step hT n1 (by omega)
  obtain ⟨r1, e1', h1', f1'⟩ := r_take hT hN hr hp.1 hp.2 (by omega)
  rw [if_pos q8, lo_1_0 hc.o, e1, z_bV_mk, if_neg (by omega), e1', z_bV_mk, lr_26 h1'.1, h1'.2.1.1.2.1]
  refine LK.pre f1.gc f1'.gr ?_
  rcases ck_tel hT n1 hv h1 h1' with ⟨t, t0, t1, q1, ⟨c2, e2, h2, t2, g2⟩, e2', w2'⟩ | ⟨mc, mr, e2, e2', a1, a2, a3⟩
  case inr =>
    rw [e2, z_bI_mk, if_pos rfl, e2', z_bI_mk, if_pos rfl]
    exact Or.inr ⟨mc, mr, rfl, rfl, a1, a2, a3⟩
  have hp1 := h1.p0
  obtain ⟨r2, e3', h2', f2'⟩ := r_take hT hN h1' hp1.1 hp1.2 (by omega)
  have hm := (h2'.2.1.2.2.1 t t0 t1)
  rw [e2, z_bI_mk, if_neg (by decide), t2, e2', z_bI_mk, if_neg (by decide), lr_26 h1'.1, h1'.2.1.1.2.1, w2', z_bI_mk, e3', z_bV_mk, z_add_id (a := 5) (b := t) (by omega) (by omega), lr_28 h2'.1, la_94, if_pos ⟨by omega, by omega⟩, lr_29 h2'.1, la_95, if_pos ⟨by omega, by omega⟩, hm.2.2.1, hm.2.2.2.1, h1'.2.1.1.2.2.1, z_add_id (a := 60) (b := U 13 0) (by omega) (by omega)]
  refine LK.pre g2 f2'.gr ?_
  rcases ck_hour hT n1 hv h2 h2' t0 t1 with ⟨q3, q4, q5, q6, ⟨c3, e4, h3, t3, g3⟩, e4', w4', d, ed, hd⟩ | ⟨mc, mr, e4, e4', a1, a2, a3⟩ | ⟨e4', w4', ⟨d, ed, hd⟩, mc, mr, e4, e5', a1, a2, a3⟩
  case inr.inl =>
    rw [e4, z_bI_mk, if_pos rfl, e4', z_bI_mk, if_pos rfl]
    exact Or.inr ⟨mc, mr, rfl, rfl, a1, a2, a3⟩
  case inr.inr =>
    rw [e4, z_bI_mk, if_pos rfl, e4', z_bI_mk, if_neg (by decide), h2'.2.1.1.2.2.1, ed, z_bI_mk, w4', if_pos hd, e5', z_bI_mk, if_pos (Or.inl rfl)]
    exact Or.inr ⟨mc, mr, rfl, rfl, a1, a2, a3⟩
  have hp2 := h2.p0
  obtain ⟨r3, e5', h3', f3'⟩ := r_take hT hN h2' hp2.1 hp2.2 (by omega)
  rw [e4, z_bI_mk, if_neg (by decide), t3, e4', z_bI_mk, if_neg (by decide), h2'.2.1.1.2.2.1, ed, z_bI_mk, w4', if_neg hd, e5', z_bV_mk, lr_21 h3'.1, h3'.2.1.1.1]
  refine LK.pre g3 f3'.gr ?_
  rcases ck_thg hT n1 hv h3 h3' with ⟨x, x0, x1, q7, ⟨c4, e6, h4, t4, g4⟩, e6', w6'⟩ | ⟨mc, mr, e6, e6', a1, a2, a3⟩
  case inr =>
    rw [e6, z_bI_mk, if_pos rfl, e6', z_bI_mk, if_pos rfl]
    exact Or.inr ⟨mc, mr, rfl, rfl, a1, a2, a3⟩
  have hp3 := h3.p0
  obtain ⟨r4, e7', h4', f4'⟩ := r_take hT hN h3' hp3.1 hp3.2 (by omega)
  have n10 : ¬ (1 : Int) = 0 := by decide
  rw [e6, z_bI_mk, if_neg n10, t4, e6', z_bI_mk, if_neg n10, lr_21 h3'.1, h3'.2.1.1.1, w6', z_bI_mk, e7', z_bV_mk, lo_1_0 h4.o, h4.k]
  refine LK.pre g4 f4'.gr ?_
  have hwx := hv.2.1 x x0 x1
  have hkn := eR_num h4'.e
  generalize hu : A (p + 1 + 1) = u at *
  have y01 : y = 0 ∨ y = 1 := by omega
  by_cases qv : y = 0 ∧ K (p + 1 + 1 + 1 + 1) ≠ 1002
  · rw [if_pos qv.1, if_neg qv.2, if_pos qv.1, if_neg (hkn.2 qv.2)]
    exact l_tkEnd hv q8 y01 t0 t1 q4 q5 x0 x1 (by omega) (by omega) (fun r => absurd qv.1 r) q6 (by omega) h4 h4'
  have both : ∀ {α : Type} (a b : α), (if y = 0 then if K (p + 1 + 1 + 1 + 1) = 1002 then a else b else a) = a := fun a b => by
    by_cases r : y = 0
    · rw [if_pos r, if_pos (Classical.byContradiction (fun s => qv ⟨r, s⟩))]
    · rw [if_neg r]
  have both' : ∀ {α : Type} (a b : α), (if y = 0 then if r4 84 8 = 3 then a else b else a) = a := fun a b => by
    by_cases r : y = 0
    · rw [if_pos r, if_pos (hkn.1 (Classical.byContradiction (fun s => qv ⟨r, s⟩))).1]
    · rw [if_neg r]
  rw [both, both', zb_X7_readTalk_1, zb_X12_talkLine_1, z_add_id (a := 8) (b := x) (by omega) (by omega), lr_22 h4'.1, la_88, if_pos ⟨by omega, by omega⟩, (h4'.2.1.2.1 x x0 x1).2.1, z_sub_id (by omega) (by omega)]
  rcases ck_val hT n1 hv h4 h4' x0 x1 with ⟨q9, qa, qb, ⟨c5, e8, h5, t5, g5⟩, e8', w8'⟩ | ⟨mc, mr, e8, e8', a1, a2, a3⟩
  case inr =>
    rw [e8, z_bI_mk, if_pos rfl, e8', z_bI_mk, if_pos rfl]
    exact Or.inr ⟨mc, mr, rfl, rfl, a1, a2, a3⟩
  have hp4 := h4.p0
  obtain ⟨r5, e9', h5', f5'⟩ := r_take hT hN h4' hp4.1 hp4.2 (by omega)
  rw [e8, z_bI_mk, if_neg (by decide), t5, e8', z_bI_mk, if_neg (by decide), w8', e9', z_bV_mk]
  refine LK.pre g5 f5'.gr ?_
  exact l_tkEnd hv q8 y01 t0 t1 q4 q5 x0 x1 (by omega) qb (fun _ => qa) q6 (by omega) h5 h5'
end
end
