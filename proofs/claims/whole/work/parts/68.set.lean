/-! ===== the calls that set something: truth, begin, hear, there, undo, say, feed ===== -/
section
variable {M V : zM} {c : Int}
theorem npO0 {i : Int} (hi : i = 2 ∨ i = 3 ∨ i = 4) : ¬ pO 0 i := by unfold pO; omega
theorem npC0 {i : Int} (h1 : zCc c) : ¬ pC c 0 i := by unfold pC; rcases h1 with r | r <;> omega
theorem npR84 {i : Int} (hi : (44 ≤ i ∧ i ≤ 49) ∨ i = 13) : ¬ pR 84 i := by unfold pR; omega
theorem npF84 {i : Int} : ¬ pF 84 i := by unfold pF; omega
theorem CS.wx {i v : Int} (hi : i = 2 ∨ i = 3 ∨ i = 4) (h : CS M c V) : CS (z_wr M 0 i v) c (z_wr V 100 i v) := by
  have h1 := h.1
  have e2 : ∀ b j, b ≠ 0 → z_wr M 0 i v b j = M b j := fun b j q => z_wr_ne (Or.inl q)
  have i1 : (1 : Int) ≠ i := by omega
  refine ⟨h1, (z_wr_ne (Or.inr i1)).trans h.2.1, (e2 _ _ (by decide)).trans h.2.2.1, h.2.2.2.1.ag (wr_ag (npO0 hi)), h.2.2.2.2.1.ag (wr_ag (npC0 h1)), h.2.2.2.2.2.1.ag (wr_ag (npC0 (zCc2 h1))), ?_, ?_, fun j x y => (e2 _ _ (by decide)).trans (h.2.2.2.2.2.2.2.2 j x y)⟩
  · have h7' : cEq (z_wr M 0 i v) c V := cEq.ag (wr_ag (by unfold pV; rcases h1 with r | r <;> omega)) h.2.2.2.2.2.2.1
    exact h7'
  · have h8 := h.2.2.2.2.2.2.2.1
    rcases hi with rfl | rfl | rfl
    · exact ⟨h8.1, h8.2.1, rfl, h8.2.2.2.1, h8.2.2.2.2.1, h8.2.2.2.2.2.1, h8.2.2.2.2.2.2⟩
    · exact ⟨h8.1, h8.2.1, h8.2.2.1, rfl, h8.2.2.2.2.1, h8.2.2.2.2.2.1, h8.2.2.2.2.2.2⟩
    · exact ⟨h8.1, h8.2.1, h8.2.2.1, h8.2.2.2.1, rfl, h8.2.2.2.2.2.1, h8.2.2.2.2.2.2⟩
theorem RS.wx {i v : Int} (hi : i = 2 ∨ i = 3 ∨ i = 4) (h : RS M V) : RS (z_wr M 84 (45 + i) v) (z_wr V 100 i v) := by
  refine ⟨h.1.ag (wr_ag (npR84 (by omega))), ?_, ?_, ?_, fun j x y => (z_wr_ne (Or.inl (by decide))).trans (h.2.2.2.2.1 j x y), bR.ag (fun k => z_wr_ne (Or.inl (by decide))) h.2.2.2.2.2⟩
  · have h2 := h.2.1
    rcases hi with rfl | rfl | rfl <;> exact h2
  · have h3' : gF (z_wr M 84 (45 + i) v) V := gF.ag (wr_ag npF84) h.2.2.1
    exact h3'
  · have h8 := h.2.2.2.1
    rcases hi with rfl | rfl | rfl
    · exact ⟨h8.1, h8.2.1, rfl, h8.2.2.2.1, h8.2.2.2.2.1, h8.2.2.2.2.2.1, h8.2.2.2.2.2.2⟩
    · exact ⟨h8.1, h8.2.1, h8.2.2.1, rfl, h8.2.2.2.2.1, h8.2.2.2.2.2.1, h8.2.2.2.2.2.2⟩
    · exact ⟨h8.1, h8.2.1, h8.2.2.1, h8.2.2.2.1, rfl, h8.2.2.2.2.2.1, h8.2.2.2.2.2.2⟩
theorem RS.w2 (h : RS M V) : RS (z_wr M 84 2 0) V := h.sm (Sm.wr (by decide))
theorem fw2 (M : zM) : frR M (z_wr M 84 2 0) := frR.wr (by decide)
theorem i_truth (hI : gI M) (y : Int) : PrI zm_X11_truth zm_X12_truth [zI y] M := by
  obtain ⟨c, V, hC, hR, hv, hx⟩ := hI
  by_cases q : 1 ≤ y ∧ y ≤ 9
  · refine PrI.mk (M1 := z_wr M 0 2 y) (c' := c) (V' := z_wr V 100 2 y) (r := [zI 1]) hR hv ?_ (frC.wr (by decide)) (hC.wx (by omega)) (fun h => ⟨z_wr (z_wr (z_wr M 0 2 y) 84 2 0) 84 47 y, ?_, (fw2 _).tr (frR.wr (by decide)), h.w2.wx (i := 2) (by omega)⟩) hv ⟨q, hx.2.1, hx.2.2.1, hx.2.2.2⟩
    · rw [zr_X11_truth]
      refine z_out_some ?_
      rw [zb_X11_truth_0, if_neg (by omega), if_pos (by omega), z_lt_eq]
    · rw [zr_X12_truth]
      refine z_out_some ?_
      rw [zb_X12_truth_0, z_lt_eq, e_X12_isIn, z_bI_mk, b2i_pos q, if_neg (by decide), z_lt_eq]
  · refine PrI.mk (M1 := M) (c' := c) (V' := V) (r := [zI 0]) hR hv ?_ (frC.rf M) hC (fun h => ⟨z_wr M 84 2 0, ?_, fw2 _, h.w2⟩) hv hx
    · rw [zr_X11_truth]
      refine z_out_some ?_
      rw [zb_X11_truth_0]
      by_cases q1 : y < 1
      · rw [if_pos q1]
      · rw [if_neg q1, if_neg (by omega)]
    · rw [zr_X12_truth]
      refine z_out_some ?_
      rw [zb_X12_truth_0, z_lt_eq, e_X12_isIn, z_bI_mk, b2i_neg q, if_pos rfl]
theorem i_begin (hI : gI M) (y w : Int) : PrI zm_X11_begin zm_X12_begin [zI y, zI w] M := by
  obtain ⟨c, V, hC, hR, hv, hx⟩ := hI
  by_cases q : (1 ≤ y ∧ y ≤ 99) ∧ (1 ≤ w ∧ w ≤ 99)
  · refine PrI.mk (M1 := z_wr (z_wr M 0 3 y) 0 4 w) (c' := c) (V' := z_wr (z_wr V 100 3 y) 100 4 w) (r := [zI 1]) hR hv ?_ ((frC.wr (by decide)).tr (frC.wr (by decide))) ((hC.wx (i := 3) (by omega)).wx (i := 4) (by omega)) (fun h => ⟨z_wr (z_wr (z_wr (z_wr (z_wr M 0 3 y) 0 4 w) 84 2 0) 84 48 y) 84 49 w, ?_, ((fw2 _).tr (frR.wr (by decide))).tr (frR.wr (by decide)), (h.w2.wx (i := 3) (by omega)).wx (i := 4) (by omega)⟩) hv ⟨hx.1, q.1, q.2, hx.2.2.2⟩
    · rw [zr_X11_begin]
      refine z_out_some ?_
      rw [zb_X11_begin_0, if_neg (by omega), if_pos (by omega), if_neg (by omega), if_pos (by omega), z_lt_eq, z_lt_eq]
    · rw [zr_X12_begin]
      refine z_out_some ?_
      rw [zb_X12_begin_0, z_lt_eq, e_X12_isIn, z_bI_mk, b2i_pos q.1, if_neg (by decide), e_X12_isIn, z_bI_mk, b2i_pos q.2, if_neg (by decide), z_lt_eq, z_lt_eq]
  · refine PrI.mk (M1 := M) (c' := c) (V' := V) (r := [zI 0]) hR hv ?_ (frC.rf M) hC (fun h => ⟨z_wr M 84 2 0, ?_, fw2 _, h.w2⟩) hv hx
    · rw [zr_X11_begin]
      refine z_out_some ?_
      rw [zb_X11_begin_0]
      (repeat' split) <;> first | rfl | (exfalso; omega)
    · rw [zr_X12_begin]
      refine z_out_some ?_
      rw [zb_X12_begin_0, z_lt_eq, e_X12_isIn, z_bI_mk, e_X12_isIn, z_bI_mk]
      simp only [b2i_eq0]
      (repeat' split) <;> first | rfl | (exfalso; omega)
theorem vOk.w9 {y : Int} (h0 : 0 ≤ y) (h1 : y ≤ 199) (h : vOk V) : vOk (z_wr V 0 9 y) := ⟨⟨h.1.1, h.1.2.1, h.1.2.2.1, h.1.2.2.2.1, h.1.2.2.2.2.1, h.1.2.2.2.2.2.1, h.1.2.2.2.2.2.2.1, h.1.2.2.2.2.2.2.2.1, h.1.2.2.2.2.2.2.2.2.1, h.1.2.2.2.2.2.2.2.2.2.1, h0, h1⟩, h.2⟩
theorem RS.w9 {y : Int} (h : RS M V) : RS (z_wr M 84 45 y) (z_wr V 0 9 y) := by
  obtain ⟨h1, ⟨ha, hb⟩, h3, h8, h9⟩ := h
  have h3' : gF (z_wr M 84 45 y) V := gF.ag (wr_ag npF84) h3
  exact ⟨LyR.ag (wr_ag (npR84 (by omega))) h1, ⟨⟨ha.1, ha.2.1, ha.2.2.1, ha.2.2.2.1, ha.2.2.2.2.1, rfl, ha.2.2.2.2.2.2.1, ha.2.2.2.2.2.2.2⟩, hb⟩, h3', h8, fun j x y => (z_wr_ne (Or.inl (by decide))).trans (h9.1 j x y), bR.ag (fun k => z_wr_ne (Or.inl (by decide))) h9.2⟩
theorem RS.w10 {y : Int} (h : RS M V) : RS (z_wr M 84 46 y) (z_wr V 0 10 y) := by
  obtain ⟨h1, ⟨ha, hb⟩, h3, h8, h9⟩ := h
  have h3' : gF (z_wr M 84 46 y) V := gF.ag (wr_ag npF84) h3
  exact ⟨LyR.ag (wr_ag (npR84 (by omega))) h1, ⟨⟨ha.1, ha.2.1, ha.2.2.1, ha.2.2.2.1, ha.2.2.2.2.1, ha.2.2.2.2.2.1, rfl, ha.2.2.2.2.2.2.2⟩, hb⟩, h3', h8, fun j x y => (z_wr_ne (Or.inl (by decide))).trans (h9.1 j x y), bR.ag (fun k => z_wr_ne (Or.inl (by decide))) h9.2⟩
theorem i_hear (hI : gI M) (y : Int) : PrI zm_X11_hear zm_X12_hear [zI y] M := by
  obtain ⟨c, V, hC, hR, hv, hx⟩ := hI
  by_cases q : 0 ≤ y ∧ y ≤ 199
  · have hc : c = 8 ∨ c = 42 := hC.1
    have hv' := hv.w9 q.1 q.2
    have hC' : CS (z_wr M c 9 y) c (z_wr V 0 9 y) := hC.wv (by omega) (by decide) (by decide)
    refine PrI.mk (M1 := z_wr M c 9 y) (c' := c) (V' := z_wr V 0 9 y) hR hv ?_ (frC.wr (by omega)) hC' (fun h => ⟨z_wr (z_wr (z_wr M c 9 y) 84 2 0) 84 45 y, ?_, (fw2 _).tr (frR.wr (by decide)), h.w2.w9⟩) hv' hx (r := [zI (cnt (sHe (z_wr V 0 9 y)) (z_wr V 0 9 y 13 0))])
    · rw [zr_X11_hear]
      refine z_out_some ?_
      rw [zb_X11_hear_0, if_neg (by omega), if_pos (by omega), hC.2.1, z_lt_eq, hC'.2.1, e_X0_heardLines (hC'.co hv'), z_bI_mk]
    · rw [zr_X12_hear]
      refine z_out_some ?_
      rw [zb_X12_hear_0, z_lt_eq, e_X12_isIn, z_bI_mk, b2i_pos q, if_neg (by decide), z_lt_eq, e_X12_heardMany (h.w2.w9.mo hv'), z_bI_mk]
  · refine PrI.mk (M1 := M) (c' := c) (V' := V) (r := [zI (-1)]) hR hv ?_ (frC.rf M) hC (fun h => ⟨z_wr M 84 2 0, ?_, fw2 _, h.w2⟩) hv hx
    · rw [zr_X11_hear]
      refine z_out_some ?_
      rw [zb_X11_hear_0]
      by_cases q1 : y < 0
      · rw [if_pos q1]
      · rw [if_neg q1, if_neg (by omega)]
    · rw [zr_X12_hear]
      refine z_out_some ?_
      rw [zb_X12_hear_0, z_lt_eq, e_X12_isIn, z_bI_mk, b2i_neg q, if_pos rfl]
theorem i_there (hI : gI M) (y : Int) : PrI zm_X11_there zm_X12_there_ [zI y] M := by
  obtain ⟨c, V, hC, hR, hv, hx⟩ := hI
  have hN := hv.1
  have hL := hC.2.2.2.2.1
  have hn := hC.2.1
  rcases Classical.em (0 ≤ y ∧ y < z_shl 1 (V 7 0)) with q | q
  · have hc : c = 8 ∨ c = 42 := hC.1
    have hr := shl_rng (n := V 7 0) (by omega) (by omega)
    have hC' : CS (z_wr M c 10 y) c (z_wr V 0 10 y) := hC.wv (by omega) (by decide) (by decide)
    refine PrI.mk (M1 := z_wr M c 10 y) (c' := c) (V' := z_wr V 0 10 y) hR hv ?_ (frC.wr (by omega)) hC' (fun h => ⟨z_wr (z_wr (z_wr M c 10 y) 84 2 0) 84 46 y, ?_, (fw2 _).tr (frR.wr (by decide)), h.w2.w10⟩) hv hx (r := [zI (sMany y)])
    · rw [zr_X11_there]
      refine z_out_some ?_
      rw [zb_X11_there_0]
      rw [hn, lc_0_1 hL, e_X8_areThere (hC.co hv), z_bI_mk, b2i_pos q, if_neg (by decide), hn, z_lt_eq, e_bitCount q.1 (by omega), z_bI_mk]
    · rw [zr_X12_there_]
      refine z_out_some ?_
      rw [zb_X12_there__0, z_lt_eq, e_X12_isSet (h.w2.mo hv), z_bI_mk, b2i_pos q, if_neg (by decide), z_lt_eq, e_X12_many, z_bI_mk]
  · refine PrI.mk (M1 := M) (c' := c) (V' := V) (r := [zI (-1)]) hR hv ?_ (frC.rf M) hC (fun h => ⟨z_wr M 84 2 0, ?_, fw2 _, h.w2⟩) hv hx
    · rw [zr_X11_there]
      refine z_out_some ?_
      rw [zb_X11_there_0]
      rw [hn, lc_0_1 hL, e_X8_areThere (hC.co hv), z_bI_mk, b2i_neg q, if_pos rfl]
    · rw [zr_X12_there_]
      refine z_out_some ?_
      rw [zb_X12_there__0, z_lt_eq, e_X12_isSet (h.w2.mo hv), z_bI_mk, b2i_neg q, if_pos rfl]
theorem i_undo (hI : gI M) : PrI zm_X11_undo zm_X12_undo [] M := by
  obtain ⟨c, V, hC, hR, hv, hx⟩ := hI
  have hN := hv.1
  have hL := hC.2.2.2.2.1
  have hV := hC.2.2.2.2.2.2.1
  have hn := hC.2.1
  by_cases q : V 13 0 ≤ V 13 1
  · refine PrI.mk (M1 := M) (c' := c) (V' := V) (r := [zI (-1)]) hR hv ?_ (frC.rf M) hC (fun h => ⟨z_wr M 84 2 0, ?_, fw2 _, h.w2⟩) hv hx
    · rw [zr_X11_undo]
      refine z_out_some ?_
      rw [zb_X11_undo_0]
      rw [hn, lc_0_2 hL, zr_X3_takeBack, zb_X3_takeBack_0, cv_13 hV, cv_13 hV, if_pos q]
      rfl
    · have h44 := h.w2.2.1.1.2.2.2.2.2.2.2
      rw [zr_X12_undo]
      refine z_out_some ?_
      rw [zb_X12_undo_0, z_lt_eq, h44, if_pos (by omega)]
  · have hc : c = 8 ∨ c = 42 := hC.1
    have hC' : CS (z_wr M (c + 13) 0 (V 13 0 - 1)) c (z_wr V 13 0 (V 13 0 - 1)) := hC.wv (o := 13) rfl (by decide) (by decide)
    have e0 : z_wr M (c + 13) 0 (V 13 0 - 1) (c + 13) 0 = V 13 0 - 1 := z_wr_eq _ _ _ _
    have e1 : z_wr M (c + 13) 0 (V 13 0 - 1) (c + 13) 1 = V 13 1 := (z_wr_ne (Or.inr (by decide))).trans (cv_13 hV 1)
    have hv' : vOk (z_wr V 13 0 (V 13 0 - 1)) := by
      obtain ⟨-, hT, hS, hl, hm, hp⟩ := hv
      refine ⟨?_, hT, hS, ?_, ?_, hp⟩
      · show 0 ≤ V 1 0 ∧ V 1 0 ≤ 8 ∧ 0 ≤ V 7 0 ∧ V 7 0 ≤ 5 ∧ 0 ≤ V 13 0 - 1 ∧ V 13 0 - 1 ≤ 60 ∧ 0 ≤ V 19 0 ∧ V 19 0 ≤ 20 ∧ 0 ≤ V 13 1 ∧ V 13 1 ≤ V 13 0 - 1 ∧ 0 ≤ V 0 9 ∧ V 0 9 ≤ 199
        omega
      · intro k k0 k1
        have k2 : k < V 13 0 - 1 := k1
        exact hl k k0 (by omega)
      · intro i j i0 ij j1
        have j2 : j < V 13 0 - 1 := j1
        exact hm i j i0 ij (by omega)
    refine PrI.mk (M1 := z_wr M (c + 13) 0 (V 13 0 - 1)) (c' := c) (V' := z_wr V 13 0 (V 13 0 - 1)) hR hv ?_ (frC.wr (by omega)) hC' (fun h => ⟨z_wr (z_wr (z_wr (z_wr M (c + 13) 0 (V 13 0 - 1)) 84 2 0) 84 44 (V 13 0 - V 13 1 - 1)) 84 13 (V 13 0 - 1), ?_, ((fw2 _).tr (frR.wr (by decide))).tr (frR.wr (by decide)), ?_⟩) hv' hx (r := [zI (V 13 0 - 1 - V 13 1)])
    · rw [zr_X11_undo]
      refine z_out_some ?_
      rw [zb_X11_undo_0]
      rw [hn, lc_0_2 hL, zr_X3_takeBack, zb_X3_takeBack_0, cv_13 hV, cv_13 hV, if_neg q, z_sub_id (by omega) (by omega), z_lt_eq, e0, e1, z_sub_id (by omega) (by omega)]
      rfl
    · have h44 := h.w2.2.1.1.2.2.2.2.2.2.2
      have h13 := h.w2.2.1.1.2.2.1
      rw [zr_X12_undo]
      refine z_out_some ?_
      rw [zb_X12_undo_0, z_lt_eq, h44, if_neg (by omega), z_sub_id (by omega) (by omega), z_lt_eq, z_wr_ne (Or.inr (by decide)), h13, z_sub_id (by omega) (by omega), z_lt_eq, z_wr_ne (Or.inr (by decide)), z_wr_eq, (by omega : V 13 0 - V 13 1 - 1 = V 13 0 - 1 - V 13 1)]
    · obtain ⟨h1, ⟨ha, hb, hd, he, hf⟩, h3, h8, h9⟩ := h.w2
      have h3' := gF.ag (wr_ag (a := 84) (i := 13) (v := V 13 0 - 1) npF84) (gF.ag (wr_ag (a := 84) (i := 44) (v := V 13 0 - V 13 1 - 1) npF84) h3)
      refine ⟨LyR.ag (wr_ag (npR84 (by omega))) (LyR.ag (wr_ag (npR84 (by omega))) h1), ⟨⟨ha.1, ha.2.1, rfl, ha.2.2.2.1, ha.2.2.2.2.1, ha.2.2.2.2.2.1, ha.2.2.2.2.2.2.1, ?_⟩, hb, hd, ?_, hf⟩, h3', h8, h9⟩
      · show V 13 0 - V 13 1 - 1 = V 13 0 - 1 - V 13 1
        omega
      · intro k k0 k1
        have k2 : k < V 13 0 - 1 := k1
        exact he k k0 (by omega)
end
