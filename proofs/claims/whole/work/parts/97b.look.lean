section
/-! ===== look: the one call that throws ===== -/
theorem zf_X11_114 : z_Fl RX11 114 9 2 RX9 TX9 6 := ⟨rfl, z_inX9, by decide, by decide, Or.inr ⟨"SaidSo", z_inN (i := 339) (by decide +kernel) rfl⟩⟩
theorem zf_X11_118 : z_Fl RX11 118 9 3 RX9 TX9 6 := ⟨rfl, z_inX9, by decide, by decide, Or.inr ⟨"SaidSo", z_inN (i := 344) (by decide +kernel) rfl⟩⟩
theorem zf_X11_121 : z_Fl RX11 121 9 4 RX9 TX9 6 := ⟨rfl, z_inX9, by decide, by decide, Or.inr ⟨"SaidSo", z_inN (i := 348) (by decide +kernel) rfl⟩⟩
theorem zf_X11_124 : z_Fl RX11 124 9 5 RX9 TX9 6 := ⟨rfl, z_inX9, by decide, by decide, Or.inr ⟨"SaidSo", z_inN (i := 352) (by decide +kernel) rfl⟩⟩
def lk_56 (Λ : Int → Int) : zTm := z_seq (z_al 3) (z_seq (z_getA 9 2 13) (z_seq (z_il 1) (z_seq (z_ald 13 Λ) z_iret)))
theorem lk_t56 (Λ : Int → Int) : z_Tl (lk_56 Λ) := z_tl_seq (z_ot_al 3) (z_tl_seq (z_ot_getA 9 2 13) (z_tl_seq (z_ot_il 1) (z_tl_seq (z_ot_ald 13 _) z_tl_iret)))
def lk_63 (Λ : Int → Int) : zTm := z_seq (z_al 3) (z_seq (z_getA 9 3 13) (z_seq (z_il 1) (z_seq (z_ald 13 Λ) z_iret)))
theorem lk_t63 (Λ : Int → Int) : z_Tl (lk_63 Λ) := z_tl_seq (z_ot_al 3) (z_tl_seq (z_ot_getA 9 3 13) (z_tl_seq (z_ot_il 1) (z_tl_seq (z_ot_ald 13 _) z_tl_iret)))
def lk_70 (Λ : Int → Int) : zTm := z_seq (z_al 3) (z_seq (z_getA 9 4 13) (z_seq (z_il 1) (z_seq (z_ald 13 Λ) z_iret)))
theorem lk_t70 (Λ : Int → Int) : z_Tl (lk_70 Λ) := z_tl_seq (z_ot_al 3) (z_tl_seq (z_ot_getA 9 4 13) (z_tl_seq (z_ot_il 1) (z_tl_seq (z_ot_ald 13 _) z_tl_iret)))
def lk_77 (Λ : Int → Int) : zTm := z_seq (z_al 3) (z_seq (z_getA 9 5 13) (z_seq (z_il 1) (z_seq (z_ald 13 Λ) z_iret)))
theorem lk_t77 (Λ : Int → Int) : z_Tl (lk_77 Λ) := z_tl_seq (z_ot_al 3) (z_tl_seq (z_ot_getA 9 5 13) (z_tl_seq (z_ot_il 1) (z_tl_seq (z_ot_ald 13 _) z_tl_iret)))
def lk_26 (Λ : Int → Int) : zTm := z_seq (z_il 2) (z_sw [(0, lk_56 Λ), (1, lk_63 Λ), (2, lk_70 Λ), (3, lk_77 Λ)] (z_go 2))
theorem lk_t26 (Λ : Int → Int) : z_Tl (lk_26 Λ) := z_tl_seq (z_ot_il 2) (z_tl_sw (z_tl_c (lk_t56 Λ) (z_tl_c (lk_t63 Λ) (z_tl_c (lk_t70 Λ) (z_tl_c (lk_t77 Λ) z_tl_n)))) (z_tl_go 2))
noncomputable def lk_0 (Λ : Int → Int) : zTm := z_seq (z_al 0) (z_seq (z_getA 11 1 0) (z_seq (z_getA 0 0 9) (z_seq (z_as 3) (z_seq (z_al 3) (z_seq (z_il 1) (z_seq (z_callv Λ z_BI zm_X9_has 2 9) (z_ifeq (z_go 1) (lk_26 Λ))))))))
theorem lk_t0 (Λ : Int → Int) : z_Tl (lk_0 Λ) := z_tl_seq (z_ot_al 0) (z_tl_seq (z_ot_getA 11 1 0) (z_tl_seq (z_ot_getA 0 0 9) (z_tl_seq (z_ot_as 3) (z_tl_seq (z_ot_al 3) (z_tl_seq (z_ot_il 1) (z_tl_seq (z_ot_callv _ z_hbI _ _ _) (z_tl_ifeq (z_tl_go 1) (lk_t26 Λ))))))))
def lk_no : zTm := fun _ _ _ _ => none
def lk_P (n : Nat) : Nat := match n with
  | 0 => 0
  | 1 => 16
  | _ => 84
noncomputable def zcd_X11_look (Λ : Int → Int) (l : Nat) : zTm := match l with
  | 0 => lk_0 Λ
  | _ + 1 => lk_no
theorem ztl_X11_look (Λ : Int → Int) (l : Nat) : z_Tl (zcd_X11_look Λ l) := match l with
  | 0 => lk_t0 Λ
  | _ + 1 => fun _ _ _ => Or.inl ⟨none, fun _ => rfl⟩
noncomputable def zm_X11_look : zD := z_me zcd_X11_look 4 1
theorem lk_s56 {X : zX} (hC : z_Cx X RX11 cX11_look 4 (some .int) 1) : z_St X lk_P 56 (lk_56 (x_La X)) := z_st_seq (z_ot_al 3) (z_so_aload_n hC dX11_look_56 rfl) (z_st_seq (z_ot_getA 9 2 13) (z_so_getA hC zf_X11_114 rfl rfl dX11_look_57) (z_st_seq (z_ot_il 1) (z_so_iload_n hC dX11_look_60 rfl) (z_st_seq (z_ot_ald 13 _) (z_so_iald hC dX11_look_61) (z_st_iret hC dX11_look_62))))
theorem lk_s63 {X : zX} (hC : z_Cx X RX11 cX11_look 4 (some .int) 1) : z_St X lk_P 63 (lk_63 (x_La X)) := z_st_seq (z_ot_al 3) (z_so_aload_n hC dX11_look_63 rfl) (z_st_seq (z_ot_getA 9 3 13) (z_so_getA hC zf_X11_118 rfl rfl dX11_look_64) (z_st_seq (z_ot_il 1) (z_so_iload_n hC dX11_look_67 rfl) (z_st_seq (z_ot_ald 13 _) (z_so_iald hC dX11_look_68) (z_st_iret hC dX11_look_69))))
theorem lk_s70 {X : zX} (hC : z_Cx X RX11 cX11_look 4 (some .int) 1) : z_St X lk_P 70 (lk_70 (x_La X)) := z_st_seq (z_ot_al 3) (z_so_aload_n hC dX11_look_70 rfl) (z_st_seq (z_ot_getA 9 4 13) (z_so_getA hC zf_X11_121 rfl rfl dX11_look_71) (z_st_seq (z_ot_il 1) (z_so_iload_n hC dX11_look_74 rfl) (z_st_seq (z_ot_ald 13 _) (z_so_iald hC dX11_look_75) (z_st_iret hC dX11_look_76))))
theorem lk_s77 {X : zX} (hC : z_Cx X RX11 cX11_look 4 (some .int) 1) : z_St X lk_P 77 (lk_77 (x_La X)) := z_st_seq (z_ot_al 3) (z_so_aload_n hC dX11_look_77 rfl) (z_st_seq (z_ot_getA 9 5 13) (z_so_getA hC zf_X11_124 rfl rfl dX11_look_78) (z_st_seq (z_ot_il 1) (z_so_iload_n hC dX11_look_81 rfl) (z_st_seq (z_ot_ald 13 _) (z_so_iald hC dX11_look_82) (z_st_iret hC dX11_look_83))))
theorem lk_s26 {X : zX} (hC : z_Cx X RX11 cX11_look 4 (some .int) 1) : z_St X lk_P 26 (lk_26 (x_La X)) := z_st_seq (z_ot_il 2) (z_so_iload_n hC dX11_look_26 rfl) (z_st_table hC dX11_look_27 (by decide) (fun v h => by simp at h; omega) (⟨⟨56, ⟨by dsimp only; decide, by dsimp only; decide, 29, rfl, by decide⟩, lk_s56 hC⟩, ⟨⟨63, ⟨by dsimp only; decide, by dsimp only; decide, 36, rfl, by decide⟩, lk_s63 hC⟩, ⟨⟨70, ⟨by dsimp only; decide, by dsimp only; decide, 43, rfl, by decide⟩, lk_s70 hC⟩, ⟨⟨77, ⟨by dsimp only; decide, by dsimp only; decide, 50, rfl, by decide⟩, lk_s77 hC⟩, trivial⟩⟩⟩⟩) (z_st_go 2))
theorem lk_s0 {X : zX} (hC : z_Cx X RX11 cX11_look 4 (some .int) 1) : z_St X lk_P 0 (lk_0 (x_La X)) := z_st_seq (z_ot_al 0) (z_so_aload_n hC dX11_look_0 rfl) (z_st_seq (z_ot_getA 11 1 0) (z_so_getA hC zf_X11_19 rfl rfl dX11_look_1) (z_st_seq (z_ot_getA 0 0 9) (z_so_getA hC zf_X11_86 rfl rfl dX11_look_4) (z_st_seq (z_ot_as 3) (z_so_astore_n hC dX11_look_7 rfl (by decide)) (z_st_seq (z_ot_al 3) (z_so_aload_n hC dX11_look_8 rfl) (z_st_seq (z_ot_il 1) (z_so_iload_n hC dX11_look_9 rfl) (z_st_seq (z_ot_callv _ z_hbI _ _ _) (z_so_callv hC z_hbI zsim_X9_has ⟨zk_X9_has, zi_X9, zd_X9_has, by decide, by decide⟩ zn_X9_has ze_X9_has rfl (by decide) zl_X11_103 dX11_look_10) (z_st_ifne hC dX11_look_13 (by decide) (lk_s26 hC) (z_st_go 1))))))))
theorem zst_X11_look (X : zX) (hC : z_Cx X RX11 cX11_look 4 (some .int) 1) (l : Nat) : z_St X lk_P (lk_P l) (zcd_X11_look (x_La X) l) := match l with
  | 0 => lk_s0 hC
  | _ + 1 => fun _ _ _ => z_st_none (T := lk_no) (fun _ => rfl)
theorem zsim_X11_look : z_Sim yX11_look cX11_look 4 (some .int) 1 zm_X11_look := z_met (by decide) rfl ztl_X11_look zst_X11_look
theorem lk_ev (Λ : Int → Int) (x1 x2 a0 : Int) (M : zM) (G : zG) : lk_0 Λ [zA 11 a0, zI x1, zI x2, zU] [] M G = z_bI (zm_X9_has Λ [zA 9 (M (M a0 1) 0), zI x1] M) (fun r2 M1 => if r2 = 0 then G 1 [zA 11 a0, zI x1, zI x2, zA 9 (M (M a0 1) 0)] [] M1 else if x2 = (0:Int) then if 0 ≤ x1 ∧ x1 < Λ (M1 (M (M a0 1) 0) 2) then some (.inl ([zI (M1 (M1 (M (M a0 1) 0) 2) x1)], M1)) else none else if x2 = (1:Int) then if 0 ≤ x1 ∧ x1 < Λ (M1 (M (M a0 1) 0) 3) then some (.inl ([zI (M1 (M1 (M (M a0 1) 0) 3) x1)], M1)) else none else if x2 = (2:Int) then if 0 ≤ x1 ∧ x1 < Λ (M1 (M (M a0 1) 0) 4) then some (.inl ([zI (M1 (M1 (M (M a0 1) 0) 4) x1)], M1)) else none else if x2 = (3:Int) then if 0 ≤ x1 ∧ x1 < Λ (M1 (M (M a0 1) 0) 5) then some (.inl ([zI (M1 (M1 (M (M a0 1) 0) 5) x1)], M1)) else none else G 2 [zA 11 a0, zI x1, zI x2, zA 9 (M (M a0 1) 0)] [] M1) := rfl
theorem zr_X11_look (Λ : Int → Int) (x1 x2 a0 : Int) (M : zM) : zm_X11_look Λ [zA 11 a0, zI x1, zI x2] M = z_out (z_ev (zcd_X11_look Λ) 0 [zA 11 a0, zI x1, zI x2, zU] [] M) := rfl
theorem zb_X11_look_0 (Λ : Int → Int) (x1 x2 a0 : Int) (M : zM) : z_ev (zcd_X11_look Λ) 0 [zA 11 a0, zI x1, zI x2, zU] [] M = lk_0 Λ [zA 11 a0, zI x1, zI x2, zU] [] M (z_ev (zcd_X11_look Λ)) := z_ev_eq (ztl_X11_look Λ) 0 _ _ _
theorem e_X12_fails (N : zM) (x : Int) : zm_X12_fails zLa [zA 12 84, zI x] N = some ([zI 0], z_wr N 84 2 x) := by
  rw [zr_X12_fails]
  refine z_out_some ?_
  rw [zb_X12_fails_0, z_lt_eq]
section
variable {N0 V : zM} {y w : Int}
theorem e_X12_look0 (hE : mOk (z_wr N0 84 2 0) V) (qy : 0 ≤ y ∧ y < V 1 0) (qw : w = 0 ∨ w = 1 ∨ w = 2 ∨ w = 3) : zm_X12_look zLa [zA 12 84, zI y, zI w] N0 = some ([zI (if w = 0 then V 3 y else if w = 1 then V 4 y else if w = 2 then V 5 y else V 6 y)], z_wr N0 84 2 0) := by
  have hN := hE.2.2.1
  have hΛ2 := zLo_ok
  have hb2 : 0 ≤ y ∧ y < 16 := by omega
  rw [zr_X12_look]
  refine z_out_some ?_
  rw [zb_X12_look_0, z_lt_eq]
  generalize z_wr N0 84 2 0 = N at hE ⊢
  simp only [e_X12_isThing hE, z_bI_mk, hE.1, hΛ2]
  have ms := hE.2.1.2.1 y qy.1 qy.2
  rw [b2i_pos qy, if_neg (by decide)]
  simp only [hb2, and_self, if_true, ms]
  rcases qw with rfl | rfl | rfl | rfl <;> first | rfl | simp
theorem e_X12_look1 (hE : mOk (z_wr N0 84 2 0) V) (qy : ¬ (0 ≤ y ∧ y < V 1 0)) : zm_X12_look zLa [zA 12 84, zI y, zI w] N0 = some ([zI 0], z_wr (z_wr N0 84 2 0) 84 2 1) := by
  rw [zr_X12_look]
  refine z_out_some ?_
  rw [zb_X12_look_0, z_lt_eq]
  generalize z_wr N0 84 2 0 = N at hE ⊢
  simp only [e_X12_isThing hE, z_bI_mk]
  rw [b2i_neg qy, if_pos rfl, e_X12_fails, z_bI_mk]
theorem e_X12_look2 (hE : mOk (z_wr N0 84 2 0) V) (qy : 0 ≤ y ∧ y < V 1 0) (qw : ¬ (w = 0 ∨ w = 1 ∨ w = 2 ∨ w = 3)) : zm_X12_look zLa [zA 12 84, zI y, zI w] N0 = some ([zI 0], z_wr (z_wr N0 84 2 0) 84 2 2) := by
  obtain ⟨w0, w1, w2, w3⟩ : w ≠ 0 ∧ w ≠ 1 ∧ w ≠ 2 ∧ w ≠ 3 := by omega
  rw [zr_X12_look]
  refine z_out_some ?_
  rw [zb_X12_look_0, z_lt_eq]
  generalize z_wr N0 84 2 0 = N at hE ⊢
  simp only [e_X12_isThing hE, z_bI_mk]
  rw [b2i_pos qy, if_neg (by decide), if_neg w0, if_neg w1, if_neg w2, if_neg w3, e_X12_fails, z_bI_mk]
end
/-- both sides' look, without the machine -/
theorem i_look {M : zM} (hI : gI M) (y w : Int) : (∃ v : Int, zm_X11_look zLa [zA 11 0, zI y, zI w] M = some ([zI v], M) ∧ ∃ M2, zm_X12_look zLa [zA 12 84, zI y, zI w] (z_wr M 116 0 v) = some ([zI v], M2) ∧ M2 84 2 = 0 ∧ M2 116 0 = v ∧ gI M2) ∨ (∃ (k : Nat) (L' : List zV) (M2 : zM), (k = 1 ∨ k = 2) ∧ (∀ G : zG, lk_0 zLa [zA 11 0, zI y, zI w, zU] [] M G = G k L' [] M) ∧ zm_X12_look zLa [zA 12 84, zI y, zI w] M = some ([zI 0], M2) ∧ M2 84 2 = (k : Int) ∧ gI M2) := by
  obtain ⟨c, V, hCS, hRS, hv, hx⟩ := hI
  have hn : M 0 1 = c := hCS.2.1
  have hC : cOk M c V := hCS.co hv
  have hD : mOk M V := hRS.mo hv
  have hL := hC.2.1
  have hV := hC.2.2.1
  have hN := hv.1
  have hΛ := zLc_of hC.1
  have s2 : ∀ x, Sm M (z_wr (z_wr M 84 2 0) 84 2 x) := fun x => (Sm.wr (by decide)).tr (Sm.wr (by decide))
  have s1 : Sm M (z_wr M 84 2 0) := Sm.wr (by decide)
  by_cases qy : 0 ≤ y ∧ y < V 1 0
  · have hb : 0 ≤ y ∧ y < 8 := by omega
    by_cases qw : w = 0 ∨ w = 1 ∨ w = 2 ∨ w = 3
    · have s3 : ∀ v, Sm M (z_wr (z_wr M 116 0 v) 84 2 0) := fun v => (Sm.wr (by decide)).tr (Sm.wr (by decide))
      refine Or.inl ⟨if w = 0 then V 3 y else if w = 1 then V 4 y else if w = 2 then V 5 y else V 6 y, ?_, z_wr (z_wr M 116 0 (if w = 0 then V 3 y else if w = 1 then V 4 y else if w = 2 then V 5 y else V 6 y)) 84 2 0, e_X12_look0 (hD.sm (s3 _)) qy qw, z_wr_eq _ _ _ _, ?_, gI.sm (s3 _) ⟨c, V, hCS, hRS, hv, hx⟩⟩
      · rw [zr_X11_look]
        refine z_out_some ?_
        rw [zb_X11_look_0, lk_ev]
        simp only [hn, hL, hΛ, e_X9_has hC, z_bI_mk]
        simp only [hV]
        rw [b2i_pos qy, if_neg (by decide)]
        simp only [hb, and_self, if_true]
        rcases qw with rfl | rfl | rfl | rfl <;> first | rfl | simp
      · rw [z_wr_ne (Or.inl (by decide)), z_wr_eq]
    · obtain ⟨w0, w1, w2, w3⟩ : w ≠ 0 ∧ w ≠ 1 ∧ w ≠ 2 ∧ w ≠ 3 := by omega
      refine Or.inr ⟨2, [zA 11 0, zI y, zI w, zA 9 (c + 1)], z_wr (z_wr M 84 2 0) 84 2 2, Or.inr rfl, fun G => ?_, e_X12_look2 (hD.sm s1) qy qw, z_wr_eq _ _ _ _, gI.sm (s2 _) ⟨c, V, hCS, hRS, hv, hx⟩⟩
      rw [lk_ev]
      simp only [hn, hL, e_X9_has hC, z_bI_mk]
      rw [b2i_pos qy, if_neg (by decide), if_neg w0, if_neg w1, if_neg w2, if_neg w3]
  · refine Or.inr ⟨1, [zA 11 0, zI y, zI w, zA 9 (c + 1)], z_wr (z_wr M 84 2 0) 84 2 1, Or.inl rfl, fun G => ?_, e_X12_look1 (hD.sm s1) qy, z_wr_eq _ _ _ _, gI.sm (s2 _) ⟨c, V, hCS, hRS, hv, hx⟩⟩
    rw [lk_ev]
    simp only [hn, hL, e_X9_has hC, z_bI_mk]
    rw [b2i_neg qy, if_pos rfl]
/-! the machine's side -/
def lk_I : String := "java/lang/IndexOutOfBoundsException"
def lk_N : String := "java/util/NoSuchElementException"
def lk_U : List String := ["java/lang/RuntimeException", "java/lang/Exception"]
def lk_A0 : List Cond := (Bundle.ownAtomsX RX11 111 lk_I 7 prog_19_method_2_code lk_U).filter vx_no
def lk_A1 : List Cond := (Bundle.ownAtomsX RX11 131 lk_N 13 prog_29_method_4_code lk_U).filter vx_no
/-- words that the tables say and that don't go along by themselves -/
def lk_B : List Cond := [.declares (Bundle.initS "java/lang/RuntimeException"), .declares (Bundle.initS "java/lang/Exception"), .declares (Bundle.initS "java/lang/Throwable"), .castable lk_I lk_I, .castable lk_N lk_N]
theorem lk_x0 : ∀ w ∈ lk_A0.filter goodWord, w ∈ lw_tbl := by decide +kernel
theorem lk_x1 : ∀ w ∈ lk_A1.filter goodWord, w ∈ lw_tbl := by decide +kernel
theorem lk_y0 : ∀ w ∈ lk_A0.filter (fun w => !goodWord w), w ∈ lk_B := by decide +kernel
theorem lk_y1 : ∀ w ∈ lk_A1.filter (fun w => !goodWord w), w ∈ lk_B := by decide +kernel
theorem lk_g0 : ∀ w ∈ lk_A0, vx_ot w = true := by decide +kernel
theorem lk_g1 : ∀ w ∈ lk_A1, vx_ot w = true := by decide +kernel
theorem lk_ot : ∀ w ∈ lk_B, w.onTables = true := by decide +kernel
theorem lk_Bt : ∀ w ∈ lk_B, w ∈ lw_tbl := by decide +kernel
/-- what look's throws need of the start, kept along -/
def lk_E (g : Nat × Nat) (A : Nat → Prop) (U : State) (H : Heap) : Prop := vk_R RX11 109 "no such thing" g.1 U ∧ vk_R RX11 129 "no such what" g.2 U ∧ vx_Zq Bundle.tN "UNASSIGNED_STACK" Bundle.steD A U H ∧ vx_Zq Bundle.tN "SUPPRESSED_SENTINEL" Bundle.listD A U H ∧ (∀ w ∈ lk_B, va_Nw w U) ∧ va_Nc lk_N lk_I U
theorem lk_E.warm {g : Nat × Nat} {A : Nat → Prop} {s U : State} {H : Heap} (hW : s.WarmedH U.vm) (h : lk_E g A s H) : lk_E g A U H := by
  obtain ⟨h1, h2, h3, h4, h5, h6⟩ := h
  refine ⟨vk_R.warm hW h1, vk_R.warm hW h2, vx_Zq.moved hW.alike h3, vx_Zq.moved hW.alike h4, fun w hw => ?_, va_Nc.moved hW.alike h6⟩
  have key := h5 w hw
  simp only [lk_B, List.mem_cons, List.not_mem_nil, or_false] at hw
  rcases hw with rfl | rfl | rfl | rfl | rfl
  · exact va_Nw.warmD hW key
  · exact va_Nw.warmD hW key
  · exact va_Nw.warmD hW key
  · exact va_Nw.warmC hW key
  · exact va_Nw.warmC hW key
theorem lk_E.same {g : Nat × Nat} {A : Nat → Prop} {u U : State} {H : Heap} (hv : u.vm = U.vm) (h : lk_E g A u H) : lk_E g A U H := lk_E.warm (s := u) (by rw [← hv]; exact State.WarmedH.refl u) h
theorem lk_E.kept {g : Nat × Nat} {A : Nat → Prop} {U : State} {H H1 : Heap} (hq : ∀ a : Nat, a < H.size → ¬ A a → H1[a]? = H[a]?) (h : lk_E g A U H) : lk_E g A U H1 := ⟨h.1, h.2.1, h.2.2.1.kept hq, h.2.2.2.1.kept hq, h.2.2.2.2⟩
theorem lk_at {args : Array Value} {s : State} {g : Nat × Nat} {A : Nat → Prop} {H : Heap} (hts : ∀ w ∈ z_tbl, w.before args s = true) (hE : lk_E g A s H) {Lw : List Cond} (hx : ∀ w ∈ Lw.filter goodWord, w ∈ lw_tbl) (hy : ∀ w ∈ Lw.filter (fun w => !goodWord w), w ∈ lk_B) : ∀ w ∈ Lw, w.before args s = true :=
  vx_hat (B := lk_B) (fun w hw => hts w (List.mem_filter.mpr ⟨hx w hw, (List.mem_filter.mp hw).2⟩)) hy (fun w hw => va_Nw.use (lk_ot w hw) (hE.2.2.2.2.1 w hw))
/-- where both begin: the world, and what the throws need -/
def lk_Pc (D : va_G) (bs : Nat) (α : Nat → Nat) (γ : Nat → ClassId) (M : zM) (g : Nat × Nat) (vs : List Value) : Array Value → State → Prop := va_Pc vs (fun U => va_P D vwCl (z_ws α γ 117 zTy zLa M) U.heap ∧ va_D (fun q => bs ≤ q) (z_ws α γ 117 zTy zLa M) ∧ z_Kn D γ 117 zTy zLa U ∧ lk_E g (fun q => bs ≤ q) U U.heap)
theorem lk_blind {D : va_G} {bs : Nat} {α : Nat → Nat} {γ : Nat → ClassId} {M : zM} {g : Nat × Nat} {vs : List Value} : FrameBlind (lk_Pc D bs α γ M g vs) := by
  intro a U f mk z
  obtain ⟨z0, z1, z2, z3, z4⟩ := z
  exact ⟨z0, z1, z2, z_Kn.same (u := U) rfl z3, lk_E.same (u := U) (U := U.calling f mk a) rfl z4⟩
theorem lk_ok0 : z_ok 117 zTy (zA 11 0) := ⟨by decide, by decide, by decide⟩
def lk_R : Room := { frames := 6, cells := 1, slots := 6, locals := 90 }
def ll_R : Room := { frames := 7, cells := 1, slots := 6, locals := 120 }
def lk_C (k : Nat) : String := match k with
  | 1 => lk_I
  | _ => lk_N
abbrev lk_XC (D : va_G) (bs : Nat) (α : Nat → Nat) (γ : Nat → ClassId) (M : zM) (k : Nat) : String → State → State → Prop := vx_X (fun _ : Unit => True) (fun E _ t => E = lk_C k ∧ va_P D vwCl (z_ws α γ 117 zTy zLa M) t.heap) (fun q => bs ≤ q)
abbrev lk_Qc (bs : Nat) : Array Value → State → Outcome → State → Prop := va_Qi (fun _ (_ : Unit) => False) (fun _ _ => True) (fun q => bs ≤ q)
set_option maxHeartbeats 2000000 in
/-- SaidSo.look, where it throws -/
theorem lk_thr (l : Launch) (hl : l.stackTraces = false) (D : va_G) (bs : Nat) (α : Nat → Nat) (γ : Nat → ClassId) (M : zM) (g : Nat × Nat) (y w : Int) (hy : z_rI y) (hw : z_rI w) (hT : z_TM 117 zTy zLa M) {k : Nat} {L' : List zV} (hk : k = 1 ∨ k = 2) (hev : ∀ G : zG, lk_0 zLa [zA 11 0, zI y, zI w, zU] [] M G = G k L' [] M) : vx_Met l yX11_look (z_ws1 yX11_look cX11_look 4 (some .int)) lk_R (lk_Pc D bs α γ M g [.ref (α 0), .int (Int32.ofInt y), .int (Int32.ofInt w)]) (lk_Qc bs) (lk_XC D bs α γ M k) 1 6 (fun q => bs ≤ q) := by
  refine vx_ofW (cc := cX11_look) (maxL := 4) (ret := some .int) (by decide) rfl ?_
  intro p e s m args below meth c s₁ B hml htab hv
  obtain ⟨rfl, hPw, hDw, hKw, hE⟩ := hv
  have hts0 := atoms_spec (ws := z_ws1 yX11_look cX11_look 4 (some .int)) B.pre
  have hts : ∀ w ∈ z_tbl, w.before _ s = true := fun w hw => hts0 w (List.mem_cons_of_mem _ hw)
  have hown : s.vm.findClass RX11 = some m.cls := findClass_of_methodNamed B.named
  let X : zX := ((p, l, e, lk_R, s), (m, ([.ref (α 0), .int (Int32.ofInt y), .int (Int32.ofInt w)] : List Value).toArray, below, meth, c), (0, 0, vx_MQ below (lk_Qc bs) (lk_XC D bs α γ M k) ([.ref (α 0), .int (Int32.ofInt y), .int (Int32.ofInt w)] : List Value).toArray s 1 6 (fun q => bs ≤ q)), (D, bs, α, γ), (117, zTy, zLa), fun _ => False)
  have hC : z_Cx X RX11 cX11_look 4 (some .int) 1 := ⟨B.exec, B.bytes, hml, hown, hts, B.notSynchronized, B.returns, hKw, ⟨Nat.zero_le _, Nat.zero_le _, Nat.le_of_ble_eq_true rfl, Nat.le_of_ble_eq_true rfl⟩, fun _ h => h.elim⟩
  have hW : z_Wn X 0 [zA 11 0, zI y, zI w, zU] [] M := by
    refine (lk_s0 hC [zA 11 0, zI y, zI w, zU] [] M).2.2 k L' [] M hev ?_
    intro H locs ls hR hlv _ _
    have hP : va_P D vwCl (z_ws α γ 117 zTy zLa M) H := hR.1
    have hS : va_S (fun q => bs ≤ q) s.heap H locs := hR.2.2.1
    have hsz : ls.size = c.maxLocals := hlv.1
    have hxc : ∀ t : State, s.vm.Alike t.vm → H.size ≤ t.heap.size → (∀ q : Nat, q < H.size → t.heap[q]? = H[q]?) → lk_XC D bs α γ M k (lk_C k) s t := fun t _ h1 h2 => ⟨(), trivial, ⟨rfl, va_P.kept hP (fun k q hq => h2 _ (hP.lt hq))⟩, Nat.le_trans hS.1 h1, fun q q1 q2 => (h2 q (Nat.lt_of_lt_of_le q1 hS.1)).trans (hS.2.1 q q1 q2)⟩
    rcases hk with rfl | rfl
    · show W p l e lk_R s m _ below meth c H locs 0 0 (vx_MQ below (lk_Qc bs) (lk_XC D bs α γ M 1) _ s 1 6 (fun q => bs ≤ q)) (F0 m 16 ls [])
      exact th_throw (own := RX11) (cls := lk_I) (names := lk_U) (text := "no such thing") (ik := 107) (is := 109) (ic := 111) (ix := 7) (rx := prog_19_method_2_code) (A := fun q => bs ≤ q) (sa := g.1) B.exec B.bytes hl (by decide +kernel) (by decide +kernel) (by decide +kernel) (by decide +kernel) hown (by decide +kernel) (by decide +kernel) (hts _ (z_in (i := 1326) (by decide +kernel) rfl)) (hts _ (z_in (i := 197) (by decide +kernel) rfl)) hE.1 (lk_at hts hE lk_x0 lk_y0) lk_g0 hE.2.2.1 hE.2.2.2.1 hS hsz dX11_look_16 dX11_look_19 dX11_look_20 dX11_look_22 dX11_look_25 (fun x hx => (htab x hx).elim) (by decide) (by decide) (by decide) (by decide) B.notSynchronized hxc hS.2.2 (Nat.le_refl _) (Nat.le_refl _)
    · show W p l e lk_R s m _ below meth c H locs 0 0 (vx_MQ below (lk_Qc bs) (lk_XC D bs α γ M 2) _ s 1 6 (fun q => bs ≤ q)) (F0 m 84 ls [])
      exact th_throw (own := RX11) (cls := lk_N) (names := lk_U) (text := "no such what") (ik := 127) (is := 129) (ic := 131) (ix := 13) (rx := prog_29_method_4_code) (A := fun q => bs ≤ q) (sa := g.2) B.exec B.bytes hl (by decide +kernel) (by decide +kernel) (by decide +kernel) (by decide +kernel) hown (by decide +kernel) (by decide +kernel) (hts _ (z_in (i := 1392) (by decide +kernel) rfl)) (hts _ (z_in (i := 198) (by decide +kernel) rfl)) hE.2.1 (lk_at hts hE lk_x1 lk_y1) lk_g1 hE.2.2.1 hE.2.2.2.1 hS hsz dX11_look_84 dX11_look_87 dX11_look_88 dX11_look_90 dX11_look_93 (fun x hx => (htab x hx).elim) (by decide) (by decide) (by decide) (by decide) B.notSynchronized hxc hS.2.2 (Nat.le_refl _) (Nat.le_refl _)
  have hle := lv_entry ([.ref (α 0), .int (Int32.ofInt y), .int (Int32.ofInt w)]) (n := 4) (Nat.le_of_ble_eq_true rfl)
  rw [lg_entry_eq]
  generalize (lg_sl ([.ref (α 0), .int (Int32.ofInt y), .int (Int32.ofInt w)]) ++ List.replicate (4 - (lg_sl ([.ref (α 0), .int (Int32.ofInt y), .int (Int32.ofInt w)])).length) Slot.unset).toArray = ls at hle ⊢
  have hle : lv_has ls 4 [(0, .ref (α 0)), (1, .int (Int32.ofInt y)), (2, .int (Int32.ofInt w))] := hle
  refine hW s.heap [] ls ⟨hPw, hDw, va_S.rf, hT⟩ ⟨hle.1.trans hml.symm, hle.2.1, fun i hi => ?_⟩ (fun i => ?_) (fun v hv => by cases hv)
  · match i, hi with
    | 0, _ => exact lv_at hle 0 rfl
    | 1, _ => exact lv_at hle 1 rfl
    | 2, _ => exact lv_at hle 2 rfl
    | 3, hi => exact absurd rfl hi
    | n + 4, hi => exact absurd rfl hi
  · match i with
    | 0 => exact lk_ok0
    | 1 => exact hy
    | 2 => exact hw
    | 3 => exact trivial
    | n + 4 => exact trivial
end
