section
/-! ===== SaidSoLaw.look and the law's case 4 ===== -/
abbrev ll_H : List (Nat × Nat × Nat × Nat) := [(0, 10, 13, 13), (0, 10, 17, 15)]
def ll_W : List Cond := Cond.codeWith yL_look cL_look 5 (some .int) ll_H :: z_tbl
theorem ll_code : Cond.codeWith yL_look cL_look 5 (some .int) ll_H ∈ z_tbl := z_in (i := 1319) (by decide +kernel) rfl
theorem ll_good : GoodIn z_tbl ll_W := by
  intro w hw
  rcases List.mem_cons.mp hw with rfl | hw
  · exact ⟨ll_code, good_of_word (z_good _ ll_code)⟩
  · exact ⟨hw, good_of_word (z_good _ hw)⟩
abbrev ll_X : String → State → State → Prop := vx_X (fun _ : Unit => False) (fun _ _ _ => True) (fun _ => False)
theorem ok0 : z_ok 117 zTy (zA 11 0) := ⟨by decide, by decide, by decide⟩
theorem ok84 : z_ok 117 zTy (zA 12 84) := ⟨by decide, by decide, by decide⟩
theorem ok116 : z_ok 117 zTy (zA 15 116) := ⟨by decide, by decide, by decide⟩
theorem ll_ini : Cond.initialized RL ∈ z_tbl := z_in (i := 175) (by decide +kernel) rfl
theorem lk_k : Cond.code yX11_look cX11_look 4 (some .int) ∈ z_tbl := z_in (i := 1325) (by decide +kernel) rfl
theorem lk_n : Cond.instanceMethod yX11_look ∈ z_tbl := z_in (i := 1323) (by decide +kernel) rfl
theorem lk_e : Cond.selects yX11_look.cls yX11_look yX11_look ∈ z_tbl := z_in (i := 1324) (by decide +kernel) rfl
theorem lk_l : Cond.methodLink RL 7 yX11_look ∈ z_tbl := z_in (i := 1322) (by decide +kernel) rfl
theorem lk_d : yX11_look.cls ≠ "java/lang/invoke/MethodHandle" ∧ yX11_look.cls ≠ "java/lang/invoke/VarHandle" ∧ (parseMethodDescriptor yX11_look.desc).map (fun d => d.parameters.length) = some 2 := ⟨by decide +kernel, by decide +kernel, by decide +kernel⟩
noncomputable def ll_0 (Λ : Int → Int) : zTm := z_seq (z_al 3) (z_seq (z_ic 0) (z_seq (z_al 0) (z_seq (z_il 1) (z_seq (z_il 2) (z_seq (z_callv Λ z_BI zm_X11_look 3 11) (z_seq z_i2l (z_seq (z_last Λ) (z_seq (z_ic 0) z_iret))))))))
theorem ll_s0 {X : zX} (hC : z_Cx X RL cL_look 5 (some .int) 2) {P : Nat → Nat} : z_St X P 0 (ll_0 (x_La X)) := z_st_seq (z_ot_al 3) (z_so_aload_n hC dL_look_0 rfl) (z_st_seq (z_ot_ic 0) (z_so_iconst hC 0 dL_look_1 ⟨by decide, by decide⟩) (z_st_seq (z_ot_al 0) (z_so_aload_n hC dL_look_2 rfl) (z_st_seq (z_ot_il 1) (z_so_iload_n hC dL_look_3 rfl) (z_st_seq (z_ot_il 2) (z_so_iload_n hC dL_look_4 rfl) (z_st_seq (z_ot_callv _ z_hbI _ _ _) (z_so_callv hC z_hbI zsim_X11_look ⟨lk_k, zi_X11, lk_d, by decide, by decide⟩ lk_n lk_e rfl (by decide) (Or.inl lk_l) dL_look_5) (z_st_seq z_ot_i2l (z_so_i2l hC dL_look_8) (z_st_seq (z_ot_last _) (z_so_last hC dL_look_9) (z_st_goto hC dL_look_10 (by decide) (z_st_seq (z_ot_ic 0) (z_so_iconst hC 0 dL_look_21 ⟨by decide, by decide⟩) (z_st_iret hC dL_look_22))))))))))
theorem ll_ev {M : zM} {y w v : Int} (hf : zm_X11_look zLa [zA 11 0, zI y, zI w] M = some ([zI v], M)) (G : zG) : ll_0 zLa [zA 11 0, zI y, zI w, zA 15 116, zU] [] M G = some (.inl ([zI 0], z_wr M 116 0 v)) := by
  have e : ll_0 zLa [zA 11 0, zI y, zI w, zA 15 116, zU] [] M G = z_bI (zm_X11_look zLa [zA 11 0, zI y, zI w] M) (fun r M1 => if 0 ≤ (0 : Int) ∧ (0 : Int) < zLa 116 then some (.inl ([zI 0], z_wr M1 116 0 r)) else none) := rfl
  rw [e, hf, z_bI_mk]
  exact if_pos ⟨by decide, by decide⟩
theorem ll_loc {α : Nat → Nat} {y w : Int} {ls : Array Slot} (hle : lv_has ls 5 [(0, .ref (α 0)), (1, .int (Int32.ofInt y)), (2, .int (Int32.ofInt w)), (3, .ref (α 116))]) : ∀ i, z_nth [zA 11 0, zI y, zI w, zA 15 116, zU] i ≠ zU → ls[i]? = some (.val (z_cv α (z_nth [zA 11 0, zI y, zI w, zA 15 116, zU] i))) := fun i hi => match i, hi with
  | 0, _ => lv_at hle 0 rfl
  | 1, _ => lv_at hle 1 rfl
  | 2, _ => lv_at hle 2 rfl
  | 3, _ => lv_at hle 3 rfl
  | 4, hi => absurd rfl hi
  | _ + 5, hi => absurd rfl hi
set_option maxHeartbeats 2000000 in
/-- SaidSoLaw.look, where the class's look answers -/
theorem ll_ret (l : Launch) (D : va_G) (bs : Nat) (α : Nat → Nat) (γ : Nat → ClassId) (M : zM) (y w v : Int) (hy : z_rI y) (hw : z_rI w) (hT : z_TM 117 zTy zLa M) (hf : zm_X11_look zLa [zA 11 0, zI y, zI w] M = some ([zI v], M)) : vx_Met l yL_look ll_W (z_room 2) (va_Pc [.ref (α 0), .int (Int32.ofInt y), .int (Int32.ofInt w), .ref (α 116)] (fun U => va_P D vwCl (z_ws α γ 117 zTy zLa M) U.heap ∧ va_D (fun q => bs ≤ q) (z_ws α γ 117 zTy zLa M) ∧ z_Kn D γ 117 zTy zLa U)) (z_Qc D bs α γ 117 zTy zLa ([zI 0], z_wr M 116 0 v)) ll_X 0 0 (fun q => bs ≤ q) := by
  refine vx_ofWH (cc := cL_look) (maxL := 5) (ret := some .int) (hh := ll_H) (by decide) rfl ?_
  intro p e s m args below meth c s₁ B hml hv
  obtain ⟨rfl, hPw, hDw, hKw⟩ := hv
  have hts0 := atoms_spec (ws := ll_W) B.pre
  have hts : ∀ w ∈ z_tbl, w.before _ s = true := fun w hw => hts0 w (List.mem_cons_of_mem _ hw)
  have hown : s.vm.findClass RL = some m.cls := findClass_of_methodNamed B.named
  refine vx_ret ?_
  let X : zX := ((p, l, e, z_room 2, s), (m, ([.ref (α 0), .int (Int32.ofInt y), .int (Int32.ofInt w), .ref (α 116)] : List Value).toArray, below, meth, c), (0, 0, MQ below (z_Qc D bs α γ 117 zTy zLa ([zI 0], z_wr M 116 0 v)) ([.ref (α 0), .int (Int32.ofInt y), .int (Int32.ofInt w), .ref (α 116)] : List Value).toArray s 0 0 (fun q => bs ≤ q)), (D, bs, α, γ), (117, zTy, zLa), fun q => q = ([zI 0], z_wr M 116 0 v))
  have hC : z_Cx X RL cL_look 5 (some .int) 2 := by
    refine ⟨B.exec, B.bytes, hml, hown, hts, B.notSynchronized, B.returns, hKw, ⟨Nat.le_refl _, Nat.le_refl _, Nat.le_refl _, Nat.le_refl _⟩, ?_⟩
    intro q hq
    have hq : q = ([zI 0], z_wr M 116 0 v) := hq
    subst hq
    rfl
  have hW : z_Wn X 0 [zA 11 0, zI y, zI w, zA 15 116, zU] [] M := (ll_s0 (P := fun n => n) hC [zA 11 0, zI y, zI w, zA 15 116, zU] [] M).1 _ (fun G => ll_ev hf G) rfl
  have hle := lv_entry ([.ref (α 0), .int (Int32.ofInt y), .int (Int32.ofInt w), .ref (α 116)]) (n := 5) (Nat.le_of_ble_eq_true rfl)
  rw [lg_entry_eq]
  generalize (lg_sl ([.ref (α 0), .int (Int32.ofInt y), .int (Int32.ofInt w), .ref (α 116)]) ++ List.replicate (5 - (lg_sl ([.ref (α 0), .int (Int32.ofInt y), .int (Int32.ofInt w), .ref (α 116)])).length) Slot.unset).toArray = ls at hle ⊢
  have hle : lv_has ls 5 [(0, .ref (α 0)), (1, .int (Int32.ofInt y)), (2, .int (Int32.ofInt w)), (3, .ref (α 116))] := hle
  refine hW s.heap [] ls ⟨hPw, hDw, va_S.rf, hT⟩ ⟨hle.1.trans hml.symm, hle.2.1, ll_loc hle⟩ (fun i => ?_) (fun v hv => by cases hv)
  match i with
  | 0 => exact ok0
  | 1 => exact hy
  | 2 => exact hw
  | 3 => exact ok116
  | 4 => exact trivial
  | n + 5 => exact trivial
abbrev ll_Qc (D : va_G) (bs : Nat) (α : Nat → Nat) (γ : Nat → ClassId) (M : zM) (k : Nat) : Array Value → State → Outcome → State → Prop := va_Qi (fun r (_ : Unit) => r = Int32.ofInt (k : Int)) (fun _ t => va_P D vwCl (z_ws α γ 117 zTy zLa M) t.heap) (fun q => bs ≤ q)
set_option maxHeartbeats 2000000 in
/-- SaidSoLaw.look, where the class's look throws -/
theorem ll_thr (l : Launch) (hl : l.stackTraces = false) (D : va_G) (bs : Nat) (α : Nat → Nat) (γ : Nat → ClassId) (M : zM) (g : Nat × Nat) (y w : Int) (hy : z_rI y) (hw : z_rI w) (hT : z_TM 117 zTy zLa M) {k : Nat} {L' : List zV} (hk : k = 1 ∨ k = 2) (hev : ∀ G : zG, lk_0 zLa [zA 11 0, zI y, zI w, zU] [] M G = G k L' [] M) : vx_Met l yL_look ll_W ll_R (lk_Pc D bs α γ M g [.ref (α 0), .int (Int32.ofInt y), .int (Int32.ofInt w), .ref (α 116)]) (ll_Qc D bs α γ M k) ll_X 1 6 (fun q => bs ≤ q) := by
  refine vx_ofWH (cc := cL_look) (maxL := 5) (ret := some .int) (hh := ll_H) (by decide) rfl ?_
  intro p e s m args below meth c s₁ B hml hv
  obtain ⟨rfl, hPw, hDw, hKw, hE⟩ := hv
  have hts0 := atoms_spec (ws := ll_W) B.pre
  have hts : ∀ w ∈ z_tbl, w.before _ s = true := fun w hw => hts0 w (List.mem_cons_of_mem _ hw)
  have hown : s.vm.findClass RL = some m.cls := findClass_of_methodNamed B.named
  have htab : c.exceptionTable.toList = tableOf ll_H := vx_table (x := yL_look) B (hts _ ll_code)
  have hle := lv_entry ([.ref (α 0), .int (Int32.ofInt y), .int (Int32.ofInt w), .ref (α 116)]) (n := 5) (Nat.le_of_ble_eq_true rfl)
  rw [lg_entry_eq]
  generalize (lg_sl ([.ref (α 0), .int (Int32.ofInt y), .int (Int32.ofInt w), .ref (α 116)]) ++ List.replicate (5 - (lg_sl ([.ref (α 0), .int (Int32.ofInt y), .int (Int32.ofInt w), .ref (α 116)])).length) Slot.unset).toArray = ls at hle ⊢
  have hle : lv_has ls 5 [(0, .ref (α 0)), (1, .int (Int32.ofInt y)), (2, .int (Int32.ofInt w)), (3, .ref (α 116))] := hle
  refine lv_aload_n B.exec B.bytes dL_look_0 rfl (lv_at hle 3 rfl) ?_
  refine lv_iconst (v := 0) B.exec B.bytes dL_look_1 (by decide) ?_
  refine lv_aload_n B.exec B.bytes dL_look_2 rfl (lv_at hle 0 rfl) ?_
  refine lv_iload_n B.exec B.bytes dL_look_3 rfl (lv_at hle 1 rfl) ?_
  refine lv_iload_n B.exec B.bytes dL_look_4 rfl (lv_at hle 2 rfl) ?_
  have he : (z_ws α γ 117 zTy zLa M)[0]? = some (α 0, .inr (11, (z_fld 11).mapIdx (fun j k => z_fv α k (M 0 j)))) := z_ws_get (i := 0) (by decide)
  have cw : CallB ll_R s ([.ref (α 0), .int (Int32.ofInt y), .int (Int32.ofInt w), .ref (α 116)] : List Value).toArray RL 7 yX11_look cX11_look 4 (some .int) (z_ws1 yX11_look cX11_look 4 (some .int)) lk_R 1 6 2 := callB_of 2 hts (z_goodIn lk_k) rfl rfl rfl (hts _ zi_X11) (hts _ lk_l) lk_d ⟨by decide, by decide⟩
  refine vx_calli (vx_runV (C := RX11) (b := α 0) (As := [.int (Int32.ofInt y), .int (Int32.ofInt w)]) (rest := [.int 0, .ref (α 116)]) ⟨B.exec, B.bytes, hml, hown, hts⟩ (lk_thr l hl D bs α γ M g y w hy hw hT hk hev) ⟨cw, hts _ lk_n, hts _ lk_e⟩ ⟨lk_blind, va_recv (ci := 11) hKw.1 hPw rfl he, fun U hU hWm => ⟨rfl, by rw [hU]; exact hPw, hDw, z_Kn.warm hWm hKw, by rw [hU]; exact lk_E.warm hWm hE⟩⟩ rfl rfl hle.1 rfl (lv_room (Nat.le_of_ble_eq_true rfl)) dL_look_5 ⟨by decide, by decide⟩) va_S.rf (fun _ _ h => h) (fun _ h => h) (fun _ _ h => h) (fun E ce q9 u t H1 locs1 ht hvm _ hB hz hk1 hS1 hce hcv hcl => ?_) (fun r u t H1 locs1 _ _ hp => hp.elim)
  obtain ⟨hE1, hP1⟩ := hB
  rw [ht] at hP1
  have hLI : (Cond.classLink RL 13 lk_I).before ([.ref (α 0), .int (Int32.ofInt y), .int (Int32.ofInt w), .ref (α 116)] : List Value).toArray s = true := hts _ (z_in (i := 1320) (by decide +kernel) rfl)
  have hLN : (Cond.classLink RL 15 lk_N).before ([.ref (α 0), .int (Int32.ofInt y), .int (Int32.ofInt w), .ref (α 116)] : List Value).toArray s = true := hts _ (z_in (i := 1321) (by decide +kernel) rfl)
  have hcI : (Cond.castable lk_I lk_I).before ([.ref (α 0), .int (Int32.ofInt y), .int (Int32.ofInt w), .ref (α 116)] : List Value).toArray s = true := va_Nw.use rfl (hE.2.2.2.2.1 _ (by simp [lk_B]))
  have hcN : (Cond.castable lk_N lk_N).before ([.ref (α 0), .int (Int32.ofInt y), .int (Int32.ofInt w), .ref (α 116)] : List Value).toArray s = true := va_Nw.use rfl (hE.2.2.2.2.1 _ (by simp [lk_B]))
  rcases hk with rfl | rfl
  · have hE1 : E = lk_I := hE1
    subst hE1
    refine vx_catch (own := RL) (name := lk_I) hown [] ⟨0, 10, 13, 13⟩ [⟨0, 10, 17, 15⟩] htab (fun z hz => nomatch hz) (by decide) (by decide) hLI hcI hce hcv hcl ?_
    show W p l e ll_R s m _ below meth c H1 locs1 1 6 (vx_MQ below (ll_Qc D bs α γ M 1) ll_X _ s 1 6 (fun q => bs ≤ q)) (F0 m 13 ls [.ref q9])
    refine lv_astore (lv' := [(4, .ref q9), (0, .ref (α 0)), (1, .int (Int32.ofInt y)), (2, .int (Int32.ofInt w)), (3, .ref (α 116))]) B.exec B.bytes dL_look_13 hle (by decide) rfl (fun ls hl => ?_)
    refine lv_iconst (v := Int32.ofInt 1) B.exec B.bytes dL_look_15 (by decide) ?_
    exact vx_ret (W.iret (v := Int32.ofInt 1) B.exec B.bytes B.returns (fun t ht hW => ⟨⟨Int32.ofInt 1, (), rfl, rfl, (show va_P D vwCl (z_ws α γ 117 zTy zLa M) t.heap by rw [ht]; exact hP1)⟩, hS1.F ht⟩) hS1.2.2 dL_look_16 B.notSynchronized)
  · have hE1 : E = lk_N := hE1
    subst hE1
    refine vx_catch (own := RL) (name := lk_N) hown [⟨0, 10, 13, 13⟩] ⟨0, 10, 17, 15⟩ [] htab (fun z hz => Or.inr (by rcases List.mem_singleton.mp hz with rfl; exact ⟨by decide, lk_I, hLI, hE.2.2.2.2.2⟩)) (by decide) (by decide) hLN hcN hce hcv hcl ?_
    show W p l e ll_R s m _ below meth c H1 locs1 1 6 (vx_MQ below (ll_Qc D bs α γ M 2) ll_X _ s 1 6 (fun q => bs ≤ q)) (F0 m 17 ls [.ref q9])
    refine lv_astore (lv' := [(4, .ref q9), (0, .ref (α 0)), (1, .int (Int32.ofInt y)), (2, .int (Int32.ofInt w)), (3, .ref (α 116))]) B.exec B.bytes dL_look_17 hle (by decide) rfl (fun ls hl => ?_)
    refine lv_iconst (v := Int32.ofInt 2) B.exec B.bytes dL_look_19 (by decide) ?_
    exact vx_ret (W.iret (v := Int32.ofInt 2) B.exec B.bytes B.returns (fun t ht hW => ⟨⟨Int32.ofInt 2, (), rfl, rfl, (show va_P D vwCl (z_ws α γ 117 zTy zLa M) t.heap by rw [ht]; exact hP1)⟩, hS1.F ht⟩) hS1.2.2 dL_look_20 B.notSynchronized)
/-! the law's case 4 -/
theorem lwf_X12_look : lw_Fn yX12_look cX12_look 3 (some .int) 1 2 12 44 zm_X12_look := ⟨zsim_X12_look, ⟨z_in (i := 1763) (by decide +kernel) rfl, lwi_X12, ⟨by decide +kernel, by decide +kernel, by decide +kernel⟩, by decide, by decide⟩, z_in (i := 1761) (by decide +kernel) rfl, z_in (i := 1762) (by decide +kernel) rfl, ⟨TX12, 66, rfl⟩, by decide, z_in (i := 1760) (by decide +kernel) rfl⟩
theorem lwf_X12_thrown : lw_Fn yX12_thrown cX12_thrown 1 (some .int) 0 0 12 45 zm_X12_thrown := ⟨zsim_X12_thrown, ⟨z_in (i := 1628) (by decide +kernel) rfl, lwi_X12, ⟨by decide +kernel, by decide +kernel, by decide +kernel⟩, by decide, by decide⟩, z_in (i := 1626) (by decide +kernel) rfl, z_in (i := 1627) (by decide +kernel) rfl, ⟨TX12, 66, rfl⟩, by decide, z_in (i := 1625) (by decide +kernel) rfl⟩
theorem e_X12_thrown (N : zM) : zm_X12_thrown zLa [zA 12 84] N = some ([zI (N 84 2)], N) := by
  rw [zr_X12_thrown]
  refine z_out_some ?_
  rw [zb_X12_thrown_0]
section
variable {p : Program} {l : Launch} {e : Env} {s : State} {m : MethodId} {below : List Frame} {meth : Method} {c : Code} {b L : Nat} {xs : Nat → Int32} {D : va_G} {α : Nat → Nat} {γ : Nat → ClassId}
set_option maxHeartbeats 2000000 in
/-- behind SaidSoLaw.look -/
theorem lw_lk2 (hK : lw_Kx p l e s m b below meth c D α γ L xs) {q nc ns nc2 ns2 : Nat} (hq : 6 * q + 6 ≤ L) (a1 : nc ≤ nc2) (a2 : ns ≤ ns2) (a3 : nc2 ≤ 1143) (a4 : ns2 ≤ 15636) (hH : lw_Hd p l e s m b below meth c D α γ (q + 1) nc2 ns2) {M M2 : zM} {H : Heap} {locs : List Loc} {ls : Array Slot} {k r : Int} (hk : k = 0 ∨ k = 1 ∨ k = 2) (eg : zm_X12_look zLa [zA 12 84, zI (xs (6 * q + 1)).toInt, zI (xs (6 * q + 2)).toInt] M = some ([zI r], M2)) (tk : M2 84 2 = k) (ok : k = 0 → M2 116 0 = r) (hI : gI M2) (hR : z_Rl (lwX p l e s m b below meth c D α γ nc ns) M H locs) (hl : lv_has ls 7 (lwl b α (6 * q))) : x_W (lwX p l e s m b below meth c D α γ nc ns) H locs (F0 m 357 ls [.int (Int32.ofInt k)]) := by
  have hC := hK.1 nc ns (by omega) (by omega)
  obtain ⟨hKx, hX, hbl, hL⟩ := id hK
  have hx := hC.1
  have hb := hC.2.1
  have o84 : x_ok (lwX p l e s m b below meth c D α γ nc ns) (zA 12 84) := ok84
  have o116 : x_ok (lwX p l e s m b below meth c D α γ nc ns) (zA 15 116) := ok116
  refine lv_istore (lv' := [(5, .int (Int32.ofInt k)), (0, .ref b), (1, .ref (α 0)), (2, .ref (α 84)), (3, .ref (α 116)), (4, .int (nI (6 * q)))]) hx hb dL_law_357 hl (by decide) rfl (fun ls hl => ?_)
  refine lv_aload_n hx hb dL_law_359 rfl (lv_at hl 3 rfl) ?_
  have h0 := lv_at hl 1 rfl
  have h4 := lv_at hl 5 rfl
  refine ((lw_arg (j := 1) hC hX hbl rfl hL h0 h4 (by omega) dL_law_360 dL_law_361 dL_law_363 dL_law_364 dL_law_365).app (lw_arg (j := 2) hC hX hbl rfl hL h0 h4 (by omega) dL_law_366 dL_law_367 dL_law_369 dL_law_370 dL_law_371)) M H locs _ hR ?_
  refine lw_call hC lwf_X12_look dL_law_372 (a := 84) (q := ([zI r], M2)) eg (fun v hv => by simp only [List.mem_cons, List.cons_append, List.nil_append, List.not_mem_nil, or_false] at hv; rcases hv with rfl | rfl | rfl; exact o84; exact z_rti _; exact z_rti _) rfl hR hl.1 (Nat.le_of_ble_eq_true rfl) (fun H2 locs2 hR2 hok2 => ?_)
  have hr : z_rI r := hok2 (zI r) List.mem_cons_self
  refine lv_istore (x := Int32.ofInt r) (lv' := [(6, .int (Int32.ofInt r)), (5, .int (Int32.ofInt k)), (0, .ref b), (1, .ref (α 0)), (2, .ref (α 84)), (3, .ref (α 116)), (4, .int (nI (6 * q)))]) hx hb dL_law_375 hl (by decide) rfl (fun ls hl => ?_)
  refine lv_aload_n hx hb dL_law_377 rfl (lv_at hl 4 rfl) ?_
  refine lw_call hC lwf_X12_thrown dL_law_378 (a := 84) (as := []) (q := ([zI k], M2)) (by rw [← tk]; exact e_X12_thrown M2) (fun v hv => by rcases List.mem_cons.mp hv with rfl | hv; exact o84; cases hv) rfl hR2 hl.1 (Nat.le_of_ble_eq_true rfl) (fun H3 locs3 hR3 _ => ?_)
  refine lv_iload hx hb dL_law_381 (lv_at hl 1 rfl) ?_
  refine lv_icmp_eq (tgt := 388) hx hb dL_law_383 (by decide) (fun _ => ?_) (fun hne => absurd rfl hne)
  refine lv_iload hx hb dL_law_388 (lv_at hl 1 rfl) ?_
  have hend : x_W (lwX p l e s m b below meth c D α γ nc ns) H3 locs3 (F0 m 405 ls []) := by
    refine lv_goto (tgt := 1243) hx hb dL_law_405 (by decide) ?_
    exact lw_nx hK a1 a2 a3 a4 hH hI hR3 (lv_sub hl [2, 3, 4, 5, 6] rfl)
  refine lv_if_ne (tgt := 405) hx hb dL_law_390 (by decide) (fun _ => hend) (fun hz => ?_)
  have k0 : k = 0 := by
    rcases hk with h | h | h
    · exact h
    · subst h; exact absurd hz (by decide)
    · subst h; exact absurd hz (by decide)
  refine lv_aload_n hx hb dL_law_393 rfl (lv_at hl 5 rfl) ?_
  refine lv_iconst (v := Int32.ofInt 0) hx hb dL_law_394 (by decide) ?_
  have hKJ := (hC.2.2.2.2.2.2.2.1.2.2 116 (Nat.le_of_ble_eq_true rfl)).2.2 rfl
  refine va_lald hx hb hKJ hR3.1 116 0 (z_arr_j (a := 116) o116) rfl (z_vpin (i := 0) (n := zLa 116) ⟨by decide, by decide⟩ (by decide) (by decide)) dL_law_395 ?_
  rw [z_clamp ⟨by decide, by decide⟩ (by decide)]
  have e0 : M2 116 0 = r := ok k0
  show x_W (lwX p l e s m b below meth c D α γ nc ns) H3 locs3 (F0 m 396 ls (.long (Int64.ofInt (M2 116 0)) :: []))
  rw [e0]
  refine lv_iload hx hb dL_law_396 (lv_at hl 0 rfl) ?_
  refine lv_i2l (v := Int64.ofInt r) hx hb dL_law_398 ?_ ?_
  · apply Int64.toInt_inj.mp
    rw [Int32.toInt_toInt64, z_ti hr, z_tj (z_rIJ hr)]
  refine W.lcmp hx hb dL_law_399 ?_
  have e1 : lg_cmp (Int64.ofInt r) (Int64.ofInt r) = 0 := by unfold lg_cmp; simp
  show x_W (lwX p l e s m b below meth c D α γ nc ns) H3 locs3 (F0 m 400 ls (.int (lg_cmp (Int64.ofInt r) (Int64.ofInt r)) :: []))
  rw [e1]
  exact lv_if_eq (tgt := 405) hx hb dL_law_400 (by decide) (fun _ => hend) (fun hne => absurd rfl hne)
theorem vx_to {R : Room} {args : Array Value} {H : Heap} {locs : List Loc} {cells slots mc ms : Nat} {g : JFrame} {rest : List Value} {Qa : State → Outcome → State → Prop} {free : Addr → Prop} (h : vx_Run p l e R s m args below meth c H locs cells slots mc ms g rest Qa ll_X free) : va_Run p l e R s m args below meth c H locs cells slots mc ms g rest Qa free := fun T hT X => by
  rcases h T hT X with h | ⟨q, st₀, t, T', Lo, E, ce, _, _, _, _, _, ⟨u, hx, _⟩, _⟩
  · exact h
  · exact hx.elim
theorem ll_cw {rm : Room} {mc ms : Nat} {args : Array Value} (hts : ∀ w ∈ z_tbl, w.before args s = true) (h1 : rm.cells = mc) (h2 : rm.slots = ms) (h3 : rm.frames + 1 ≤ room_1.frames) (h4 : 8 + (5 + 11) + rm.locals ≤ room_1.locals) : vx_CSW room_1 s args RL 39 yL_look cL_look 5 (some .int) ll_H ll_W rm mc ms 4 :=
  ⟨⟨h1, h2, h3, h4, pay_in hts ll_good, List.mem_cons_self⟩, hts _ ll_code, hts _ ll_ini, ⟨by decide +kernel, by decide +kernel⟩, fun sig h => by
    have h2 : (parseMethodDescriptor yL_look.desc).map (fun d => d.parameters.length) = some 4 := by decide +kernel
    rw [h] at h2
    exact (Option.some.inj h2).symm, hts _ (z_in (i := 1317) (by decide +kernel) rfl), hts _ (z_in (i := 1318) (by decide +kernel) rfl)⟩
set_option maxHeartbeats 2000000 in
theorem lw_look (hst : l.stackTraces = false) (hK : lw_Kx p l e s m b below meth c D α γ L xs) {g : Nat × Nat} (hE : lk_E g (fun q => s.heap.size ≤ q) s s.heap) : lw_Lk p l e s m b below meth c D α γ L 1 6 := by
  intro q nc ns M H locs ls hq n1 n2 hH hI hR hl
  have hC := hK.1 nc ns (by omega) (by omega)
  obtain ⟨hKx, hX, hbl, hL⟩ := id hK
  have hx := hC.1
  have hb := hC.2.1
  have h0 := lv_at hl 0 rfl
  have h4 := lv_at hl 4 rfl
  have hTM : z_TM 117 zTy zLa M := hR.2.2.2
  have hts : ∀ w ∈ z_tbl, w.before #[Value.ref b] s = true := hC.2.2.2.2.1
  have hKn : z_Kn D γ 117 zTy zLa s := hC.2.2.2.2.2.2.2.1
  refine lv_aload_n hx hb dL_law_340 rfl (lv_at hl 1 rfl) ?_
  refine ((lw_arg (j := 1) hC hX hbl rfl hL h0 h4 (by omega) dL_law_341 dL_law_342 dL_law_344 dL_law_345 dL_law_346).app (lw_arg (j := 2) hC hX hbl rfl hL h0 h4 (by omega) dL_law_347 dL_law_348 dL_law_350 dL_law_351 dL_law_352)) M H locs _ hR ?_
  refine lv_aload_n hx hb dL_law_353 rfl (lv_at hl 3 rfl) ?_
  rcases i_look hI (xs (6 * q + 1)).toInt (xs (6 * q + 2)).toInt with ⟨v, ef, M2, eg, t0, o0, hI2⟩ | ⟨k, L', M2, hk, hev, eg, tk, hI2⟩
  · refine z_back (X := lwX p l e s m b below meth c D α γ nc ns) (r := ([zI 0], z_wr M 116 0 v)) hR (vx_to (vx_runSX (As := [.ref (α 0), .int (Int32.ofInt (xs (6 * q + 1)).toInt), .int (Int32.ofInt (xs (6 * q + 2)).toInt), .ref (α 116)]) (rest := []) ⟨hx, hb, hC.2.2.1, hC.2.2.2.1, hts⟩ (ll_ret l D s.heap.size α γ M _ _ v (z_rti _) (z_rti _) hTM ef) (ll_cw hts rfl rfl (by decide) (by decide)) ⟨z_blind, fun U hU hWm => ⟨rfl, by rw [hU]; exact hR.1, hR.2.1, z_Kn.warm hWm hKn⟩⟩ rfl rfl hl.1 rfl (lv_room (Nat.le_of_ble_eq_true rfl)) dL_law_354 ⟨by show nc + 0 ≤ 1143; omega, by show ns + 0 ≤ 15636; omega⟩)) (fun H1 locs1 hR1 _ => ?_)
    exact lw_lk2 hK hq (Nat.le_add_right _ _) (Nat.le_add_right _ _) n1 n2 hH (Or.inl rfl) eg t0 (fun _ => o0) hI2 hR1 hl
  · refine vx_calli (vx_runSX (As := [.ref (α 0), .int (Int32.ofInt (xs (6 * q + 1)).toInt), .int (Int32.ofInt (xs (6 * q + 2)).toInt), .ref (α 116)]) (rest := []) ⟨hx, hb, hC.2.2.1, hC.2.2.2.1, hts⟩ (ll_thr l hst D s.heap.size α γ M g _ _ (z_rti _) (z_rti _) hTM hk hev) (ll_cw hts rfl rfl (by decide) (by decide)) ⟨lk_blind, fun U hU hWm => ⟨rfl, by rw [hU]; exact hR.1, hR.2.1, z_Kn.warm hWm hKn, by rw [hU]; exact lk_E.warm hWm (lk_E.kept hR.2.2.1.2.1 hE)⟩⟩ rfl rfl hl.1 rfl (lv_room (Nat.le_of_ble_eq_true rfl)) dL_law_354 ⟨by show nc + 1 ≤ 1143; omega, by show ns + 6 ≤ 15636; omega⟩) hR.2.2.1 (fun _ _ h => h) (fun _ h => h) (fun _ _ h => h.elim) (fun E ce q9 u t H1 locs1 _ _ hpx => hpx.elim) (fun r u t H1 locs1 ht hvm hp hB hz hk1 hS1 => ?_)
    have hp : r = Int32.ofInt (k : Int) := hp
    subst hp
    have hP1 : va_P D vwCl (z_ws α γ 117 zTy zLa M) t.heap := hB
    rw [ht] at hP1
    have hR1 : z_Rl (lwX p l e s m b below meth c D α γ (nc + 1) (ns + 6)) M H1 locs1 := ⟨hP1, hR.2.1, hS1, hTM⟩
    have k3 : (k : Int) = 0 ∨ (k : Int) = 1 ∨ (k : Int) = 2 := by omega
    exact lw_lk2 hK hq (Nat.le_refl _) (Nat.le_refl _) n1 n2 hH k3 eg tk (fun h => absurd h (by omega)) hI2 hR1 hl
/-! what the start gives to look -/
theorem st_lk {args : Array Value} (h : (Jvm.Cond.and given_1 narrow_1).before args s = true) (ht : ∀ w ∈ lw_tbl, w.before args s = true) : ∃ g : Nat × Nat, lk_E g (fun q => s.heap.size ≤ q) s s.heap := by
  have hA : ∀ a : Nat, a < s.heap.size → ¬ (fun q => s.heap.size ≤ q) a := fun a h => Nat.not_le.mpr h
  have w1 : (Cond.exactly (Term.string RX11 109) "java/lang/String").before args s = true := st_in h (i := 175) (by decide +kernel)
  have w2 : (Cond.exactly (Term.string RX11 129) "java/lang/String").before args s = true := st_in h (i := 193) (by decide +kernel)
  obtain ⟨sa, _, _, _, ea, _⟩ := Cond.exactly_spec (show (Cond.exactly (Term.string RX11 109) "java/lang/String").holds args s none s [] = true from w1)
  obtain ⟨sb, _, _, _, eb, _⟩ := Cond.exactly_spec (show (Cond.exactly (Term.string RX11 129) "java/lang/String").holds args s none s [] = true from w2)
  have tb : ∀ {w : Cond} {i : Nat}, lw_tbl[i]? = some w → w.before args s = true := fun hi => ht _ (List.mem_of_getElem? hi)
  exact ⟨(sa, sb), vk_R.of (tb (i := 1366) (by decide +kernel)) ea, vk_R.of (tb (i := 1401) (by decide +kernel)) eb, vx_Zqof (tb (i := 1353) (by decide +kernel)) (tb (i := 194) (by decide +kernel)) (st_in h (i := 9) (by decide +kernel)) hA, vx_Zqof (tb (i := 1355) (by decide +kernel)) (tb (i := 194) (by decide +kernel)) (st_in h (i := 10) (by decide +kernel)) hA, fun w hw => va_Nw.of (lk_ot w hw) (ht w (lk_Bt w hw)), va_Nc.of (st_in h (i := 24) (by decide +kernel))⟩
end
end
