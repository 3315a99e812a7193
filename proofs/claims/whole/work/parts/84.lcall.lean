section
/-! ===== the law's own body: its context, its script, its calls ===== -/
abbrev lwX (p : Program) (l : Launch) (e : Env) (s : State) (m : MethodId) (b : Nat) (below : List Frame) (meth : Method) (c : Code) (D : va_G) (α : Nat → Nat) (γ : Nat → ClassId) (nc ns : Nat) : zX := ((p, l, e, room_1, s), (m, #[Value.ref b], below, meth, c), (nc, ns, lw_Z below #[Value.ref b] s), (D, s.heap.size, α, γ), (117, zTy, zLa), fun _ => False)
theorem and31 (y : Int32) : 0 ≤ (y &&& 31).toInt ∧ (y &&& 31).toInt < 32 := by
  have h : (y &&& 31).toBitVec.toNat ≤ 31 := by
    show (y.toBitVec &&& (31 : Int32).toBitVec).toNat ≤ 31
    rw [BitVec.toNat_and]
    exact Nat.and_le_right
  have e : (y &&& 31).toInt = ((y &&& 31).toBitVec.toNat : Int) := BitVec.toInt_eq_toNat_of_lt (by omega)
  omega
section
variable {X : zX} {own : String} {cc : ByteArray} {nL : Nat} {ret1 : Option FieldType} {kd : Nat} {pc : Nat}
/-- a call of a method of the world, at these locals -/
theorem z_callL (hC : z_Cx X own cc nL ret1 kd) {y : MethodName} {c2 : ByteArray} {nL2 np k ix t N : Nat} {ret2 : Option FieldType} {f : zD} {T : u_T} (hM : z_Sim y c2 nL2 ret2 k f) (hc : z_Cl y c2 nL2 ret2 k kd np) (hin : Cond.instanceMethod y ∈ z_tbl) (hse : Cond.selects y.cls y y ∈ z_tbl) (hcl : vwCl[t]? = some (y.cls, T, N)) (ht : t < 13) (hl : Cond.methodLink own ix y ∈ z_tbl) (hd : decode cc pc = .ok (.invokevirtual ix, 3)) {a : Int} {as : List zV} {M : zM} {q : List zV × zM} {H : Heap} {locs : List Loc} {ls : Array Slot} {rest : List Value} (hf : f (x_La X) (zA t a :: as) M = some q) (hoka : ∀ v ∈ (zA t a :: as), x_ok X v) (hlen : as.length = np) (hR : z_Rl X M H locs) (hsz : ls.size = nL) (hw : (rest.map fun v => v.category).sum ≤ 8)
    (kk : ∀ (H1 : Heap) (locs1 : List Loc), z_Rl X q.2 H1 locs1 → (∀ v ∈ q.1, x_ok X v) → x_W X H1 locs1 (F0 (x_m X) (pc + 3) ls (q.1.map (z_cv (x_al X)) ++ rest))) : x_W X H locs (F0 (x_m X) pc ls ((as.map (z_cv (x_al X))).reverse ++ .ref (x_al X a.toNat) :: rest)) := by
  have hMet := hM (x_l X) (x_D X) (x_bs X) (x_al X) (x_ga X) (x_n X) (x_ty X) (x_La X) (zA t a :: as) M q hf hoka hR.2.2.2
  have hro := z_roomok hC hc.2.2.2.1 hc.2.2.2.2
  obtain ⟨hx, hb, hml, hown, hts, hlk, hrt, hK, hrm, hQ⟩ := hC
  have ha : x_ok X (zA t a) := hoka _ List.mem_cons_self
  have he : (x_ws X M)[a.toNat]? = some (x_al X a.toNat, .inr (t, (z_fld t).mapIdx (fun j k => z_fv (x_al X) k (M a j)))) := by
    obtain ⟨ha0, han, hat⟩ := ha
    rw [z_ws_get han, hat, z_cell_obj ht]
    rw [Int.toNat_of_nonneg ha0]
  have hPre : PreV (x_s X) H y.cls (x_al X a.toNat) (va_Pc ((zA t a :: as).map (z_cv (x_al X))) (fun U => va_P (x_D X) vwCl (x_ws X M) U.heap ∧ va_D (x_A X) (x_ws X M) ∧ z_Kn (x_D X) (x_ga X) (x_n X) (x_ty X) (x_La X) U)) (as.map (z_cv (x_al X))) := ⟨z_blind, va_recv hK.1 hR.1 hcl he, fun U hU hWm => ⟨rfl, by rw [hU]; exact hR.1, hR.2.1, z_Kn.warm hWm hK⟩⟩
  have hlen' : (as.map (z_cv (x_al X))).length = np := by rw [List.length_map]; exact hlen
  have cw : CallB (x_R X) (x_s X) (x_a X) own ix y c2 nL2 ret2 (z_ws1 y c2 nL2 ret2) (z_room k) 0 0 np := callB_of np hts (z_goodIn hc.1) rfl rfl rfl (hts _ hc.2.1) (hts _ hl) hc.2.2.1 hro
  exact z_back hR (va_runV (C := y.cls) (b := x_al X a.toNat) (As := as.map (z_cv (x_al X))) (rest := rest) ⟨hx, hb, hml, hown, hts⟩ hMet ⟨cw, hts _ hin, hts _ hse⟩ hPre rfl hlen' hsz rfl (lv_room hw) hd ⟨hrm.1, hrm.2.1⟩) kk
/-- numbers put on the stack, one behind the other -/
def lw_Ld (X : zX) (ls : Array Slot) (pc pc2 : Nat) (as : List zV) : Prop := ∀ (M : zM) (H : Heap) (locs : List Loc) (rest : List Value), z_Rl X M H locs → x_W X H locs (F0 (x_m X) pc2 ls ((as.map (z_cv (x_al X))).reverse ++ rest)) → x_W X H locs (F0 (x_m X) pc ls rest)
theorem lw_Ld.nil {ls : Array Slot} : lw_Ld X ls pc pc [] := fun _ _ _ _ _ h => h
theorem lw_Ld.app {ls : Array Slot} {pc2 pc3 : Nat} {as bs : List zV} (h1 : lw_Ld X ls pc pc2 as) (h2 : lw_Ld X ls pc2 pc3 bs) : lw_Ld X ls pc pc3 (as ++ bs) := fun M H locs rest hR h => h1 M H locs rest hR (h2 M H locs _ hR (by rw [List.map_append, List.reverse_append, List.append_assoc] at h; exact h))
/-- one number of the script -/
theorem lw_arg (hC : z_Cx X own code nL ret1 kd) {b L : Nat} {xs : Nat → Int32} (hX : va_X b L xs (x_s X) (x_s X).heap) (hbl : b < (x_s X).heap.size) (hbs : x_bs X = (x_s X).heap.size) (hL : L ≤ 3072) {ls : Array Slot} {i j : Nat} (h0 : ls[0]? = some (.val (.ref b))) (h4 : ls[4]? = some (.val (.int (nI i)))) (hj : i + j < L) (d0 : decode code pc = .ok (.aload_n 0, 1)) (d1 : decode code (pc + 1) = .ok (.iload 4, 2)) (d2 : decode code (pc + 1 + 2) = .ok (.iconst (j : Int), 1)) (d3 : decode code (pc + 1 + 2 + 1) = .ok (.iadd, 1)) (d4 : decode code (pc + 1 + 2 + 1 + 1) = .ok (.iaload, 1)) : lw_Ld X ls pc (pc + 1 + 2 + 1 + 1 + 1) [zI (xs (i + j)).toInt] := by
  intro M H locs rest hR kk
  obtain ⟨hx, hb, -⟩ := hC
  have hbA : ¬ x_A X b := by show ¬ x_bs X ≤ b; omega
  refine lv_aload_n hx hb d0 rfl h0 ?_
  refine lv_iload hx hb d1 h4 ?_
  refine lv_iconst (v := nI j) hx hb d2 (of_nat j) ?_
  refine lv_iadd hx hb d3 ?_
  rw [nI_add]
  refine va_sld hx hb hX hbl hbA hR.2.2.1 (vp_in_nI hj (by omega)) d4 ?_
  rw [nI_clamp (by omega)]
  have e : ([zI (xs (i + j)).toInt].map (z_cv (x_al X))).reverse ++ rest = .int (xs (i + j)) :: rest := by
    show Value.int (Int32.ofInt (xs (i + j)).toInt) :: rest = _
    rw [z_oft]
  rw [e] at kk
  exact kk
/-- a method of the class or of the reference, as the law calls it -/
def lw_Fn (y : MethodName) (c2 : ByteArray) (nL2 : Nat) (ret2 : Option FieldType) (k np t ix : Nat) (f : zD) : Prop := z_Sim y c2 nL2 ret2 k f ∧ z_Cl y c2 nL2 ret2 k 11 np ∧ Cond.instanceMethod y ∈ z_tbl ∧ Cond.selects y.cls y y ∈ z_tbl ∧ (∃ T N, vwCl[t]? = some (y.cls, T, N)) ∧ t < 13 ∧ Cond.methodLink RL ix y ∈ z_tbl
theorem lw_call (hC : z_Cx X RL code nL ret1 11) {y : MethodName} {c2 : ByteArray} {nL2 k np t ix : Nat} {ret2 : Option FieldType} {f : zD} (hF : lw_Fn y c2 nL2 ret2 k np t ix f) (hd : decode code pc = .ok (.invokevirtual ix, 3)) {a : Int} {as : List zV} {M : zM} {q : List zV × zM} {H : Heap} {locs : List Loc} {ls : Array Slot} {rest : List Value} (hf : f (x_La X) (zA t a :: as) M = some q) (hoka : ∀ v ∈ (zA t a :: as), x_ok X v) (hlen : as.length = np) (hR : z_Rl X M H locs) (hsz : ls.size = nL) (hw : (rest.map fun v => v.category).sum ≤ 8)
    (kk : ∀ (H1 : Heap) (locs1 : List Loc), z_Rl X q.2 H1 locs1 → (∀ v ∈ q.1, x_ok X v) → x_W X H1 locs1 (F0 (x_m X) (pc + 3) ls (q.1.map (z_cv (x_al X)) ++ rest))) : x_W X H locs (F0 (x_m X) pc ls ((as.map (z_cv (x_al X))).reverse ++ .ref (x_al X a.toNat) :: rest)) := by
  obtain ⟨h1, h2, h3, h4, ⟨T, N, h5⟩, h6, h7⟩ := hF
  exact z_callL hC h1 h2 h3 h4 h5 h6 h7 hd hf hoka hlen hR hsz hw kk
/-- a pair of calls with one int as their answer: the law goes on -/
theorem lw_pairI (hC : z_Cx X RL code 7 ret1 11) (hn : x_n X = 117) (hty : x_ty X = zTy) (hLa : x_La X = zLa) {M M1 M2 : zM} {H : Heap} {locs : List Loc} {ls : Array Slot} (hR : z_Rl X M H locs) (hsz : ls.size = 7) (h1 : ls[1]? = some (.val (.ref (x_al X 0)))) (h2 : ls[2]? = some (.val (.ref (x_al X 84)))) {as : List zV} (hok : ∀ v ∈ as, x_ok X v) {y y' : MethodName} {c2 c2' : ByteArray} {nL2 k ix nL2' k' ix' np : Nat} {ret2 ret2' : Option FieldType} {f g : zD} (hF : lw_Fn y c2 nL2 ret2 k np 11 ix f) (hG : lw_Fn y' c2' nL2' ret2' k' np 12 ix' g) (hnp : as.length = np) {r : List zV} (hr : ∃ v, r = [zI v]) (ef : f zLa (zA 11 0 :: as) M = some (r, M1)) (eg : g zLa (zA 12 84 :: as) M1 = some (r, M2))
    {pB pC tgt : Nat} {off : Int} (d0 : decode code pc = .ok (.aload_n 1, 1)) (l1 : lw_Ld X ls (pc + 1) pB as) (d1 : decode code pB = .ok (.invokevirtual ix, 3)) (d2 : decode code (pB + 3) = .ok (.aload_n 2, 1)) (l2 : lw_Ld X ls (pB + 3 + 1) pC as) (d3 : decode code pC = .ok (.invokevirtual ix', 3)) (d4 : decode code (pC + 3) = .ok (.if_icmp .eq off, 3)) (ht : ((pC + 3 : Nat) : Int) + off = (tgt : Int))
    (kk : ∀ (H1 : Heap) (locs1 : List Loc), z_Rl X M2 H1 locs1 → x_W X H1 locs1 (F0 (x_m X) tgt ls [])) : x_W X H locs (F0 (x_m X) pc ls []) := by
  obtain ⟨v, rfl⟩ := hr
  have hx := hC.1
  have hb := hC.2.1
  have o0 : x_ok X (zA 11 0) := by show 0 ≤ (0 : Int) ∧ (0 : Int).toNat < x_n X ∧ x_ty X (0 : Int).toNat = 11; rw [hn, hty]; exact ⟨by decide, by decide, by decide⟩
  have o84 : x_ok X (zA 12 84) := by show 0 ≤ (84 : Int) ∧ (84 : Int).toNat < x_n X ∧ x_ty X (84 : Int).toNat = 12; rw [hn, hty]; exact ⟨by decide, by decide, by decide⟩
  refine lv_aload_n hx hb d0 rfl h1 ?_
  refine l1 M H locs _ hR ?_
  refine lw_call hC hF d1 (a := 0) (q := ([zI v], M1)) (by rw [hLa]; exact ef) (fun w hw => by rcases List.mem_cons.mp hw with rfl | hw; exact o0; exact hok w hw) hnp hR hsz (by decide) (fun H1 locs1 hR1 hok1 => ?_)
  refine lv_aload_n hx hb d2 rfl h2 ?_
  refine l2 M1 H1 locs1 _ hR1 ?_
  refine lw_call hC hG d3 (a := 84) (q := ([zI v], M2)) (by rw [hLa]; exact eg) (fun w hw => by rcases List.mem_cons.mp hw with rfl | hw; exact o84; exact hok w hw) hnp hR1 hsz (by show (0 : Nat) + 1 ≤ 8; decide) (fun H2 locs2 hR2 _ => ?_)
  refine lv_icmp_eq hx hb d4 ht (fun _ => kk H2 locs2 hR2) (fun hne => absurd rfl hne)
/-- .. with one long -/
theorem lw_pairJ (hC : z_Cx X RL code 7 ret1 11) (hn : x_n X = 117) (hty : x_ty X = zTy) (hLa : x_La X = zLa) {M M1 M2 : zM} {H : Heap} {locs : List Loc} {ls : Array Slot} (hR : z_Rl X M H locs) (hsz : ls.size = 7) (h1 : ls[1]? = some (.val (.ref (x_al X 0)))) (h2 : ls[2]? = some (.val (.ref (x_al X 84)))) {as : List zV} (hok : ∀ v ∈ as, x_ok X v) {y y' : MethodName} {c2 c2' : ByteArray} {nL2 k ix nL2' k' ix' np : Nat} {ret2 ret2' : Option FieldType} {f g : zD} (hF : lw_Fn y c2 nL2 ret2 k np 11 ix f) (hG : lw_Fn y' c2' nL2' ret2' k' np 12 ix' g) (hnp : as.length = np) {r : List zV} (hr : ∃ v, r = [zJ v]) (ef : f zLa (zA 11 0 :: as) M = some (r, M1)) (eg : g zLa (zA 12 84 :: as) M1 = some (r, M2))
    {pB pC tgt : Nat} {off : Int} (d0 : decode code pc = .ok (.aload_n 1, 1)) (l1 : lw_Ld X ls (pc + 1) pB as) (d1 : decode code pB = .ok (.invokevirtual ix, 3)) (d2 : decode code (pB + 3) = .ok (.aload_n 2, 1)) (l2 : lw_Ld X ls (pB + 3 + 1) pC as) (d3 : decode code pC = .ok (.invokevirtual ix', 3)) (d4 : decode code (pC + 3) = .ok (.lcmp, 1)) (d5 : decode code (pC + 3 + 1) = .ok (.ifCond .eq off, 3)) (ht : ((pC + 3 + 1 : Nat) : Int) + off = (tgt : Int))
    (kk : ∀ (H1 : Heap) (locs1 : List Loc), z_Rl X M2 H1 locs1 → x_W X H1 locs1 (F0 (x_m X) tgt ls [])) : x_W X H locs (F0 (x_m X) pc ls []) := by
  obtain ⟨v, rfl⟩ := hr
  have hx := hC.1
  have hb := hC.2.1
  have o0 : x_ok X (zA 11 0) := by show 0 ≤ (0 : Int) ∧ (0 : Int).toNat < x_n X ∧ x_ty X (0 : Int).toNat = 11; rw [hn, hty]; exact ⟨by decide, by decide, by decide⟩
  have o84 : x_ok X (zA 12 84) := by show 0 ≤ (84 : Int) ∧ (84 : Int).toNat < x_n X ∧ x_ty X (84 : Int).toNat = 12; rw [hn, hty]; exact ⟨by decide, by decide, by decide⟩
  refine lv_aload_n hx hb d0 rfl h1 ?_
  refine l1 M H locs _ hR ?_
  refine lw_call hC hF d1 (a := 0) (q := ([zJ v], M1)) (by rw [hLa]; exact ef) (fun w hw => by rcases List.mem_cons.mp hw with rfl | hw; exact o0; exact hok w hw) hnp hR hsz (by decide) (fun H1 locs1 hR1 hok1 => ?_)
  refine lv_aload_n hx hb d2 rfl h2 ?_
  refine l2 M1 H1 locs1 _ hR1 ?_
  refine lw_call hC hG d3 (a := 84) (q := ([zJ v], M2)) (by rw [hLa]; exact eg) (fun w hw => by rcases List.mem_cons.mp hw with rfl | hw; exact o84; exact hok w hw) hnp hR1 hsz (by show (0 : Nat) + 2 ≤ 8; decide) (fun H2 locs2 hR2 _ => ?_)
  refine W.lcmp hx hb d4 ?_
  have e0 : lg_cmp (Int64.ofInt v) (Int64.ofInt v) = 0 := by unfold lg_cmp; simp
  show x_W X H2 locs2 (F0 (x_m X) (pC + 3 + 1) ls (.int (lg_cmp (Int64.ofInt v) (Int64.ofInt v)) :: []))
  rw [e0]
  exact lv_if_eq hx hb d5 ht (fun _ => kk H2 locs2 hR2) (fun hne => absurd rfl hne)
end
end
