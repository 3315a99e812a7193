section
/-! ===== the law: its start ===== -/
theorem z_fv_eq {n : Nat} {τ : Nat → Nat} {α α' : Nat → Nat} (hα : ∀ i : Nat, i < n → α' i = α i) {k : Nat} {x : Int} (h : z_okk n τ k x) : z_fv α' k x = z_fv α k x := by
  rcases k with _ | _ | k
  · rfl
  · rfl
  · have h2 : 0 ≤ x ∧ x.toNat < n ∧ τ x.toNat = k := h
    show Value.ref (α' x.toNat) = Value.ref (α x.toNat)
    rw [hα _ h2.2.1]
theorem z_cell_eq {n i : Nat} {τ : Nat → Nat} {Λ : Int → Int} {M : zM} {α α' : Nat → Nat} (hα : ∀ i : Nat, i < n → α' i = α i) (hT : z_TM n τ Λ M) (hi : i < n) (hτ : τ i < 16) {row : Int → Int} (hr : row = M i) {cA : ClassId} {len : Nat} : z_cell α' (τ i) len row cA = z_cell α (τ i) len (M i) cA := by
  subst hr
  unfold z_cell
  by_cases h1 : τ i = 13
  · rw [if_pos h1, if_pos h1]
  · rw [if_neg h1, if_neg h1]
    by_cases h2 : τ i = 14
    · rw [if_pos h2, if_pos h2]
    · rw [if_neg h2, if_neg h2]
      by_cases h3 : τ i = 15
      · rw [if_pos h3, if_pos h3]
      · rw [if_neg h3, if_neg h3]
        have ht : τ i < 13 := by omega
        have e : (z_fld (τ i)).mapIdx (fun j k => z_fv α' k (M i j)) = (z_fld (τ i)).mapIdx (fun j k => z_fv α k (M i j)) := by
          apply List.ext_getElem?
          intro j
          rw [List.getElem?_mapIdx, List.getElem?_mapIdx]
          cases e : (z_fld (τ i))[j]? with
          | none => rfl
          | some k =>
            show some (z_fv α' k (M i j)) = some (z_fv α k (M i j))
            rw [z_fv_eq hα ((hT i hi).1 ht j k e)]
        rw [e]
theorem z_ws_grow {n : Nat} {τ : Nat → Nat} {Λ : Int → Int} {M M' : zM} {α α' : Nat → Nat} {γ γ' : Nat → ClassId} (hT : z_TM n τ Λ M) (hτ : ∀ i : Nat, i < n → τ i < 16) (hα : ∀ i : Nat, i < n → α' i = α i) (hγ : ∀ i : Nat, i < n → γ' i = γ i) (hM : ∀ i : Nat, i < n → M' i = M i) : z_ws α' γ' n τ Λ M' = z_ws α γ n τ Λ M := by
  unfold z_ws
  apply List.map_congr_left
  intro i hi
  have hi : i < n := List.mem_range.mp hi
  show (α' i, z_cell α' (τ i) (Λ i).toNat (M' i) (γ' i)) = (α i, z_cell α (τ i) (Λ i).toNat (M i) (γ i))
  rw [hα i hi, hγ i hi, z_cell_eq hα hT hi (hτ i hi) (hM i hi)]
/-- the memory with the law's array beside it -/
def mZ (M : zM) : zM := fun a k => if a = 116 then 0 else M a k
theorem mZ_ne {M : zM} {a : Int} (h : a ≠ 116) : mZ M a = M a := funext fun k => if_neg h
theorem mZ_lt {M : zM} {i : Nat} (h : i < 116) : mZ M i = M i := mZ_ne (by omega)
theorem zTy16 : ∀ i : Nat, i < 117 → zTy i < 16 := by decide +kernel
theorem mZ_ws {α : Nat → Nat} {γ : Nat → ClassId} {M : zM} (hT : z_TM 116 zTy zLa M) (q : Nat) (cA : ClassId) : z_ws (al2 116 α (fun _ => q)) (al2 116 γ (fun _ => cA)) 117 zTy zLa (mZ M) = z_ws α γ 116 zTy zLa M ++ [(q, .inl (cA, ct_J 1 []))] := by
  have h := z_ws_add (al2 116 α (fun _ => q)) (al2 116 γ (fun _ => cA)) 116 1 zTy zLa (mZ M)
  have hg : z_ws (al2 116 α (fun _ => q)) (al2 116 γ (fun _ => cA)) 116 zTy zLa (mZ M) = z_ws α γ 116 zTy zLa M := z_ws_grow hT (fun i hi => zTy16 i (by omega)) (fun i hi => al2_lt hi) (fun i hi => al2_lt hi) (fun i hi => mZ_lt hi)
  rw [hg] at h
  exact h
theorem mZ_TM {M : zM} (hT : z_TM 116 zTy zLa M) : z_TM 117 zTy zLa (mZ M) := by
  intro i hi
  by_cases hl : i < 116
  · rw [mZ_lt hl]
    obtain ⟨h1, h2, h3⟩ := hT i hl
    refine ⟨fun ht j k hk => ?_, h2, h3⟩
    have h := h1 ht j k hk
    rcases k with _ | _ | k
    · exact h
    · exact h
    · have h4 : 0 ≤ M i j ∧ (M i j).toNat < 116 ∧ zTy (M i j).toNat = k := h
      have h5 : 0 ≤ M i j ∧ (M i j).toNat < 117 ∧ zTy (M i j).toNat = k := ⟨h4.1, by omega, h4.2.2⟩
      exact h5
  · have e : i = 116 := by omega
    subst e
    have z : zTy 116 = 15 := rfl
    refine ⟨fun h => ?_, fun h => ?_, fun _ j _ => ?_⟩
    · rw [z] at h; omega
    · rw [z] at h; omega
    · show z_rJ (0 : Int)
      exact ⟨by decide, by decide⟩
theorem mZ_Sm (M : zM) : Sm M (mZ M) := fun a k h => by
  by_cases e : a = 116
  · exact absurd (Or.inr (Or.inl ⟨by omega, by omega⟩)) h
  · rw [mZ_ne e]
theorem gI.sm {M M' : zM} (hs : Sm M M') (h : gI M) : gI M' := by
  obtain ⟨c, V, h1, h2, h3, h4⟩ := h
  exact ⟨c, V, h1.sm hs, h2.sm hs, h3, h4⟩
theorem df12 : ∀ j, j < 66 → defaultValue (tyX12 j) = vp_V mdF j := fun j hj => match j, hj with | 0, _ => rfl | 1, _ => ct_i0 | 2, _ => ct_i0 | 3, _ => rfl | 4, _ => ct_i0 | 5, _ => ct_i0 | 6, _ => ct_i0 | 7, _ => ct_i0 | 8, _ => ct_i0 | 9, _ => ct_i0 | 10, _ => ct_i0 | 11, _ => ct_i0 | 12, _ => ct_i0 | 13, _ => ct_i0 | 14, _ => ct_i0 | 15, _ => ct_i0 | 16, _ => ct_i0 | 17, _ => ct_i0 | 18, _ => ct_i0 | 19, _ => ct_i0 | 20, _ => ct_i0 | 21, _ => rfl | 22, _ => rfl | 23, _ => rfl | 24, _ => rfl | 25, _ => rfl | 26, _ => rfl | 27, _ => rfl | 28, _ => rfl | 29, _ => rfl | 30, _ => rfl | 31, _ => rfl | 32, _ => rfl | 33, _ => rfl | 34, _ => rfl | 35, _ => rfl | 36, _ => rfl | 37, _ => rfl | 38, _ => rfl | 39, _ => rfl | 40, _ => rfl | 41, _ => rfl | 42, _ => rfl | 43, _ => rfl | 44, _ => ct_i0 | 45, _ => ct_i0 | 46, _ => ct_i0 | 47, _ => ct_i0 | 48, _ => ct_i0 | 49, _ => ct_i0 | 50, _ => rfl | 51, _ => rfl | 52, _ => ct_i0 | 53, _ => ct_i0 | 54, _ => ct_i0 | 55, _ => ct_i0 | 56, _ => ct_b0 | 57, _ => ct_b0 | 58, _ => ct_j0 | 59, _ => ct_j0 | 60, _ => rfl | 61, _ => rfl | 62, _ => rfl | 63, _ => rfl | 64, _ => ct_b0 | 65, _ => ct_j0 | _ + 66, h => absurd h (by omega)
theorem df11 : ∀ j, j < 8 → defaultValue (tyX11 j) = vp_V [.null, .null, .int (Int32.ofInt 0), .int (Int32.ofInt 0), .int (Int32.ofInt 0), .null, .null, .null] j := fun j hj => match j, hj with | 0, _ => rfl | 1, _ => rfl | 2, _ => ct_i0 | 3, _ => ct_i0 | 4, _ => ct_i0 | 5, _ => rfl | 6, _ => rfl | 7, _ => rfl | _ + 8, h => absurd h (by omega)
theorem kn_117 {D : va_G} {γ : Nat → ClassId} {s : State} {cA : ClassId} (h : z_Kn D γ 116 zTy zLa s) (hK : va_K D vwCl [(cA, .long)] s) : z_Kn D (al2 116 γ (fun _ => cA)) 117 zTy zLa s := by
  refine ⟨h.1, ⟨fun i hi => m0_La i (by omega), h.2.1.2⟩, fun i hi => ?_⟩
  by_cases hl : i < 116
  · rw [al2_lt hl]; exact h.2.2 i hl
  · have e : i = 116 := by omega
    subst e
    have z : zTy 116 = 15 := rfl
    refine ⟨fun h => ?_, fun h => ?_, fun _ => hK⟩
    · rw [z] at h; omega
    · rw [z] at h; omega
theorem sk_X11i : Cond.code yX11_init cX11_init 1 none ∈ z_tbl := z_in (i := 204) (by decide +kernel) rfl
theorem sk_X12t : Cond.code yX12_init cX12_init 1 none ∈ tables_1_6 := List.mem_of_getElem? (i := 37) rfl
theorem sk_X12u : Cond.code yX12_init cX12_init 1 none ∈ tables_1 := List.mem_append_right _ (List.mem_append_right _ (List.mem_append_right _ (List.mem_append_right _ (List.mem_append_right _ (List.mem_append_left _ sk_X12t)))))
theorem sk_X12i : Cond.code yX12_init cX12_init 1 none ∈ z_tbl := List.mem_filter.mpr ⟨List.mem_append_right _ sk_X12u, rfl⟩
set_option maxHeartbeats 4000000 in
theorem lw_begin {p : Program} {e : Env} {s : State} {m : MethodId} {below : List Frame} {meth : Method} {c : Code} {l : Launch} {b L : Nat} {xs : Nat → Int32} (hL : L ≤ 3072) (C0 : lw_At p s m meth c b L xs) (hgo : ∀ (D : va_G) (α : Nat → Nat) (γ : Nat → ClassId), lw_Kx p l e s m b below meth c D α γ L xs → lw_Hd p l e s m b below meth c D α γ 0 117 7432) : W p l e room_1 s m #[Value.ref b] below meth c s.heap [] 0 0 (lw_Z below #[Value.ref b] s) (entryFrame m ([Value.ref b] : List Value).toArray 7) := by
  obtain ⟨hx, hb, hr, hml, hown, hts0, hX, hbl, hlocks, hgv⟩ := id C0
  have hts : ∀ w ∈ z_tbl, w.before #[Value.ref b] s = true := fun w hw => hts0 w (List.mem_filter.mp hw).1
  have hNn : z_Nn s := fun w hw => va_Nw.of (z_nst_tab hw) (hts0 w (List.mem_filter.mp hw).1)
  have hown : s.vm.findClass RL = some m.cls := hown
  obtain ⟨D, hK⟩ := st_K hts
  obtain ⟨g, hE⟩ := st_E hgv hts0
  have hA : ∀ q : Nat, s.heap.size ≤ q → (fun q : Nat => s.heap.size ≤ q) q := fun _ h => h
  have hl := lv_entry ([.ref b]) (n := 7) (Nat.le_of_ble_eq_true rfl)
  rw [lg_entry_eq]
  generalize (lg_sl ([.ref b]) ++ List.replicate (7 - (lg_sl ([.ref b])).length) Slot.unset).toArray = ls at hl ⊢
  have hl : lv_has ls 7 [(0, .ref b)] := hl
  refine va_new (ws := []) (A := fun q => s.heap.size ≤ q) (H0 := s.heap) (tys := []) (ci := 11) (fs := [.null, .null, .int (Int32.ofInt 0), .int (Int32.ofInt 0), .int (Int32.ofInt 0), .null, .null, .null]) (own := RL) (C := RX11) (T := TX11) (N := 8) hx hb hts z_inX11 tyX11 tyX11_ok hown (hts _ (z_in (i := 200) (by decide +kernel) rfl)) (hts _ (z_in (i := 201) (by decide +kernel) rfl)) (hts _ lwi_X11) hK (fun k x h => by simp at h) ⟨fun i j a b h1 => by simp at h1, fun k q h => by simp at h⟩ va_S.rf hA rfl df11 (by decide) (by decide) dL_law_0 (fun q1 H1 hP1 hD1 hS1 => ?_)
  refine lv_dup hx hb dL_law_3 rfl ?_
  have hP1 : va_P D vwCl [(q1, .inr (11, [.null, .null, .int (Int32.ofInt 0), .int (Int32.ofInt 0), .int (Int32.ofInt 0), .null, .null, .null]))] H1 := hP1
  have hD1 : va_D (fun q => s.heap.size ≤ q) [(q1, (.inr (11, [.null, .null, .int (Int32.ofInt 0), .int (Int32.ofInt 0), .int (Int32.ofInt 0), .null, .null, .null]) : va_E))] := hD1
  have hF1 := va_free (wc := [(q1, .inr (11, [.null, .null, .int (Int32.ofInt 0), .int (Int32.ofInt 0), .int (Int32.ofInt 0), .null, .null, .null]))]) hD1 hS1 hA [0] rfl
  have hT1 : va_D (fun _ => True) [(q1, (.inr (11, [.null, .null, .int (Int32.ofInt 0), .int (Int32.ofInt 0), .int (Int32.ofInt 0), .null, .null, .null]) : va_E))] := hD1.weaken (fun _ _ _ _ => trivial)
  have cw1 : CallB room_1 s #[Value.ref b] RL 17 yX11_init cX11_init 1 none (z_ws1 yX11_init cX11_init 1 none) { frames := 7, cells := 83, slots := 4873, locals := 266 } 83 4873 0 := callB_of 0 hts (z_goodIn sk_X11i) rfl rfl rfl (hts _ lwi_X11) (hts _ (z_in (i := 202) (by decide +kernel) rfl)) ⟨by decide +kernel, by decide +kernel, by decide +kernel⟩ ⟨by decide, by decide⟩
  refine va_callv (va_runI (As := []) (rest := [.ref q1]) ⟨hx, hb, hml, hown, hts⟩ (ci_X11 l D g q1 H1.size) ⟨cw1, rfl, (hts _ (z_in (i := 203) (by decide +kernel) rfl))⟩ ⟨fun a U g2 mk z => by obtain ⟨z0, z1, z2, ⟨z3, z4, z6⟩, z5⟩ := z; exact ⟨z0, z1, z2, ⟨va_K.moved (u := U) (U := U.calling g2 mk a) (Vm.Alike.refl U.vm) z3, z_Nn.same (u := U) rfl z4, sg_E.same (u := U) (U := U.calling g2 mk a) rfl z6⟩, z5⟩, fun U hU hWm => ⟨rfl, by rw [hU], by rw [hU]; exact hP1, ⟨va_K.moved hWm.alike hK, z_Nn.warm hWm hNn, by show sg_E g _ U U.heap; rw [hU]; exact ((hE.kept hS1.2.1).nar hF1).warm hWm⟩, hT1⟩⟩ rfl rfl hl.1 rfl (lv_room (Nat.le_of_ble_eq_true rfl)) dL_law_4 ⟨by decide, by decide⟩) hS1 (fun z _ h => hF1 z h) hF1 (fun u t' H2 locs2 ht hvm hw hB hz1 hk1 hS2 => ?_)
  obtain ⟨α, γ⟩ := u
  obtain ⟨hP2, hK2, hD2⟩ := hB
  have hw : α 0 = q1 := hw
  have hP2 : va_P D vwCl (shX11 α γ) t'.heap := hP2
  have hK2 : va_K D vwCl (tyX11s γ) t' := hK2
  have hD2 : va_D _ (shX11 α γ) := hD2
  rw [ht, sh_11] at hP2
  rw [sh_11] at hD2
  have hD2 : va_D (fun q => s.heap.size ≤ q) (z_ws α γ 84 zTy zLa M0) := hD2.weaken (fun _ q _ h => hF1 q.1 h)
  have hKc : z_Kn D γ 84 zTy zLa s := cl_K hNn (va_K.moved hvm.symm hK2)
  refine lv_astore_n (lv' := [(1, .ref q1), (0, .ref b)]) hx hb dL_law_7 rfl hl (by decide) rfl (fun ls hl => ?_)
  refine va_new (A := fun q => s.heap.size ≤ q) (H0 := s.heap) (tys := []) (ci := 12) (fs := mdF) (own := RL) (C := RX12) (T := TX12) (N := 66) hx hb hts z_inX12 tyX12 tyX12_ok hown (hts _ (z_in (i := 1408) (by decide +kernel) rfl)) (hts _ (z_in (i := 1409) (by decide +kernel) rfl)) (hts _ lwi_X12) hK hP2 hD2 hS2 hA rfl df12 (by decide) (by decide) dL_law_8 (fun q2 H3 hP3 hD3 hS3 => ?_)
  refine lv_dup hx hb dL_law_11 rfl ?_
  have cw2 : CallB room_1 s #[Value.ref b] RL 20 yX12_init cX12_init 1 none (z_ws1 yX12_init cX12_init 1 none) { frames := 2, cells := 31, slots := 2484, locals := 76 } 31 2484 0 := callB_of 0 hts (z_goodIn sk_X12i) rfl rfl rfl (hts _ lwi_X12) (hts _ (z_in (i := 1410) (by decide +kernel) rfl)) ⟨by decide +kernel, by decide +kernel, by decide +kernel⟩ ⟨by decide, by decide⟩
  refine va_callv (va_runI (As := []) (rest := [.ref q2]) ⟨hx, hb, hml, hown, hts⟩ (md_met l D s.heap.size q2 H3.size α γ hS3.1) ⟨cw2, rfl, (hts _ (z_in (i := 1411) (by decide +kernel) rfl))⟩ ⟨fun a U g2 mk z => by obtain ⟨z0, z1, z2, z3, z4⟩ := z; exact ⟨z0, z1, z2, z3, z_Kn.same (u := U) rfl z4⟩, fun U hU hWm => ⟨rfl, by rw [hU], by rw [hU]; exact hP3, hD3, z_Kn.warm hWm hKc⟩⟩ rfl rfl hl.1 rfl (lv_room (Nat.le_of_ble_eq_true rfl)) dL_law_12 ⟨by decide, by decide⟩) hS3 (fun z _ h => h) (fun z h => h) (fun u t2 H4 locs4 ht2 hvm2 hw2 hB2 hz2 hk2 hS4 => ?_)
  obtain ⟨β, δ, m2⟩ := u
  obtain ⟨hw2, hI, hT⟩ := hw2
  obtain ⟨hP4, hD4, hK4⟩ := hB2
  have hw2 : β 0 = q2 := hw2
  have hI : gI m2 := hI
  have hT : z_TM 116 zTy zLa m2 := hT
  have hP4 : va_P D vwCl (z_ws (al2 84 α β) (al2 84 γ δ) 116 zTy zLa m2) t2.heap := hP4
  have hD4 : va_D (fun q => s.heap.size ≤ q) (z_ws (al2 84 α β) (al2 84 γ δ) 116 zTy zLa m2) := hD4
  have hK4 : z_Kn D (al2 84 γ δ) 116 zTy zLa t2 := hK4
  have hK4 : z_Kn D (al2 84 γ δ) 116 zTy zLa s := z_Kn.moved0 hvm2.symm hNn hK4
  rw [ht2] at hP4
  refine lv_astore_n (lv' := [(2, .ref q2), (1, .ref q1), (0, .ref b)]) hx hb dL_law_15 rfl hl (by decide) rfl (fun ls hl => ?_)
  refine lv_iconst (v := 1) hx hb dL_law_16 (by decide) ?_
  refine va_newa (a0 := ct_J 1 []) (N' := 1) (ty := .long) (tys := []) hx hb (hts _ ct_hJ) rfl hK hP4 hD4 hS4 hA (ct_aJ 1) (by decide) (by decide) (by decide) (by decide) (by decide) dL_law_17 (fun q3 cA H5 hK5 hP5 hD5 hS5 => ?_)
  refine lv_astore_n (lv' := [(3, .ref q3), (2, .ref q2), (1, .ref q1), (0, .ref b)]) hx hb dL_law_19 rfl hl (by decide) rfl (fun ls hl => ?_)
  refine lv_iconst (v := nI 0) hx hb dL_law_20 (by decide) ?_
  refine lv_istore (lv' := [(4, .int (nI 0)), (3, .ref q3), (2, .ref q2), (1, .ref q1), (0, .ref b)]) hx hb dL_law_21 hl (by decide) rfl (fun ls hl => ?_)
  rw [← mZ_ws hT] at hP5 hD5
  have hK7 : z_Kn D (al2 116 (al2 84 γ δ) (fun _ => cA)) 117 zTy zLa s := kn_117 hK4 hK5
  have hKx : lw_Kx p l e s m b below meth c D (al2 116 (al2 84 α β) (fun _ => q3)) (al2 116 (al2 84 γ δ) (fun _ => cA)) L xs := ⟨fun nc ns h1 h2 => ⟨hx, hb, hml, hown, hts, hlocks, hr, hK7, ⟨h1, h2, Nat.le_of_ble_eq_true rfl, Nat.le_of_ble_eq_true rfl⟩, fun _ h => h.elim⟩, hX, hbl, hL⟩
  have a0 : al2 116 (al2 84 α β) (fun _ => q3) 0 = q1 := by rw [al2_lt (by decide), al2_lt (by decide)]; exact hw
  have a84 : al2 116 (al2 84 α β) (fun _ => q3) 84 = q2 := by rw [al2_lt (by decide)]; exact (al2_ge (n := 84) (i := 0)).trans hw2
  have a116 : al2 116 (al2 84 α β) (fun _ => q3) 116 = q3 := al2_ge (n := 116) (i := 0)
  refine hgo D _ _ hKx (mZ m2) H5 locs4 ls (hI.sm (mZ_Sm m2)) ⟨hP5, hD5, hS5, mZ_TM hT⟩ ?_
  show lv_has ls 7 [(0, .ref b), (1, .ref (al2 116 (al2 84 α β) (fun _ => q3) 0)), (2, .ref (al2 116 (al2 84 α β) (fun _ => q3) 84)), (3, .ref (al2 116 (al2 84 α β) (fun _ => q3) 116)), (4, .int (nI 0))]
  rw [a0, a84, a116]
  exact lv_sub hl [4, 3, 2, 1, 0] rfl
end
