theorem cf_X10_11 : ct_Fl RX10 11 10 0 RX10 TX10 13 tyX10 := ⟨rfl, z_inX10, by decide, z_in (i := 272) (by decide +kernel) rfl, rfl, tyX10_ok, nmX10⟩
theorem cf_X10_15 : ct_Fl RX10 15 10 1 RX10 TX10 13 tyX10 := ⟨rfl, z_inX10, by decide, z_in (i := 273) (by decide +kernel) rfl, rfl, tyX10_ok, nmX10⟩
theorem cf_X10_18 : ct_Fl RX10 18 10 2 RX10 TX10 13 tyX10 := ⟨rfl, z_inX10, by decide, z_in (i := 274) (by decide +kernel) rfl, rfl, tyX10_ok, nmX10⟩
theorem cf_X10_22 : ct_Fl RX10 22 10 3 RX10 TX10 13 tyX10 := ⟨rfl, z_inX10, by decide, z_in (i := 276) (by decide +kernel) rfl, rfl, tyX10_ok, nmX10⟩
theorem cf_X10_25 : ct_Fl RX10 25 10 4 RX10 TX10 13 tyX10 := ⟨rfl, z_inX10, by decide, z_in (i := 277) (by decide +kernel) rfl, rfl, tyX10_ok, nmX10⟩
theorem cf_X10_28 : ct_Fl RX10 28 10 5 RX10 TX10 13 tyX10 := ⟨rfl, z_inX10, by decide, z_in (i := 278) (by decide +kernel) rfl, rfl, tyX10_ok, nmX10⟩
theorem cf_X10_31 : ct_Fl RX10 31 10 6 RX10 TX10 13 tyX10 := ⟨rfl, z_inX10, by decide, z_in (i := 279) (by decide +kernel) rfl, rfl, tyX10_ok, nmX10⟩
theorem cf_X10_34 : ct_Fl RX10 34 10 7 RX10 TX10 13 tyX10 := ⟨rfl, z_inX10, by decide, z_in (i := 280) (by decide +kernel) rfl, rfl, tyX10_ok, nmX10⟩
theorem cf_X10_37 : ct_Fl RX10 37 10 8 RX10 TX10 13 tyX10 := ⟨rfl, z_inX10, by decide, z_in (i := 281) (by decide +kernel) rfl, rfl, tyX10_ok, nmX10⟩
theorem cf_X10_40 : ct_Fl RX10 40 10 9 RX10 TX10 13 tyX10 := ⟨rfl, z_inX10, by decide, z_in (i := 282) (by decide +kernel) rfl, rfl, tyX10_ok, nmX10⟩
theorem cf_X10_43 : ct_Fl RX10 43 10 10 RX10 TX10 13 tyX10 := ⟨rfl, z_inX10, by decide, z_in (i := 283) (by decide +kernel) rfl, rfl, tyX10_ok, nmX10⟩
theorem cf_X10_46 : ct_Fl RX10 46 10 11 RX10 TX10 13 tyX10 := ⟨rfl, z_inX10, by decide, z_in (i := 285) (by decide +kernel) rfl, rfl, tyX10_ok, nmX10⟩
theorem cf_X10_49 : ct_Fl RX10 49 10 12 RX10 TX10 13 tyX10 := ⟨rfl, z_inX10, by decide, z_in (i := 287) (by decide +kernel) rfl, rfl, tyX10_ok, nmX10⟩
section
/-! ===== Tokens(): the words of the language ===== -/
def tkWt : List Int := [0, 0, 0, 0, 0, 0, 1, 1, 1, 2, 2, 2, 2, 2, 2, 3, 3, 3, 3, 3, 3, 3, 4, 4, 4, 4, 4, 4, 4, 5, 5, 5, 5, 5, 5, 5, 6, 6, 6, 6, 6, 7, 7, 7, 7, 7, 8, 8, 8, 8, 9, 9, 9, 9, 10, 10, 10, 10, 10, 11, 11, 11, 11, 12, 12, 12, 12, 13, 13, 13, 13, 13, 14, 14, 14, 15, 15, 15, 15, 16, 16, 16, 16, 17, 17, 17, 17, 18, 18, 18, 18, 18, 18, 19, 19, 19, 19, 20, 20, 20, 20, 20, 21, 21, 21, 21, 22, 22, 22, 22, 22, 22, 23, 23, 23, 23, 23, 23, 24, 24, 24, 24, 25, 25, 25, 25, 26, 26, 26, 26, 26, 26, 27]
def tkPt : List Int := [0, 1, 2, 3, 4, 5, 0, 1, 2, 0, 1, 2, 3, 4, 5, 0, 1, 2, 3, 4, 5, 6, 0, 1, 2, 3, 4, 5, 6, 0, 1, 2, 3, 4, 5, 6, 0, 1, 2, 3, 4, 0, 1, 2, 3, 4, 0, 1, 2, 3, 0, 1, 2, 3, 0, 1, 2, 3, 4, 0, 1, 2, 3, 0, 1, 2, 3, 0, 1, 2, 3, 4, 0, 1, 2, 0, 1, 2, 3, 0, 1, 2, 3, 0, 1, 2, 3, 0, 1, 2, 3, 4, 5, 0, 1, 2, 3, 0, 1, 2, 3, 4, 0, 1, 2, 3, 0, 1, 2, 3, 4, 5, 0, 1, 2, 3, 4, 5, 0, 1, 2, 3, 0, 1, 2, 3, 0, 1, 2, 3, 4, 5, 0]
def tkXt : List Int := [0, 671088640, 679477248, 679772160, 679786496, 679786720, 0, 301989888, 321912832, 0, 536870912, 537919488, 538443776, 538448896, 538449472, 0, 536870912, 552599552, 552992768, 553001984, 553002080, 553002085, 0, 671088640, 676331520, 676724736, 676737024, 676737184, 676737202, 0, 67108864, 72351744, 72581120, 72590336, 72590784, 72590803, 0, 167772160, 182452224, 182583296, 182602752, 0, 671088640, 672137216, 672661504, 672666624, 0, 33554432, 53477376, 53837824, 0, 637534208, 638582784, 639401984, 0, 536870912, 537919488, 538148864, 538153984, 0, 402653184, 403701760, 404455424, 0, 67108864, 68157440, 68747264, 0, 335544320, 357564416, 358154240, 358179840, 0, 503316480, 522190848, 0, 33554432, 48234496, 48365568, 0, 469762048, 485490688, 486146048, 0, 33554432, 40894464, 41058304, 0, 268435456, 284164096, 284852224, 284870656, 284871264, 0, 503316480, 509607936, 509804544, 0, 33554432, 53477376, 53837824, 53857280, 0, 402653184, 407896064, 408027136, 0, 603979776, 613416960, 613646336, 613654528, 613655168, 0, 771751936, 790626304, 791117824, 791132160, 791132384, 0, 469762048, 475004928, 475758592, 0, 536870912, 558891008, 559546368, 0, 402653184, 412090368, 412549120, 412554240, 412554848, 0]
def tkW (j : Nat) : Int := tkWt.getD j 0
def tkP (j : Nat) : Int := tkPt.getD j 0
def tkX (j : Nat) : Int := tkXt.getD j 0
def tkL (j : Nat) : List Int := (wTl.take (tkW j).toNat ++ tkX j :: List.replicate 26 0).take 27
theorem tk_f : ∀ j : Nat, j < sgN → ((¬ (Int32.ofInt 27) ≤ Int32.ofInt (tkW j)) ∧ (Int32.ofInt (tkW j)).toNatClampNeg = (tkW j).toNat ∧ (¬ Int32.ofInt (tkW j) < 0) ∧ (tkW j).toNat < 27 ∧ (tkL j).length = 27) ∧ (Int32.ofNat j + Int32.ofInt 1 = Int32.ofNat (j + 1) ∧ (¬ Int32.ofNat sgN ≤ Int32.ofNat j) ∧ 0 ≤ tkP j ∧ tkP j < 10) := by decide +kernel
theorem tk_s : ∀ j : Nat, j < sgN → sgB.getD j 0 = Int32.ofInt 32 → Int32.ofInt (tkW j) + Int32.ofInt 1 = Int32.ofInt (tkW (j + 1)) ∧ tkP (j + 1) = 0 ∧ tkL (j + 1) = tkL j := by decide +kernel
theorem tk_c : ∀ j : Nat, j < sgN → sgB.getD j 0 ≠ Int32.ofInt 32 → tkW (j + 1) = tkW j ∧ Int32.ofInt (tkP j) + Int32.ofInt 1 = Int32.ofInt (tkP (j + 1)) ∧ Int32.ofInt ((tkL j).getD (tkW j).toNat 0) ||| Int32.ofInt (inP (sgB.getD j 0).toInt (tkP j)) = Int32.ofInt (tkX (j + 1)) ∧ tkL (j + 1) = (tkL j).set (tkW j).toNat (tkX (j + 1)) := by decide +kernel
theorem tk_e : tkL sgN = wTl ∧ Int32.ofNat sgN ≤ Int32.ofNat sgN := by decide +kernel
theorem lv_subs {ls : Array Slot} {nL : Nat} {l l' : List (Nat × Value)} (h : lv_has ls nL l) (hs : ∀ q ∈ l', q ∈ l) : lv_has ls nL l' := ⟨h.1, h.2.1, fun q hq => h.2.2 q (hs q hq)⟩
set_option maxHeartbeats 2000000 in
theorem tk_loop {p : Program} {l : Launch} {e : Env} {R : Room} {s : State} {m : MethodId} {args : Array Value} {below : List Frame} {meth : Method} {c : Code} {Q : State → Prop} {D : va_G} {A : Nat → Prop} {h0 q1 : Nat} {c1 : ClassId} {fs : List Value} {wr : va_W} {tyr : List (ClassId × FieldType)} {cells slots : Nat} (g : sgG) (hC : ct_Cx p s m args meth c RX10 cX10_init 5) (hA : ∀ q, s.heap.size ≤ q → A q) (hE : sg_E g A s s.heap) (hf0 : fs[0]? = some (.ref q1)) (hrf : 5 ≤ R.frames) (hrl : 190 ≤ R.locals) (hcs : cells ≤ R.cells ∧ slots ≤ R.slots)
    (hend : ∀ (H : Heap) (locs : List Loc) (ls : Array Slot), ct_R D A s ((h0, .inr (10, fs)) :: (q1, .inl (c1, ct_I 27 wTl)) :: wr) ((c1, .int) :: tyr) H locs → W p l e R s m args below meth c H locs cells slots Q (F0 m 158 ls [])) : ∀ (d j : Nat), j + d = sgN → ∀ (H : Heap) (locs : List Loc) (ls : Array Slot), lv_has ls 5 [(3, .int (Int32.ofNat j)), (2, .int (Int32.ofInt (tkP j))), (1, .int (Int32.ofInt (tkW j))), (0, .ref h0)] → ct_R D A s ((h0, .inr (10, fs)) :: (q1, .inl (c1, ct_I 27 (tkL j))) :: wr) ((c1, .int) :: tyr) H locs → W p l e R s m args below meth c H locs cells slots Q (F0 m 96 ls []) := by
  have hx := hC.1
  have hb := hC.2.1
  have hs : sg_Cx p s m args c RX10 cX10_init 5 := ⟨hx, hb, hC.2.2.1, hC.2.2.2.1, hC.2.2.2.2.1⟩
  intro d
  induction d with
  | zero =>
    intro j hj H locs ls hl hR
    have hj : j = sgN := hj
    subst hj
    refine lv_iload_n hx hb dX10_init_96 rfl (lv_at hl 0 rfl) ?_
    refine va_ldcS hx hb hC.2.2.2.1 hE.2.1 dX10_init_97 ?_
    refine sg_callV (as := []) (rest := [.int (Int32.ofNat sgN)]) hs (sm_len l g) sk_J0_length_8abf5 rfl sn_J0_length_8abf5 sd_J0_length_8abf5 (z_in (i := 222) (by decide +kernel) rfl) (z_in (i := 223) (by decide +kernel) rfl) (z_in (i := 221) (by decide +kernel) rfl) ⟨by omega, by omega⟩ rfl hE hR.2.2.1 hl.1 (by decide) hcs dX10_init_99 (fun H1 locs1 hS hz hk => ?_)
    have hR := hR.kept hk hS
    refine lv_icmp_ge hx hb (tgt := 158) dX10_init_102 rfl (fun _ => ?_) (fun h => absurd tk_e.2 h)
    rw [tk_e.1] at hR
    exact hend _ _ _ hR
  | succ d ih =>
    intro j hj H locs ls hl hR
    have hlt : j < sgN := by omega
    obtain ⟨⟨f1, f2, f3, f4, f5⟩, f6, f7, f8, f9⟩ := tk_f j hlt
    refine lv_iload_n hx hb dX10_init_96 rfl (lv_at hl 0 rfl) ?_
    refine va_ldcS hx hb hC.2.2.2.1 hE.2.1 dX10_init_97 ?_
    refine sg_callV (as := []) (rest := [.int (Int32.ofNat j)]) hs (sm_len l g) sk_J0_length_8abf5 rfl sn_J0_length_8abf5 sd_J0_length_8abf5 (z_in (i := 222) (by decide +kernel) rfl) (z_in (i := 223) (by decide +kernel) rfl) (z_in (i := 221) (by decide +kernel) rfl) ⟨by omega, by omega⟩ rfl hE hR.2.2.1 hl.1 (Nat.le_of_ble_eq_true rfl) hcs dX10_init_99 (fun H1 locs1 hS hz hk => ?_)
    have hR := hR.kept hk hS
    refine lv_icmp_ge hx hb (tgt := 158) dX10_init_102 rfl (fun h => absurd h f7) (fun _ => ?_)
    refine lv_iload_n hx hb dX10_init_105 rfl (lv_at hl 2 rfl) ?_
    refine lv_bipush hx hb (v := Int32.ofInt 27) dX10_init_106 (by decide) ?_
    refine lv_icmp_ge hx hb (tgt := 158) dX10_init_108 rfl (fun h => absurd h f1) (fun _ => ?_)
    refine va_ldcS hx hb hC.2.2.2.1 hE.2.1 dX10_init_111 ?_
    refine lv_iload_n hx hb dX10_init_113 rfl (lv_at hl 0 rfl) ?_
    refine sg_callV (as := [.int (Int32.ofNat j)]) (rest := []) hs (sm_ch l g hlt) sk_J0_charAt_5068e rfl sn_J0_charAt_5068e sd_J0_charAt_5068e (z_in (i := 232) (by decide +kernel) rfl) (z_in (i := 233) (by decide +kernel) rfl) (z_in (i := 231) (by decide +kernel) rfl) ⟨by omega, by omega⟩ rfl hE hR.2.2.1 hl.1 (by decide) hcs dX10_init_114 (fun H1 locs1 hS hz hk => ?_)
    have hR := hR.kept hk hS
    refine lv_istore hx hb dX10_init_117 hl (by decide) rfl (fun ls hl => ?_)
    have hl : lv_has ls 5 [(4, .int (sgB.getD j 0)), (3, .int (Int32.ofNat j)), (2, .int (Int32.ofInt (tkP j))), (1, .int (Int32.ofInt (tkW j))), (0, .ref h0)] := hl
    refine lv_iload hx hb dX10_init_119 (lv_at hl 0 rfl) ?_
    refine lv_bipush hx hb (v := Int32.ofInt 32) dX10_init_121 (by decide) ?_
    refine lv_icmp_ne hx hb (tgt := 134) dX10_init_123 rfl (fun hne => ?_) (fun heq => ?_)
    · obtain ⟨g1, g2, g3, g4⟩ := tk_c j hlt hne
      refine lv_aload_n hx hb dX10_init_134 rfl (lv_at hl 4 rfl) ?_
      refine va_get (ci := 10) (C := RX10) (T := TX10) (N := 13) (ref := RX10) hx hb hC.2.2.2.2.1 z_inX10 hC.2.2.2.1 hR.2.2.2 hR.1 0 rfl rfl 0 (by decide) (hC.2.2.2.2.1 _ cf_X10_11.2.2.2.1) (fun _ h => h) hf0 dX10_init_135 ?_
      refine lv_iload_n hx hb dX10_init_138 rfl (lv_at hl 3 rfl) ?_
      refine lv_dup2_11 hx hb dX10_init_139 rfl rfl ?_
      refine ct_ild hC hR 1 0 rfl rfl f2 f3 f4 dX10_init_140 ?_
      refine lv_iload hx hb dX10_init_141 (lv_at hl 0 rfl) ?_
      refine lv_iload_n hx hb dX10_init_143 rfl (lv_at hl 2 rfl) ?_
      refine ct_simS (as := [zI (sgB.getD j 0).toInt, zI (tkP j)]) (rest := [.int (Int32.ofInt ((tkL j).getD (tkW j).toNat 0)), .int (Int32.ofInt (tkW j)), .ref q1]) (M := fun _ _ => 0) hC hR hA zsim_X10_inPlace (e_X10_inPlace _ _ _) ?_ zk_X10_inPlace zi_X10 zd_X10_inPlace zq_X10_inPlace (z_in (i := 269) (by decide +kernel) rfl) ⟨by omega, by omega⟩ rfl hl.1 (Nat.le_of_ble_eq_true rfl) hcs dX10_init_144 ?_ (fun H1 locs1 hR => ?_)
      · intro v hv
        rcases List.mem_cons.mp hv with rfl | hv
        · exact z_rti _
        · rcases List.mem_cons.mp hv with rfl | hv
          · exact ⟨by omega, by omega⟩
          · cases hv
      · show _ = [Value.int (Int32.ofInt (tkP j)), Value.int (Int32.ofInt (sgB.getD j 0).toInt)] ++ _
        rw [z_oft]
        rfl
      refine lv_ior hx hb dX10_init_147 ?_
      refine ct_ist hC hR 1 0 rfl rfl f2 f3 f4 (by rw [f5]; exact f4) g3 dX10_init_148 (fun H1 locs1 hR => ?_)
      rw [← g4] at hR
      refine lv_iinc (k := 2) hx hb dX10_init_149 hl rfl g2 (by decide) rfl (fun ls hl => ?_)
      refine lv_iinc (k := 2) hx hb dX10_init_152 hl rfl f6 (by decide) rfl (fun ls hl => ?_)
      refine lv_goto hx hb (tgt := 96) dX10_init_155 rfl ?_
      have hl : lv_has ls 5 [(3, .int (Int32.ofNat (j + 1))), (2, .int (Int32.ofInt (tkP (j + 1)))), (4, .int (sgB.getD j 0)), (1, .int (Int32.ofInt (tkW j))), (0, .ref h0)] := hl
      refine ih (j + 1) (by omega) _ _ _ (lv_subs hl ?_) hR
      rw [g1]
      intro q hq
      simp only [List.mem_cons, List.not_mem_nil, or_false] at hq
      rcases hq with rfl | rfl | rfl | rfl <;> simp
    · obtain ⟨g1, g2, g3⟩ := tk_s j hlt heq
      refine lv_iinc (k := 3) hx hb dX10_init_126 hl rfl g1 (by decide) rfl (fun ls hl => ?_)
      refine lv_iconst hx hb (v := Int32.ofInt 0) dX10_init_129 rfl ?_
      refine lv_istore_n hx hb dX10_init_130 rfl hl (by decide) rfl (fun ls hl => ?_)
      refine lv_goto hx hb (tgt := 152) dX10_init_131 rfl ?_
      refine lv_iinc (k := 3) hx hb dX10_init_152 hl rfl f6 (by decide) rfl (fun ls hl => ?_)
      refine lv_goto hx hb (tgt := 96) dX10_init_155 rfl ?_
      rw [← g3] at hR
      have hl : lv_has ls 5 [(3, .int (Int32.ofNat (j + 1))), (2, .int (Int32.ofInt 0)), (1, .int (Int32.ofInt (tkW (j + 1)))), (4, .int (sgB.getD j 0)), (0, .ref h0)] := hl
      refine ih (j + 1) (by omega) _ _ _ (lv_subs hl ?_) hR
      rw [g2]
      intro q hq
      simp only [List.mem_cons, List.not_mem_nil, or_false] at hq
      rcases hq with rfl | rfl | rfl | rfl <;> simp
end
def shX10 (α : Nat → Nat) (γ : Nat → ClassId) : va_W := ((α 0, .inr (10, [.ref (α 1), .ref (α 2), .int (Int32.ofInt 0), .int (Int32.ofInt 0), .int (Int32.ofInt 0), .int (Int32.ofInt 0), .ref (α 3), .ref (α 4), .ref (α 5), .int (Int32.ofInt 0), .int (Int32.ofInt 1000), .int (Int32.ofInt 0), .int (Int32.ofInt 0)])) :: (((([(α 1, .inl (γ 1, ct_I 27 wTl))] ++ [(α 2, .inl (γ 2, ct_I 800 []))]) ++ [(α 3, .inl (γ 3, ct_I 801 []))]) ++ [(α 4, .inl (γ 4, ct_I 801 []))]) ++ [(α 5, .inl (γ 5, ct_I 801 []))]))
def tyX10s (γ : Nat → ClassId) : List (ClassId × FieldType) := (((([(γ 1, .int)] ++ [(γ 2, .int)]) ++ [(γ 3, .int)]) ++ [(γ 4, .int)]) ++ [(γ 5, .int)])
set_option maxRecDepth 20000 in
set_option maxHeartbeats 4000000 in
theorem ci_X10 (l : Launch) (D : va_G) (g : sgG) : ct_Met l D (fun A U => sg_E g A U U.heap) yX10_init cX10_init 5 { frames := 5, cells := 5, slots := 3230, locals := 190 } 10 [.null, .null, .int (Int32.ofInt 0), .int (Int32.ofInt 0), .int (Int32.ofInt 0), .int (Int32.ofInt 0), .null, .null, .null, .int (Int32.ofInt 0), .int (Int32.ofInt 0), .int (Int32.ofInt 0), .int (Int32.ofInt 0)] shX10 tyX10s 5 3230 := by
  refine ct_met (i0 := 3) (by decide) rfl (by decide) (z_in (i := 219) (by decide +kernel) rfl) dX10_init_0 dX10_init_1 (by decide) (by decide) ?_
  intro p e s m args below meth c A h0 ls Q hC hA hR hE hl hend
  refine ct_arr (a0 := ct_I 27 []) (n := Int32.ofInt 27) hC cf_X10_11 ct_hI rfl (fun _ => rfl) (fun _ => rfl) hR hA 0 rfl (Nat.le_of_ble_eq_true rfl) (ct_aI 27) (by decide) (by decide) (by decide) (by decide) (by decide) (lv_at hl 0 rfl) dX10_init_4 (fun _ _ _ z => lv_bipush hC.1 hC.2.1 dX10_init_5 (by decide) z) dX10_init_7 dX10_init_9 (fun q1 c1 H locs hR => ?_)
  have hR : ct_R D A s ((h0, .inr (10, [.ref q1, .null, .int (Int32.ofInt 0), .int (Int32.ofInt 0), .int (Int32.ofInt 0), .int (Int32.ofInt 0), .null, .null, .null, .int (Int32.ofInt 0), .int (Int32.ofInt 0), .int (Int32.ofInt 0), .int (Int32.ofInt 0)])) :: [(q1, .inl (c1, ct_I 27 []))]) ([(c1, .int)]) H locs := hR
  refine ct_arr (a0 := ct_I 800 []) (n := Int32.ofInt 800) hC cf_X10_15 ct_hI rfl (fun _ => rfl) (fun _ => rfl) hR hA 0 rfl (Nat.le_of_ble_eq_true rfl) (ct_aI 800) (by decide) (by decide) (by decide) (by decide) (by decide) (lv_at hl 0 rfl) dX10_init_12 (fun _ _ _ z => lv_sipush hC.1 hC.2.1 dX10_init_13 (by decide) z) dX10_init_16 dX10_init_18 (fun q2 c2 H locs hR => ?_)
  have hR : ct_R D A s ((h0, .inr (10, [.ref q1, .ref q2, .int (Int32.ofInt 0), .int (Int32.ofInt 0), .int (Int32.ofInt 0), .int (Int32.ofInt 0), .null, .null, .null, .int (Int32.ofInt 0), .int (Int32.ofInt 0), .int (Int32.ofInt 0), .int (Int32.ofInt 0)])) :: ([(q1, .inl (c1, ct_I 27 []))] ++ [(q2, .inl (c2, ct_I 800 []))])) (([(c1, .int)]) ++ [(c2, .int)]) H locs := hR
  refine ct_set (v := .int (Int32.ofInt 0)) hC cf_X10_18 rfl rfl hR 0 rfl (Nat.le_of_ble_eq_true rfl) (lv_at hl 0 rfl) dX10_init_21 (fun _ _ _ z => lv_iconst hC.1 hC.2.1 dX10_init_22 rfl z) dX10_init_23 (fun H locs hR => ?_)
  have hR : ct_R D A s ((h0, .inr (10, [.ref q1, .ref q2, .int (Int32.ofInt 0), .int (Int32.ofInt 0), .int (Int32.ofInt 0), .int (Int32.ofInt 0), .null, .null, .null, .int (Int32.ofInt 0), .int (Int32.ofInt 0), .int (Int32.ofInt 0), .int (Int32.ofInt 0)])) :: ([(q1, .inl (c1, ct_I 27 []))] ++ [(q2, .inl (c2, ct_I 800 []))])) (([(c1, .int)]) ++ [(c2, .int)]) H locs := hR
  refine ct_set (v := .int (Int32.ofInt 0)) hC cf_X10_22 rfl rfl hR 0 rfl (Nat.le_of_ble_eq_true rfl) (lv_at hl 0 rfl) dX10_init_26 (fun _ _ _ z => lv_iconst hC.1 hC.2.1 dX10_init_27 rfl z) dX10_init_28 (fun H locs hR => ?_)
  have hR : ct_R D A s ((h0, .inr (10, [.ref q1, .ref q2, .int (Int32.ofInt 0), .int (Int32.ofInt 0), .int (Int32.ofInt 0), .int (Int32.ofInt 0), .null, .null, .null, .int (Int32.ofInt 0), .int (Int32.ofInt 0), .int (Int32.ofInt 0), .int (Int32.ofInt 0)])) :: ([(q1, .inl (c1, ct_I 27 []))] ++ [(q2, .inl (c2, ct_I 800 []))])) (([(c1, .int)]) ++ [(c2, .int)]) H locs := hR
  refine ct_set (v := .int (Int32.ofInt 0)) hC cf_X10_25 rfl rfl hR 0 rfl (Nat.le_of_ble_eq_true rfl) (lv_at hl 0 rfl) dX10_init_31 (fun _ _ _ z => lv_iconst hC.1 hC.2.1 dX10_init_32 rfl z) dX10_init_33 (fun H locs hR => ?_)
  have hR : ct_R D A s ((h0, .inr (10, [.ref q1, .ref q2, .int (Int32.ofInt 0), .int (Int32.ofInt 0), .int (Int32.ofInt 0), .int (Int32.ofInt 0), .null, .null, .null, .int (Int32.ofInt 0), .int (Int32.ofInt 0), .int (Int32.ofInt 0), .int (Int32.ofInt 0)])) :: ([(q1, .inl (c1, ct_I 27 []))] ++ [(q2, .inl (c2, ct_I 800 []))])) (([(c1, .int)]) ++ [(c2, .int)]) H locs := hR
  refine ct_set (v := .int (Int32.ofInt 0)) hC cf_X10_28 rfl rfl hR 0 rfl (Nat.le_of_ble_eq_true rfl) (lv_at hl 0 rfl) dX10_init_36 (fun _ _ _ z => lv_iconst hC.1 hC.2.1 dX10_init_37 rfl z) dX10_init_38 (fun H locs hR => ?_)
  have hR : ct_R D A s ((h0, .inr (10, [.ref q1, .ref q2, .int (Int32.ofInt 0), .int (Int32.ofInt 0), .int (Int32.ofInt 0), .int (Int32.ofInt 0), .null, .null, .null, .int (Int32.ofInt 0), .int (Int32.ofInt 0), .int (Int32.ofInt 0), .int (Int32.ofInt 0)])) :: ([(q1, .inl (c1, ct_I 27 []))] ++ [(q2, .inl (c2, ct_I 800 []))])) (([(c1, .int)]) ++ [(c2, .int)]) H locs := hR
  refine ct_arr (a0 := ct_I 801 []) (n := Int32.ofInt 801) hC cf_X10_31 ct_hI rfl (fun _ => rfl) (fun _ => rfl) hR hA 0 rfl (Nat.le_of_ble_eq_true rfl) (ct_aI 801) (by decide) (by decide) (by decide) (by decide) (by decide) (lv_at hl 0 rfl) dX10_init_41 (fun _ _ _ z => lv_sipush hC.1 hC.2.1 dX10_init_42 (by decide) z) dX10_init_45 dX10_init_47 (fun q3 c3 H locs hR => ?_)
  have hR : ct_R D A s ((h0, .inr (10, [.ref q1, .ref q2, .int (Int32.ofInt 0), .int (Int32.ofInt 0), .int (Int32.ofInt 0), .int (Int32.ofInt 0), .ref q3, .null, .null, .int (Int32.ofInt 0), .int (Int32.ofInt 0), .int (Int32.ofInt 0), .int (Int32.ofInt 0)])) :: (([(q1, .inl (c1, ct_I 27 []))] ++ [(q2, .inl (c2, ct_I 800 []))]) ++ [(q3, .inl (c3, ct_I 801 []))])) ((([(c1, .int)]) ++ [(c2, .int)]) ++ [(c3, .int)]) H locs := hR
  refine ct_arr (a0 := ct_I 801 []) (n := Int32.ofInt 801) hC cf_X10_34 ct_hI rfl (fun _ => rfl) (fun _ => rfl) hR hA 0 rfl (Nat.le_of_ble_eq_true rfl) (ct_aI 801) (by decide) (by decide) (by decide) (by decide) (by decide) (lv_at hl 0 rfl) dX10_init_50 (fun _ _ _ z => lv_sipush hC.1 hC.2.1 dX10_init_51 (by decide) z) dX10_init_54 dX10_init_56 (fun q4 c4 H locs hR => ?_)
  have hR : ct_R D A s ((h0, .inr (10, [.ref q1, .ref q2, .int (Int32.ofInt 0), .int (Int32.ofInt 0), .int (Int32.ofInt 0), .int (Int32.ofInt 0), .ref q3, .ref q4, .null, .int (Int32.ofInt 0), .int (Int32.ofInt 0), .int (Int32.ofInt 0), .int (Int32.ofInt 0)])) :: ((([(q1, .inl (c1, ct_I 27 []))] ++ [(q2, .inl (c2, ct_I 800 []))]) ++ [(q3, .inl (c3, ct_I 801 []))]) ++ [(q4, .inl (c4, ct_I 801 []))])) (((([(c1, .int)]) ++ [(c2, .int)]) ++ [(c3, .int)]) ++ [(c4, .int)]) H locs := hR
  refine ct_arr (a0 := ct_I 801 []) (n := Int32.ofInt 801) hC cf_X10_37 ct_hI rfl (fun _ => rfl) (fun _ => rfl) hR hA 0 rfl (Nat.le_of_ble_eq_true rfl) (ct_aI 801) (by decide) (by decide) (by decide) (by decide) (by decide) (lv_at hl 0 rfl) dX10_init_59 (fun _ _ _ z => lv_sipush hC.1 hC.2.1 dX10_init_60 (by decide) z) dX10_init_63 dX10_init_65 (fun q5 c5 H locs hR => ?_)
  have hR : ct_R D A s ((h0, .inr (10, [.ref q1, .ref q2, .int (Int32.ofInt 0), .int (Int32.ofInt 0), .int (Int32.ofInt 0), .int (Int32.ofInt 0), .ref q3, .ref q4, .ref q5, .int (Int32.ofInt 0), .int (Int32.ofInt 0), .int (Int32.ofInt 0), .int (Int32.ofInt 0)])) :: (((([(q1, .inl (c1, ct_I 27 []))] ++ [(q2, .inl (c2, ct_I 800 []))]) ++ [(q3, .inl (c3, ct_I 801 []))]) ++ [(q4, .inl (c4, ct_I 801 []))]) ++ [(q5, .inl (c5, ct_I 801 []))])) ((((([(c1, .int)]) ++ [(c2, .int)]) ++ [(c3, .int)]) ++ [(c4, .int)]) ++ [(c5, .int)]) H locs := hR
  refine ct_set (v := .int (Int32.ofInt 0)) hC cf_X10_40 rfl rfl hR 0 rfl (Nat.le_of_ble_eq_true rfl) (lv_at hl 0 rfl) dX10_init_68 (fun _ _ _ z => lv_iconst hC.1 hC.2.1 dX10_init_69 rfl z) dX10_init_70 (fun H locs hR => ?_)
  have hR : ct_R D A s ((h0, .inr (10, [.ref q1, .ref q2, .int (Int32.ofInt 0), .int (Int32.ofInt 0), .int (Int32.ofInt 0), .int (Int32.ofInt 0), .ref q3, .ref q4, .ref q5, .int (Int32.ofInt 0), .int (Int32.ofInt 0), .int (Int32.ofInt 0), .int (Int32.ofInt 0)])) :: (((([(q1, .inl (c1, ct_I 27 []))] ++ [(q2, .inl (c2, ct_I 800 []))]) ++ [(q3, .inl (c3, ct_I 801 []))]) ++ [(q4, .inl (c4, ct_I 801 []))]) ++ [(q5, .inl (c5, ct_I 801 []))])) ((((([(c1, .int)]) ++ [(c2, .int)]) ++ [(c3, .int)]) ++ [(c4, .int)]) ++ [(c5, .int)]) H locs := hR
  refine ct_set (v := .int (Int32.ofInt 1000)) hC cf_X10_43 rfl rfl hR 0 rfl (Nat.le_of_ble_eq_true rfl) (lv_at hl 0 rfl) dX10_init_73 (fun _ _ _ z => lv_sipush hC.1 hC.2.1 dX10_init_74 (by decide) z) dX10_init_77 (fun H locs hR => ?_)
  have hR : ct_R D A s ((h0, .inr (10, [.ref q1, .ref q2, .int (Int32.ofInt 0), .int (Int32.ofInt 0), .int (Int32.ofInt 0), .int (Int32.ofInt 0), .ref q3, .ref q4, .ref q5, .int (Int32.ofInt 0), .int (Int32.ofInt 1000), .int (Int32.ofInt 0), .int (Int32.ofInt 0)])) :: (((([(q1, .inl (c1, ct_I 27 []))] ++ [(q2, .inl (c2, ct_I 800 []))]) ++ [(q3, .inl (c3, ct_I 801 []))]) ++ [(q4, .inl (c4, ct_I 801 []))]) ++ [(q5, .inl (c5, ct_I 801 []))])) ((((([(c1, .int)]) ++ [(c2, .int)]) ++ [(c3, .int)]) ++ [(c4, .int)]) ++ [(c5, .int)]) H locs := hR
  refine ct_set (v := .int (Int32.ofInt 0)) hC cf_X10_46 rfl rfl hR 0 rfl (Nat.le_of_ble_eq_true rfl) (lv_at hl 0 rfl) dX10_init_80 (fun _ _ _ z => lv_iconst hC.1 hC.2.1 dX10_init_81 rfl z) dX10_init_82 (fun H locs hR => ?_)
  have hR : ct_R D A s ((h0, .inr (10, [.ref q1, .ref q2, .int (Int32.ofInt 0), .int (Int32.ofInt 0), .int (Int32.ofInt 0), .int (Int32.ofInt 0), .ref q3, .ref q4, .ref q5, .int (Int32.ofInt 0), .int (Int32.ofInt 1000), .int (Int32.ofInt 0), .int (Int32.ofInt 0)])) :: (((([(q1, .inl (c1, ct_I 27 []))] ++ [(q2, .inl (c2, ct_I 800 []))]) ++ [(q3, .inl (c3, ct_I 801 []))]) ++ [(q4, .inl (c4, ct_I 801 []))]) ++ [(q5, .inl (c5, ct_I 801 []))])) ((((([(c1, .int)]) ++ [(c2, .int)]) ++ [(c3, .int)]) ++ [(c4, .int)]) ++ [(c5, .int)]) H locs := hR
  refine ct_set (v := .int (Int32.ofInt 0)) hC cf_X10_49 rfl rfl hR 0 rfl (Nat.le_of_ble_eq_true rfl) (lv_at hl 0 rfl) dX10_init_85 (fun _ _ _ z => lv_iconst hC.1 hC.2.1 dX10_init_86 rfl z) dX10_init_87 (fun H locs hR => ?_)
  have hR : ct_R D A s ((h0, .inr (10, [.ref q1, .ref q2, .int (Int32.ofInt 0), .int (Int32.ofInt 0), .int (Int32.ofInt 0), .int (Int32.ofInt 0), .ref q3, .ref q4, .ref q5, .int (Int32.ofInt 0), .int (Int32.ofInt 1000), .int (Int32.ofInt 0), .int (Int32.ofInt 0)])) :: (((([(q1, .inl (c1, ct_I 27 []))] ++ [(q2, .inl (c2, ct_I 800 []))]) ++ [(q3, .inl (c3, ct_I 801 []))]) ++ [(q4, .inl (c4, ct_I 801 []))]) ++ [(q5, .inl (c5, ct_I 801 []))])) ((((([(c1, .int)]) ++ [(c2, .int)]) ++ [(c3, .int)]) ++ [(c4, .int)]) ++ [(c5, .int)]) H locs := hR
  have hR : ct_R D A s ((h0, .inr (10, [.ref q1, .ref q2, .int (Int32.ofInt 0), .int (Int32.ofInt 0), .int (Int32.ofInt 0), .int (Int32.ofInt 0), .ref q3, .ref q4, .ref q5, .int (Int32.ofInt 0), .int (Int32.ofInt 1000), .int (Int32.ofInt 0), .int (Int32.ofInt 0)])) :: (q1, .inl (c1, ct_I 27 [])) :: [(q2, .inl (c2, ct_I 800 [])), (q3, .inl (c3, ct_I 801 [])), (q4, .inl (c4, ct_I 801 [])), (q5, .inl (c5, ct_I 801 []))]) ((c1, .int) :: [(c2, .int), (c3, .int), (c4, .int), (c5, .int)]) H locs := hR
  rw [ct_rep 27 27] at hR
  refine lv_iconst hC.1 hC.2.1 (v := Int32.ofInt 0) dX10_init_90 rfl ?_
  refine lv_istore_n hC.1 hC.2.1 dX10_init_91 rfl hl (by decide) rfl (fun ls hl => ?_)
  refine lv_iconst hC.1 hC.2.1 (v := Int32.ofInt 0) dX10_init_92 rfl ?_
  refine lv_istore_n hC.1 hC.2.1 dX10_init_93 rfl hl (by decide) rfl (fun ls hl => ?_)
  refine lv_iconst hC.1 hC.2.1 (v := Int32.ofInt 0) dX10_init_94 rfl ?_
  refine lv_istore_n hC.1 hC.2.1 dX10_init_95 rfl hl (by decide) rfl (fun ls hl => ?_)
  refine tk_loop g hC hA hE (by rfl) (by decide) (by decide) (by decide) (fun H locs ls hR => ?_) sgN 0 (by decide) _ _ _ hl hR
  exact hend (fun i => cond (Nat.ble i 0) (h0) (cond (Nat.ble i 1) (q1) (cond (Nat.ble i 2) (q2) (cond (Nat.ble i 3) (q3) (cond (Nat.ble i 4) (q4) (cond (Nat.ble i 5) (q5) (0)))))), fun i => cond (Nat.ble i 0) (0) (cond (Nat.ble i 1) (c1) (cond (Nat.ble i 2) (c2) (cond (Nat.ble i 3) (c3) (cond (Nat.ble i 4) (c4) (cond (Nat.ble i 5) (c5) (0))))))) _ _ _ _ rfl hR dX10_init_158
