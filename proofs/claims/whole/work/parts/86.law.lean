section
/-! ===== the law's loop ===== -/
section
variable {p : Program} {l : Launch} {e : Env} {s : State} {m : MethodId} {below : List Frame} {meth : Method} {c : Code} {b L : Nat} {xs : Nat → Int32} {D : va_G} {α : Nat → Nat} {γ : Nat → ClassId}
/-- what is known at the law, its world made -/
def lw_Kx (p : Program) (l : Launch) (e : Env) (s : State) (m : MethodId) (b : Nat) (below : List Frame) (meth : Method) (c : Code) (D : va_G) (α : Nat → Nat) (γ : Nat → ClassId) (L : Nat) (xs : Nat → Int32) : Prop := (∀ nc ns, nc ≤ 1143 → ns ≤ 15636 → z_Cx (lwX p l e s m b below meth c D α γ nc ns) RL code 7 ret 11) ∧ va_X b L xs s s.heap ∧ b < s.heap.size ∧ L ≤ 3072
abbrev lwl (b : Nat) (α : Nat → Nat) (i : Nat) : List (Nat × Value) := [(0, .ref b), (1, .ref (α 0)), (2, .ref (α 84)), (3, .ref (α 116)), (4, .int (nI i))]
/-- the head of the loop, q calls done -/
def lw_Hd (p : Program) (l : Launch) (e : Env) (s : State) (m : MethodId) (b : Nat) (below : List Frame) (meth : Method) (c : Code) (D : va_G) (α : Nat → Nat) (γ : Nat → ClassId) (q nc ns : Nat) : Prop := ∀ (M : zM) (H : Heap) (locs : List Loc) (ls : Array Slot), gI M → z_Rl (lwX p l e s m b below meth c D α γ nc ns) M H locs → lv_has ls 7 (lwl b α (6 * q)) → x_W (lwX p l e s m b below meth c D α γ nc ns) H locs (F0 m 23 ls [])
/-- the end of a case -/
theorem lw_nx (hK : lw_Kx p l e s m b below meth c D α γ L xs) {q nc ns nc2 ns2 : Nat} (h1 : nc ≤ nc2) (h2 : ns ≤ ns2) (h3 : nc2 ≤ 1143) (h4 : ns2 ≤ 15636) (hH : lw_Hd p l e s m b below meth c D α γ (q + 1) nc2 ns2) {M : zM} {H : Heap} {locs : List Loc} {ls : Array Slot} (hI : gI M) (hR : z_Rl (lwX p l e s m b below meth c D α γ nc ns) M H locs) (hl : lv_has ls 7 (lwl b α (6 * q))) : x_W (lwX p l e s m b below meth c D α γ nc ns) H locs (F0 m 1243 ls []) := by
  have hC := hK.1 nc ns (by omega) (by omega)
  have hx := hC.1
  have hb := hC.2.1
  refine lv_iinc (v := nI (6 * (q + 1))) (lv' := [(4, .int (nI (6 * (q + 1)))), (0, .ref b), (1, .ref (α 0)), (2, .ref (α 84)), (3, .ref (α 116))]) hx hb dL_law_1243 hl (k := 4) rfl (nI_add (6 * q) 6) (by decide) rfl (fun ls hl => ?_)
  refine lv_goto (tgt := 23) hx hb dL_law_1246 (by decide) ?_
  refine W.widen h1 h2 ?_
  exact hH M H locs ls hI hR (lv_sub hl [1, 2, 3, 4, 0] rfl)
/-- case 4 -/
def lw_Lk (p : Program) (l : Launch) (e : Env) (s : State) (m : MethodId) (b : Nat) (below : List Frame) (meth : Method) (c : Code) (D : va_G) (α : Nat → Nat) (γ : Nat → ClassId) (L : Nat) (kc ks : Nat) : Prop := ∀ (q nc ns : Nat) (M : zM) (H : Heap) (locs : List Loc) (ls : Array Slot), 6 * q + 6 ≤ L → nc + kc ≤ 1143 → ns + ks ≤ 15636 → lw_Hd p l e s m b below meth c D α γ (q + 1) (nc + kc) (ns + ks) → gI M → z_Rl (lwX p l e s m b below meth c D α γ nc ns) M H locs → lv_has ls 7 (lwl b α (6 * q)) → x_W (lwX p l e s m b below meth c D α γ nc ns) H locs (F0 m 340 ls [])
theorem lw_c0 (hK : lw_Kx p l e s m b below meth c D α γ L xs) {q nc ns nc2 ns2 : Nat} (hq : 6 * q + 6 ≤ L) (a1 : nc ≤ nc2) (a2 : ns ≤ ns2) (a3 : nc2 ≤ 1143) (a4 : ns2 ≤ 15636) (hH : lw_Hd p l e s m b below meth c D α γ (q + 1) nc2 ns2) {M : zM} {H : Heap} {locs : List Loc} {ls : Array Slot} (hI : gI M) (hR : z_Rl (lwX p l e s m b below meth c D α γ nc ns) M H locs) (hl : lv_has ls 7 (lwl b α (6 * q))) : x_W (lwX p l e s m b below meth c D α γ nc ns) H locs (F0 m 180 ls []) := by
  have hC := hK.1 nc ns (by omega) (by omega)
  obtain ⟨hKx, hX, hbl, hL⟩ := hK
  have h0 := lv_at hl 0 rfl
  have h4 := lv_at hl 4 rfl
  obtain ⟨r, M1, M2, ef, eg, hI2⟩ := i_feed hI (xs (6 * q + 1)).toInt (xs (6 * q + 2)).toInt (xs (6 * q + 3)).toInt (xs (6 * q + 4)).toInt (xs (6 * q + 5)).toInt
  refine lw_pairI hC rfl rfl rfl hR hl.1 (lv_at hl 1 rfl) (lv_at hl 2 rfl) (as := [zI (xs (6 * q + 1)).toInt, zI (xs (6 * q + 2)).toInt, zI (xs (6 * q + 3)).toInt, zI (xs (6 * q + 4)).toInt, zI (xs (6 * q + 5)).toInt]) (fun v hv => by simp only [List.mem_cons, List.not_mem_nil, or_false] at hv; rcases hv with rfl | rfl | rfl | rfl | rfl <;> first | exact z_rti _ | exact b2z_rI _) lwf_X11_feed lwf_X12_feed rfl (zsh_X11_feed ef) ef eg dL_law_180 (((((lw_arg (j := 1) hC hX hbl rfl hL h0 h4 (by omega) dL_law_181 dL_law_182 dL_law_184 dL_law_185 dL_law_186).app (lw_arg (j := 2) hC hX hbl rfl hL h0 h4 (by omega) dL_law_187 dL_law_188 dL_law_190 dL_law_191 dL_law_192)).app (lw_arg (j := 3) hC hX hbl rfl hL h0 h4 (by omega) dL_law_193 dL_law_194 dL_law_196 dL_law_197 dL_law_198)).app (lw_arg (j := 4) hC hX hbl rfl hL h0 h4 (by omega) dL_law_199 dL_law_200 dL_law_202 dL_law_203 dL_law_204)).app (lw_arg (j := 5) hC hX hbl rfl hL h0 h4 (by omega) dL_law_205 dL_law_206 dL_law_208 dL_law_209 dL_law_210)) dL_law_211 dL_law_214 (((((lw_arg (j := 1) hC hX hbl rfl hL h0 h4 (by omega) dL_law_215 dL_law_216 dL_law_218 dL_law_219 dL_law_220).app (lw_arg (j := 2) hC hX hbl rfl hL h0 h4 (by omega) dL_law_221 dL_law_222 dL_law_224 dL_law_225 dL_law_226)).app (lw_arg (j := 3) hC hX hbl rfl hL h0 h4 (by omega) dL_law_227 dL_law_228 dL_law_230 dL_law_231 dL_law_232)).app (lw_arg (j := 4) hC hX hbl rfl hL h0 h4 (by omega) dL_law_233 dL_law_234 dL_law_236 dL_law_237 dL_law_238)).app (lw_arg (j := 5) hC hX hbl rfl hL h0 h4 (by omega) dL_law_239 dL_law_240 dL_law_242 dL_law_243 dL_law_244)) dL_law_245 dL_law_248 (tgt := 1243) (by decide) (fun H1 locs1 hR1 => ?_)
  exact lw_nx ⟨fun nc ns h1 h2 => hKx nc ns h1 h2, hX, hbl, hL⟩ a1 a2 a3 a4 hH hI2 hR1 hl
theorem lw_c1 (hK : lw_Kx p l e s m b below meth c D α γ L xs) {q nc ns nc2 ns2 : Nat} (hq : 6 * q + 6 ≤ L) (a1 : nc ≤ nc2) (a2 : ns ≤ ns2) (a3 : nc2 ≤ 1143) (a4 : ns2 ≤ 15636) (hH : lw_Hd p l e s m b below meth c D α γ (q + 1) nc2 ns2) {M : zM} {H : Heap} {locs : List Loc} {ls : Array Slot} (hI : gI M) (hR : z_Rl (lwX p l e s m b below meth c D α γ nc ns) M H locs) (hl : lv_has ls 7 (lwl b α (6 * q))) : x_W (lwX p l e s m b below meth c D α γ nc ns) H locs (F0 m 253 ls []) := by
  have hC := hK.1 nc ns (by omega) (by omega)
  obtain ⟨hKx, hX, hbl, hL⟩ := hK
  have h0 := lv_at hl 0 rfl
  have h4 := lv_at hl 4 rfl
  obtain ⟨r, M1, M2, ef, eg, hI2⟩ := i_tell hI (xs (6 * q + 1)).toInt
  refine lw_pairI hC rfl rfl rfl hR hl.1 (lv_at hl 1 rfl) (lv_at hl 2 rfl) (as := [zI (xs (6 * q + 1)).toInt]) (fun v hv => by simp only [List.mem_cons, List.not_mem_nil, or_false] at hv; rcases hv with rfl <;> first | exact z_rti _ | exact b2z_rI _) lwf_X11_tell lwf_X12_tell rfl (zsh_X11_tell ef) ef eg dL_law_253 (lw_arg (j := 1) hC hX hbl rfl hL h0 h4 (by omega) dL_law_254 dL_law_255 dL_law_257 dL_law_258 dL_law_259) dL_law_260 dL_law_263 (lw_arg (j := 1) hC hX hbl rfl hL h0 h4 (by omega) dL_law_264 dL_law_265 dL_law_267 dL_law_268 dL_law_269) dL_law_270 dL_law_273 (tgt := 1243) (by decide) (fun H1 locs1 hR1 => ?_)
  exact lw_nx ⟨fun nc ns h1 h2 => hKx nc ns h1 h2, hX, hbl, hL⟩ a1 a2 a3 a4 hH hI2 hR1 hl
theorem lw_c2 (hK : lw_Kx p l e s m b below meth c D α γ L xs) {q nc ns nc2 ns2 : Nat} (hq : 6 * q + 6 ≤ L) (a1 : nc ≤ nc2) (a2 : ns ≤ ns2) (a3 : nc2 ≤ 1143) (a4 : ns2 ≤ 15636) (hH : lw_Hd p l e s m b below meth c D α γ (q + 1) nc2 ns2) {M : zM} {H : Heap} {locs : List Loc} {ls : Array Slot} (hI : gI M) (hR : z_Rl (lwX p l e s m b below meth c D α γ nc ns) M H locs) (hl : lv_has ls 7 (lwl b α (6 * q))) : x_W (lwX p l e s m b below meth c D α γ nc ns) H locs (F0 m 278 ls []) := by
  have hC := hK.1 nc ns (by omega) (by omega)
  obtain ⟨hKx, hX, hbl, hL⟩ := hK
  have h0 := lv_at hl 0 rfl
  have h4 := lv_at hl 4 rfl
  obtain ⟨cI, VI, hCS, hRS, hvI, hxI⟩ := id hI
  have hQ : gQ M cI VI := ⟨hCS.2.1, hCS.2.2.2.1, hCS.co hvI, hRS.mo hvI⟩
  have hft : M 1 2 = M 84 4 ∧ M 1 3 = M 84 5 := ⟨hCS.2.2.2.2.2.2.2.1.1.trans hRS.2.2.2.1.1.symm, hCS.2.2.2.2.2.2.2.1.2.1.trans hRS.2.2.2.1.2.1.symm⟩
  obtain ⟨r, M1, M2, ef, eg, hI2⟩ := Pr.i hI (q_fault hQ hft (xs (6 * q + 1)).toInt)
  refine lw_pairI hC rfl rfl rfl hR hl.1 (lv_at hl 1 rfl) (lv_at hl 2 rfl) (as := [zI (xs (6 * q + 1)).toInt]) (fun v hv => by simp only [List.mem_cons, List.not_mem_nil, or_false] at hv; rcases hv with rfl <;> first | exact z_rti _ | exact b2z_rI _) lwf_X11_fault lwf_X12_fault rfl (zsh_X11_fault ef) ef eg dL_law_278 (lw_arg (j := 1) hC hX hbl rfl hL h0 h4 (by omega) dL_law_279 dL_law_280 dL_law_282 dL_law_283 dL_law_284) dL_law_285 dL_law_288 (lw_arg (j := 1) hC hX hbl rfl hL h0 h4 (by omega) dL_law_289 dL_law_290 dL_law_292 dL_law_293 dL_law_294) dL_law_295 dL_law_298 (tgt := 1243) (by decide) (fun H1 locs1 hR1 => ?_)
  exact lw_nx ⟨fun nc ns h1 h2 => hKx nc ns h1 h2, hX, hbl, hL⟩ a1 a2 a3 a4 hH hI2 hR1 hl
theorem lw_c3 (hK : lw_Kx p l e s m b below meth c D α γ L xs) {q nc ns nc2 ns2 : Nat} (hq : 6 * q + 6 ≤ L) (a1 : nc ≤ nc2) (a2 : ns ≤ ns2) (a3 : nc2 ≤ 1143) (a4 : ns2 ≤ 15636) (hH : lw_Hd p l e s m b below meth c D α γ (q + 1) nc2 ns2) {M : zM} {H : Heap} {locs : List Loc} {ls : Array Slot} (hI : gI M) (hR : z_Rl (lwX p l e s m b below meth c D α γ nc ns) M H locs) (hl : lv_has ls 7 (lwl b α (6 * q))) : x_W (lwX p l e s m b below meth c D α γ nc ns) H locs (F0 m 303 ls []) := by
  have hC := hK.1 nc ns (by omega) (by omega)
  obtain ⟨hKx, hX, hbl, hL⟩ := hK
  have h0 := lv_at hl 0 rfl
  have h4 := lv_at hl 4 rfl
  obtain ⟨cI, VI, hCS, hRS, hvI, hxI⟩ := id hI
  have hQ : gQ M cI VI := ⟨hCS.2.1, hCS.2.2.2.1, hCS.co hvI, hRS.mo hvI⟩
  obtain ⟨r, M1, M2, ef, eg, hI2⟩ := Pr.i hI (q_named hQ (xs (6 * q + 1)).toInt (xs (6 * q + 2)).toInt)
  refine lw_pairI hC rfl rfl rfl hR hl.1 (lv_at hl 1 rfl) (lv_at hl 2 rfl) (as := [zI (xs (6 * q + 1)).toInt, zI (xs (6 * q + 2)).toInt]) (fun v hv => by simp only [List.mem_cons, List.not_mem_nil, or_false] at hv; rcases hv with rfl | rfl <;> first | exact z_rti _ | exact b2z_rI _) lwf_X11_named lwf_X12_named rfl (zsh_X11_named ef) ef eg dL_law_303 ((lw_arg (j := 1) hC hX hbl rfl hL h0 h4 (by omega) dL_law_304 dL_law_305 dL_law_307 dL_law_308 dL_law_309).app (lw_arg (j := 2) hC hX hbl rfl hL h0 h4 (by omega) dL_law_310 dL_law_311 dL_law_313 dL_law_314 dL_law_315)) dL_law_316 dL_law_319 ((lw_arg (j := 1) hC hX hbl rfl hL h0 h4 (by omega) dL_law_320 dL_law_321 dL_law_323 dL_law_324 dL_law_325).app (lw_arg (j := 2) hC hX hbl rfl hL h0 h4 (by omega) dL_law_326 dL_law_327 dL_law_329 dL_law_330 dL_law_331)) dL_law_332 dL_law_335 (tgt := 1243) (by decide) (fun H1 locs1 hR1 => ?_)
  exact lw_nx ⟨fun nc ns h1 h2 => hKx nc ns h1 h2, hX, hbl, hL⟩ a1 a2 a3 a4 hH hI2 hR1 hl
theorem lw_c5 (hK : lw_Kx p l e s m b below meth c D α γ L xs) {q nc ns nc2 ns2 : Nat} (hq : 6 * q + 6 ≤ L) (a1 : nc ≤ nc2) (a2 : ns ≤ ns2) (a3 : nc2 ≤ 1143) (a4 : ns2 ≤ 15636) (hH : lw_Hd p l e s m b below meth c D α γ (q + 1) nc2 ns2) {M : zM} {H : Heap} {locs : List Loc} {ls : Array Slot} (hI : gI M) (hR : z_Rl (lwX p l e s m b below meth c D α γ nc ns) M H locs) (hl : lv_has ls 7 (lwl b α (6 * q))) : x_W (lwX p l e s m b below meth c D α γ nc ns) H locs (F0 m 408 ls []) := by
  have hC := hK.1 nc ns (by omega) (by omega)
  obtain ⟨hKx, hX, hbl, hL⟩ := hK
  have h0 := lv_at hl 0 rfl
  have h4 := lv_at hl 4 rfl
  obtain ⟨cI, VI, hCS, hRS, hvI, hxI⟩ := id hI
  have hQ : gQ M cI VI := ⟨hCS.2.1, hCS.2.2.2.1, hCS.co hvI, hRS.mo hvI⟩
  obtain ⟨r, M1, M2, ef, eg, hI2⟩ := Pr.i hI (q_teller hQ (xs (6 * q + 1)).toInt (xs (6 * q + 2)).toInt)
  refine lw_pairI hC rfl rfl rfl hR hl.1 (lv_at hl 1 rfl) (lv_at hl 2 rfl) (as := [zI (xs (6 * q + 1)).toInt, zI (xs (6 * q + 2)).toInt]) (fun v hv => by simp only [List.mem_cons, List.not_mem_nil, or_false] at hv; rcases hv with rfl | rfl <;> first | exact z_rti _ | exact b2z_rI _) lwf_X11_teller lwf_X12_teller rfl (zsh_X11_teller ef) ef eg dL_law_408 ((lw_arg (j := 1) hC hX hbl rfl hL h0 h4 (by omega) dL_law_409 dL_law_410 dL_law_412 dL_law_413 dL_law_414).app (lw_arg (j := 2) hC hX hbl rfl hL h0 h4 (by omega) dL_law_415 dL_law_416 dL_law_418 dL_law_419 dL_law_420)) dL_law_421 dL_law_424 ((lw_arg (j := 1) hC hX hbl rfl hL h0 h4 (by omega) dL_law_425 dL_law_426 dL_law_428 dL_law_429 dL_law_430).app (lw_arg (j := 2) hC hX hbl rfl hL h0 h4 (by omega) dL_law_431 dL_law_432 dL_law_434 dL_law_435 dL_law_436)) dL_law_437 dL_law_440 (tgt := 1243) (by decide) (fun H1 locs1 hR1 => ?_)
  exact lw_nx ⟨fun nc ns h1 h2 => hKx nc ns h1 h2, hX, hbl, hL⟩ a1 a2 a3 a4 hH hI2 hR1 hl
theorem lw_c6 (hK : lw_Kx p l e s m b below meth c D α γ L xs) {q nc ns nc2 ns2 : Nat} (hq : 6 * q + 6 ≤ L) (a1 : nc ≤ nc2) (a2 : ns ≤ ns2) (a3 : nc2 ≤ 1143) (a4 : ns2 ≤ 15636) (hH : lw_Hd p l e s m b below meth c D α γ (q + 1) nc2 ns2) {M : zM} {H : Heap} {locs : List Loc} {ls : Array Slot} (hI : gI M) (hR : z_Rl (lwX p l e s m b below meth c D α γ nc ns) M H locs) (hl : lv_has ls 7 (lwl b α (6 * q))) : x_W (lwX p l e s m b below meth c D α γ nc ns) H locs (F0 m 445 ls []) := by
  have hC := hK.1 nc ns (by omega) (by omega)
  obtain ⟨hKx, hX, hbl, hL⟩ := hK
  have h0 := lv_at hl 0 rfl
  have h4 := lv_at hl 4 rfl
  obtain ⟨cI, VI, hCS, hRS, hvI, hxI⟩ := id hI
  have hQ : gQ M cI VI := ⟨hCS.2.1, hCS.2.2.2.1, hCS.co hvI, hRS.mo hvI⟩
  obtain ⟨r, M1, M2, ef, eg, hI2⟩ := Pr.i hI (q_line hQ (xs (6 * q + 1)).toInt (xs (6 * q + 2)).toInt)
  refine lw_pairI hC rfl rfl rfl hR hl.1 (lv_at hl 1 rfl) (lv_at hl 2 rfl) (as := [zI (xs (6 * q + 1)).toInt, zI (xs (6 * q + 2)).toInt]) (fun v hv => by simp only [List.mem_cons, List.not_mem_nil, or_false] at hv; rcases hv with rfl | rfl <;> first | exact z_rti _ | exact b2z_rI _) lwf_X11_line lwf_X12_line rfl (zsh_X11_line ef) ef eg dL_law_445 ((lw_arg (j := 1) hC hX hbl rfl hL h0 h4 (by omega) dL_law_446 dL_law_447 dL_law_449 dL_law_450 dL_law_451).app (lw_arg (j := 2) hC hX hbl rfl hL h0 h4 (by omega) dL_law_452 dL_law_453 dL_law_455 dL_law_456 dL_law_457)) dL_law_458 dL_law_461 ((lw_arg (j := 1) hC hX hbl rfl hL h0 h4 (by omega) dL_law_462 dL_law_463 dL_law_465 dL_law_466 dL_law_467).app (lw_arg (j := 2) hC hX hbl rfl hL h0 h4 (by omega) dL_law_468 dL_law_469 dL_law_471 dL_law_472 dL_law_473)) dL_law_474 dL_law_477 (tgt := 1243) (by decide) (fun H1 locs1 hR1 => ?_)
  exact lw_nx ⟨fun nc ns h1 h2 => hKx nc ns h1 h2, hX, hbl, hL⟩ a1 a2 a3 a4 hH hI2 hR1 hl
theorem lw_c7 (hK : lw_Kx p l e s m b below meth c D α γ L xs) {q nc ns nc2 ns2 : Nat} (hq : 6 * q + 6 ≤ L) (a1 : nc ≤ nc2) (a2 : ns ≤ ns2) (a3 : nc2 ≤ 1143) (a4 : ns2 ≤ 15636) (hH : lw_Hd p l e s m b below meth c D α γ (q + 1) nc2 ns2) {M : zM} {H : Heap} {locs : List Loc} {ls : Array Slot} (hI : gI M) (hR : z_Rl (lwX p l e s m b below meth c D α γ nc ns) M H locs) (hl : lv_has ls 7 (lwl b α (6 * q))) : x_W (lwX p l e s m b below meth c D α γ nc ns) H locs (F0 m 482 ls []) := by
  have hC := hK.1 nc ns (by omega) (by omega)
  obtain ⟨hKx, hX, hbl, hL⟩ := hK
  have h0 := lv_at hl 0 rfl
  have h4 := lv_at hl 4 rfl
  have hy := b2z_01 (xs (6 * q + 1))
  obtain ⟨r, M1, M2, ef, eg, hI2⟩ := i_say hI hy (xs (6 * q + 2)).toInt (xs (6 * q + 3)).toInt (xs (6 * q + 4)).toInt (xs (6 * q + 5)).toInt
  refine lw_pairI hC rfl rfl rfl hR hl.1 (lv_at hl 1 rfl) (lv_at hl 2 rfl) (as := [zI (b2z (xs (6 * q + 1))), zI (xs (6 * q + 2)).toInt, zI (xs (6 * q + 3)).toInt, zI (xs (6 * q + 4)).toInt, zI (xs (6 * q + 5)).toInt]) (fun v hv => by simp only [List.mem_cons, List.not_mem_nil, or_false] at hv; rcases hv with rfl | rfl | rfl | rfl | rfl <;> first | exact z_rti _ | exact b2z_rI _) lwf_X11_say lwf_X12_say rfl (zsh_X11_say ef) ef eg dL_law_482 ((lw_bool hC hX hbl rfl hL h0 h4 (by omega) dL_law_483 dL_law_484 dL_law_486 dL_law_487 dL_law_488 dL_law_489 dL_law_492 dL_law_493 dL_law_496).app ((((lw_arg (j := 2) hC hX hbl rfl hL h0 h4 (by omega) dL_law_497 dL_law_498 dL_law_500 dL_law_501 dL_law_502).app (lw_arg (j := 3) hC hX hbl rfl hL h0 h4 (by omega) dL_law_503 dL_law_504 dL_law_506 dL_law_507 dL_law_508)).app (lw_arg (j := 4) hC hX hbl rfl hL h0 h4 (by omega) dL_law_509 dL_law_510 dL_law_512 dL_law_513 dL_law_514)).app (lw_arg (j := 5) hC hX hbl rfl hL h0 h4 (by omega) dL_law_515 dL_law_516 dL_law_518 dL_law_519 dL_law_520))) dL_law_521 dL_law_524 ((lw_bool hC hX hbl rfl hL h0 h4 (by omega) dL_law_525 dL_law_526 dL_law_528 dL_law_529 dL_law_530 dL_law_531 dL_law_534 dL_law_535 dL_law_538).app ((((lw_arg (j := 2) hC hX hbl rfl hL h0 h4 (by omega) dL_law_539 dL_law_540 dL_law_542 dL_law_543 dL_law_544).app (lw_arg (j := 3) hC hX hbl rfl hL h0 h4 (by omega) dL_law_545 dL_law_546 dL_law_548 dL_law_549 dL_law_550)).app (lw_arg (j := 4) hC hX hbl rfl hL h0 h4 (by omega) dL_law_551 dL_law_552 dL_law_554 dL_law_555 dL_law_556)).app (lw_arg (j := 5) hC hX hbl rfl hL h0 h4 (by omega) dL_law_557 dL_law_558 dL_law_560 dL_law_561 dL_law_562))) dL_law_563 dL_law_566 (tgt := 1243) (by decide) (fun H1 locs1 hR1 => ?_)
  exact lw_nx ⟨fun nc ns h1 h2 => hKx nc ns h1 h2, hX, hbl, hL⟩ a1 a2 a3 a4 hH hI2 hR1 hl
theorem lw_c8 (hK : lw_Kx p l e s m b below meth c D α γ L xs) {q nc ns nc2 ns2 : Nat} (hq : 6 * q + 6 ≤ L) (a1 : nc ≤ nc2) (a2 : ns ≤ ns2) (a3 : nc2 ≤ 1143) (a4 : ns2 ≤ 15636) (hH : lw_Hd p l e s m b below meth c D α γ (q + 1) nc2 ns2) {M : zM} {H : Heap} {locs : List Loc} {ls : Array Slot} (hI : gI M) (hR : z_Rl (lwX p l e s m b below meth c D α γ nc ns) M H locs) (hl : lv_has ls 7 (lwl b α (6 * q))) : x_W (lwX p l e s m b below meth c D α γ nc ns) H locs (F0 m 571 ls []) := by
  have hC := hK.1 nc ns (by omega) (by omega)
  obtain ⟨hKx, hX, hbl, hL⟩ := hK
  have h0 := lv_at hl 0 rfl
  have h4 := lv_at hl 4 rfl
  obtain ⟨r, M1, M2, ef, eg, hI2⟩ := i_undo hI
  refine lw_pairI hC rfl rfl rfl hR hl.1 (lv_at hl 1 rfl) (lv_at hl 2 rfl) (as := []) (fun v hv => by cases hv) lwf_X11_undo lwf_X12_undo rfl (zsh_X11_undo ef) ef eg dL_law_571 lw_Ld.nil dL_law_572 dL_law_575 lw_Ld.nil dL_law_576 dL_law_579 (tgt := 1243) (by decide) (fun H1 locs1 hR1 => ?_)
  exact lw_nx ⟨fun nc ns h1 h2 => hKx nc ns h1 h2, hX, hbl, hL⟩ a1 a2 a3 a4 hH hI2 hR1 hl
theorem lw_c9 (hK : lw_Kx p l e s m b below meth c D α γ L xs) {q nc ns nc2 ns2 : Nat} (hq : 6 * q + 6 ≤ L) (a1 : nc ≤ nc2) (a2 : ns ≤ ns2) (a3 : nc2 ≤ 1143) (a4 : ns2 ≤ 15636) (hH : lw_Hd p l e s m b below meth c D α γ (q + 1) nc2 ns2) {M : zM} {H : Heap} {locs : List Loc} {ls : Array Slot} (hI : gI M) (hR : z_Rl (lwX p l e s m b below meth c D α γ nc ns) M H locs) (hl : lv_has ls 7 (lwl b α (6 * q))) : x_W (lwX p l e s m b below meth c D α γ nc ns) H locs (F0 m 584 ls []) := by
  have hC := hK.1 nc ns (by omega) (by omega)
  obtain ⟨hKx, hX, hbl, hL⟩ := hK
  have h0 := lv_at hl 0 rfl
  have h4 := lv_at hl 4 rfl
  obtain ⟨r, M1, M2, ef, eg, hI2⟩ := i_hear hI (xs (6 * q + 1)).toInt
  refine lw_pairI hC rfl rfl rfl hR hl.1 (lv_at hl 1 rfl) (lv_at hl 2 rfl) (as := [zI (xs (6 * q + 1)).toInt]) (fun v hv => by simp only [List.mem_cons, List.not_mem_nil, or_false] at hv; rcases hv with rfl <;> first | exact z_rti _ | exact b2z_rI _) lwf_X11_hear lwf_X12_hear rfl (zsh_X11_hear ef) ef eg dL_law_584 (lw_arg (j := 1) hC hX hbl rfl hL h0 h4 (by omega) dL_law_585 dL_law_586 dL_law_588 dL_law_589 dL_law_590) dL_law_591 dL_law_594 (lw_arg (j := 1) hC hX hbl rfl hL h0 h4 (by omega) dL_law_595 dL_law_596 dL_law_598 dL_law_599 dL_law_600) dL_law_601 dL_law_604 (tgt := 1243) (by decide) (fun H1 locs1 hR1 => ?_)
  exact lw_nx ⟨fun nc ns h1 h2 => hKx nc ns h1 h2, hX, hbl, hL⟩ a1 a2 a3 a4 hH hI2 hR1 hl
theorem lw_c10 (hK : lw_Kx p l e s m b below meth c D α γ L xs) {q nc ns nc2 ns2 : Nat} (hq : 6 * q + 6 ≤ L) (a1 : nc ≤ nc2) (a2 : ns ≤ ns2) (a3 : nc2 ≤ 1143) (a4 : ns2 ≤ 15636) (hH : lw_Hd p l e s m b below meth c D α γ (q + 1) nc2 ns2) {M : zM} {H : Heap} {locs : List Loc} {ls : Array Slot} (hI : gI M) (hR : z_Rl (lwX p l e s m b below meth c D α γ nc ns) M H locs) (hl : lv_has ls 7 (lwl b α (6 * q))) : x_W (lwX p l e s m b below meth c D α γ nc ns) H locs (F0 m 609 ls []) := by
  have hC := hK.1 nc ns (by omega) (by omega)
  obtain ⟨hKx, hX, hbl, hL⟩ := hK
  have h0 := lv_at hl 0 rfl
  have h4 := lv_at hl 4 rfl
  obtain ⟨cI, VI, hCS, hRS, hvI, hxI⟩ := id hI
  have hQ : gQ M cI VI := ⟨hCS.2.1, hCS.2.2.2.1, hCS.co hvI, hRS.mo hvI⟩
  obtain ⟨r, M1, M2, ef, eg, hI2⟩ := Pr.i hI (q_word hQ (xs (6 * q + 1)).toInt)
  refine lw_pairI hC rfl rfl rfl hR hl.1 (lv_at hl 1 rfl) (lv_at hl 2 rfl) (as := [zI (xs (6 * q + 1)).toInt]) (fun v hv => by simp only [List.mem_cons, List.not_mem_nil, or_false] at hv; rcases hv with rfl <;> first | exact z_rti _ | exact b2z_rI _) lwf_X11_word lwf_X12_word rfl (zsh_X11_word ef) ef eg dL_law_609 (lw_arg (j := 1) hC hX hbl rfl hL h0 h4 (by omega) dL_law_610 dL_law_611 dL_law_613 dL_law_614 dL_law_615) dL_law_616 dL_law_619 (lw_arg (j := 1) hC hX hbl rfl hL h0 h4 (by omega) dL_law_620 dL_law_621 dL_law_623 dL_law_624 dL_law_625) dL_law_626 dL_law_629 (tgt := 1243) (by decide) (fun H1 locs1 hR1 => ?_)
  exact lw_nx ⟨fun nc ns h1 h2 => hKx nc ns h1 h2, hX, hbl, hL⟩ a1 a2 a3 a4 hH hI2 hR1 hl
theorem lw_c11 (hK : lw_Kx p l e s m b below meth c D α γ L xs) {q nc ns nc2 ns2 : Nat} (hq : 6 * q + 6 ≤ L) (a1 : nc ≤ nc2) (a2 : ns ≤ ns2) (a3 : nc2 ≤ 1143) (a4 : ns2 ≤ 15636) (hH : lw_Hd p l e s m b below meth c D α γ (q + 1) nc2 ns2) {M : zM} {H : Heap} {locs : List Loc} {ls : Array Slot} (hI : gI M) (hR : z_Rl (lwX p l e s m b below meth c D α γ nc ns) M H locs) (hl : lv_has ls 7 (lwl b α (6 * q))) : x_W (lwX p l e s m b below meth c D α γ nc ns) H locs (F0 m 634 ls []) := by
  have hC := hK.1 nc ns (by omega) (by omega)
  obtain ⟨hKx, hX, hbl, hL⟩ := hK
  have h0 := lv_at hl 0 rfl
  have h4 := lv_at hl 4 rfl
  obtain ⟨cI, VI, hCS, hRS, hvI, hxI⟩ := id hI
  have hQ : gQ M cI VI := ⟨hCS.2.1, hCS.2.2.2.1, hCS.co hvI, hRS.mo hvI⟩
  obtain ⟨r, M1, M2, ef, eg, hI2⟩ := Pr.i hI (q_led hQ (xs (6 * q + 1)).toInt)
  refine lw_pairI hC rfl rfl rfl hR hl.1 (lv_at hl 1 rfl) (lv_at hl 2 rfl) (as := [zI (xs (6 * q + 1)).toInt]) (fun v hv => by simp only [List.mem_cons, List.not_mem_nil, or_false] at hv; rcases hv with rfl <;> first | exact z_rti _ | exact b2z_rI _) lwf_X11_led lwf_X12_led rfl (zsh_X11_led ef) ef eg dL_law_634 (lw_arg (j := 1) hC hX hbl rfl hL h0 h4 (by omega) dL_law_635 dL_law_636 dL_law_638 dL_law_639 dL_law_640) dL_law_641 dL_law_644 (lw_arg (j := 1) hC hX hbl rfl hL h0 h4 (by omega) dL_law_645 dL_law_646 dL_law_648 dL_law_649 dL_law_650) dL_law_651 dL_law_654 (tgt := 1243) (by decide) (fun H1 locs1 hR1 => ?_)
  exact lw_nx ⟨fun nc ns h1 h2 => hKx nc ns h1 h2, hX, hbl, hL⟩ a1 a2 a3 a4 hH hI2 hR1 hl
theorem lw_c12 (hK : lw_Kx p l e s m b below meth c D α γ L xs) {q nc ns nc2 ns2 : Nat} (hq : 6 * q + 6 ≤ L) (a1 : nc ≤ nc2) (a2 : ns ≤ ns2) (a3 : nc2 ≤ 1143) (a4 : ns2 ≤ 15636) (hH : lw_Hd p l e s m b below meth c D α γ (q + 1) nc2 ns2) {M : zM} {H : Heap} {locs : List Loc} {ls : Array Slot} (hI : gI M) (hR : z_Rl (lwX p l e s m b below meth c D α γ nc ns) M H locs) (hl : lv_has ls 7 (lwl b α (6 * q))) : x_W (lwX p l e s m b below meth c D α γ nc ns) H locs (F0 m 659 ls []) := by
  have hC := hK.1 nc ns (by omega) (by omega)
  obtain ⟨hKx, hX, hbl, hL⟩ := hK
  have h0 := lv_at hl 0 rfl
  have h4 := lv_at hl 4 rfl
  obtain ⟨cI, VI, hCS, hRS, hvI, hxI⟩ := id hI
  have hQ : gQ M cI VI := ⟨hCS.2.1, hCS.2.2.2.1, hCS.co hvI, hRS.mo hvI⟩
  obtain ⟨r, M1, M2, ef, eg, hI2⟩ := Pr.i hI (q_words hQ (xs (6 * q + 1)).toInt (xs (6 * q + 2)).toInt)
  refine lw_pairI hC rfl rfl rfl hR hl.1 (lv_at hl 1 rfl) (lv_at hl 2 rfl) (as := [zI (xs (6 * q + 1)).toInt, zI (xs (6 * q + 2)).toInt]) (fun v hv => by simp only [List.mem_cons, List.not_mem_nil, or_false] at hv; rcases hv with rfl | rfl <;> first | exact z_rti _ | exact b2z_rI _) lwf_X11_words lwf_X12_words rfl (zsh_X11_words ef) ef eg dL_law_659 ((lw_arg (j := 1) hC hX hbl rfl hL h0 h4 (by omega) dL_law_660 dL_law_661 dL_law_663 dL_law_664 dL_law_665).app (lw_arg (j := 2) hC hX hbl rfl hL h0 h4 (by omega) dL_law_666 dL_law_667 dL_law_669 dL_law_670 dL_law_671)) dL_law_672 dL_law_675 ((lw_arg (j := 1) hC hX hbl rfl hL h0 h4 (by omega) dL_law_676 dL_law_677 dL_law_679 dL_law_680 dL_law_681).app (lw_arg (j := 2) hC hX hbl rfl hL h0 h4 (by omega) dL_law_682 dL_law_683 dL_law_685 dL_law_686 dL_law_687)) dL_law_688 dL_law_691 (tgt := 1243) (by decide) (fun H1 locs1 hR1 => ?_)
  exact lw_nx ⟨fun nc ns h1 h2 => hKx nc ns h1 h2, hX, hbl, hL⟩ a1 a2 a3 a4 hH hI2 hR1 hl
theorem lw_c13 (hK : lw_Kx p l e s m b below meth c D α γ L xs) {q nc ns nc2 ns2 : Nat} (hq : 6 * q + 6 ≤ L) (a1 : nc ≤ nc2) (a2 : ns ≤ ns2) (a3 : nc2 ≤ 1143) (a4 : ns2 ≤ 15636) (hH : lw_Hd p l e s m b below meth c D α γ (q + 1) nc2 ns2) {M : zM} {H : Heap} {locs : List Loc} {ls : Array Slot} (hI : gI M) (hR : z_Rl (lwX p l e s m b below meth c D α γ nc ns) M H locs) (hl : lv_has ls 7 (lwl b α (6 * q))) : x_W (lwX p l e s m b below meth c D α γ nc ns) H locs (F0 m 696 ls []) := by
  have hC := hK.1 nc ns (by omega) (by omega)
  obtain ⟨hKx, hX, hbl, hL⟩ := hK
  have h0 := lv_at hl 0 rfl
  have h4 := lv_at hl 4 rfl
  obtain ⟨r, M1, M2, ef, eg, hI2⟩ := i_truth hI (xs (6 * q + 1)).toInt
  refine lw_pairI hC rfl rfl rfl hR hl.1 (lv_at hl 1 rfl) (lv_at hl 2 rfl) (as := [zI (xs (6 * q + 1)).toInt]) (fun v hv => by simp only [List.mem_cons, List.not_mem_nil, or_false] at hv; rcases hv with rfl <;> first | exact z_rti _ | exact b2z_rI _) lwf_X11_truth lwf_X12_truth rfl (zsh_X11_truth ef) ef eg dL_law_696 (lw_arg (j := 1) hC hX hbl rfl hL h0 h4 (by omega) dL_law_697 dL_law_698 dL_law_700 dL_law_701 dL_law_702) dL_law_703 dL_law_706 (lw_arg (j := 1) hC hX hbl rfl hL h0 h4 (by omega) dL_law_707 dL_law_708 dL_law_710 dL_law_711 dL_law_712) dL_law_713 dL_law_716 (tgt := 1243) (by decide) (fun H1 locs1 hR1 => ?_)
  exact lw_nx ⟨fun nc ns h1 h2 => hKx nc ns h1 h2, hX, hbl, hL⟩ a1 a2 a3 a4 hH hI2 hR1 hl
theorem lw_c14 (hK : lw_Kx p l e s m b below meth c D α γ L xs) {q nc ns nc2 ns2 : Nat} (hq : 6 * q + 6 ≤ L) (a1 : nc ≤ nc2) (a2 : ns ≤ ns2) (a3 : nc2 ≤ 1143) (a4 : ns2 ≤ 15636) (hH : lw_Hd p l e s m b below meth c D α γ (q + 1) nc2 ns2) {M : zM} {H : Heap} {locs : List Loc} {ls : Array Slot} (hI : gI M) (hR : z_Rl (lwX p l e s m b below meth c D α γ nc ns) M H locs) (hl : lv_has ls 7 (lwl b α (6 * q))) : x_W (lwX p l e s m b below meth c D α γ nc ns) H locs (F0 m 721 ls []) := by
  have hC := hK.1 nc ns (by omega) (by omega)
  obtain ⟨hKx, hX, hbl, hL⟩ := hK
  have h0 := lv_at hl 0 rfl
  have h4 := lv_at hl 4 rfl
  obtain ⟨r, M1, M2, ef, eg, hI2⟩ := i_begin hI (xs (6 * q + 1)).toInt (xs (6 * q + 2)).toInt
  refine lw_pairI hC rfl rfl rfl hR hl.1 (lv_at hl 1 rfl) (lv_at hl 2 rfl) (as := [zI (xs (6 * q + 1)).toInt, zI (xs (6 * q + 2)).toInt]) (fun v hv => by simp only [List.mem_cons, List.not_mem_nil, or_false] at hv; rcases hv with rfl | rfl <;> first | exact z_rti _ | exact b2z_rI _) lwf_X11_begin lwf_X12_begin rfl (zsh_X11_begin ef) ef eg dL_law_721 ((lw_arg (j := 1) hC hX hbl rfl hL h0 h4 (by omega) dL_law_722 dL_law_723 dL_law_725 dL_law_726 dL_law_727).app (lw_arg (j := 2) hC hX hbl rfl hL h0 h4 (by omega) dL_law_728 dL_law_729 dL_law_731 dL_law_732 dL_law_733)) dL_law_734 dL_law_737 ((lw_arg (j := 1) hC hX hbl rfl hL h0 h4 (by omega) dL_law_738 dL_law_739 dL_law_741 dL_law_742 dL_law_743).app (lw_arg (j := 2) hC hX hbl rfl hL h0 h4 (by omega) dL_law_744 dL_law_745 dL_law_747 dL_law_748 dL_law_749)) dL_law_750 dL_law_753 (tgt := 1243) (by decide) (fun H1 locs1 hR1 => ?_)
  exact lw_nx ⟨fun nc ns h1 h2 => hKx nc ns h1 h2, hX, hbl, hL⟩ a1 a2 a3 a4 hH hI2 hR1 hl
theorem lw_c15 (hK : lw_Kx p l e s m b below meth c D α γ L xs) {q nc ns nc2 ns2 : Nat} (hq : 6 * q + 6 ≤ L) (a1 : nc ≤ nc2) (a2 : ns ≤ ns2) (a3 : nc2 ≤ 1143) (a4 : ns2 ≤ 15636) (hH : lw_Hd p l e s m b below meth c D α γ (q + 1) nc2 ns2) {M : zM} {H : Heap} {locs : List Loc} {ls : Array Slot} (hI : gI M) (hR : z_Rl (lwX p l e s m b below meth c D α γ nc ns) M H locs) (hl : lv_has ls 7 (lwl b α (6 * q))) : x_W (lwX p l e s m b below meth c D α γ nc ns) H locs (F0 m 758 ls []) := by
  have hC := hK.1 nc ns (by omega) (by omega)
  obtain ⟨hKx, hX, hbl, hL⟩ := hK
  have h0 := lv_at hl 0 rfl
  have h4 := lv_at hl 4 rfl
  obtain ⟨cI, VI, hCS, hRS, hvI, hxI⟩ := id hI
  have hQ : gQ M cI VI := ⟨hCS.2.1, hCS.2.2.2.1, hCS.co hvI, hRS.mo hvI⟩
  have hgT : gT M := gI_gT hCS hRS hxI
  obtain ⟨r, M1, M2, ef, eg, hI2⟩ := Pr.i hI (q_odds hQ hgT (xs (6 * q + 1)).toInt (xs (6 * q + 2)).toInt (xs (6 * q + 3)).toInt)
  refine lw_pairJ hC rfl rfl rfl hR hl.1 (lv_at hl 1 rfl) (lv_at hl 2 rfl) (as := [zI (xs (6 * q + 1)).toInt, zI (xs (6 * q + 2)).toInt, zI (xs (6 * q + 3)).toInt]) (fun v hv => by simp only [List.mem_cons, List.not_mem_nil, or_false] at hv; rcases hv with rfl | rfl | rfl <;> first | exact z_rti _ | exact b2z_rI _) lwf_X11_odds lwf_X12_odds rfl (zsh_X11_odds ef) ef eg dL_law_758 (((lw_arg (j := 1) hC hX hbl rfl hL h0 h4 (by omega) dL_law_759 dL_law_760 dL_law_762 dL_law_763 dL_law_764).app (lw_arg (j := 2) hC hX hbl rfl hL h0 h4 (by omega) dL_law_765 dL_law_766 dL_law_768 dL_law_769 dL_law_770)).app (lw_arg (j := 3) hC hX hbl rfl hL h0 h4 (by omega) dL_law_771 dL_law_772 dL_law_774 dL_law_775 dL_law_776)) dL_law_777 dL_law_780 (((lw_arg (j := 1) hC hX hbl rfl hL h0 h4 (by omega) dL_law_781 dL_law_782 dL_law_784 dL_law_785 dL_law_786).app (lw_arg (j := 2) hC hX hbl rfl hL h0 h4 (by omega) dL_law_787 dL_law_788 dL_law_790 dL_law_791 dL_law_792)).app (lw_arg (j := 3) hC hX hbl rfl hL h0 h4 (by omega) dL_law_793 dL_law_794 dL_law_796 dL_law_797 dL_law_798)) dL_law_799 dL_law_802 dL_law_803 (tgt := 1243) (by decide) (fun H1 locs1 hR1 => ?_)
  exact lw_nx ⟨fun nc ns h1 h2 => hKx nc ns h1 h2, hX, hbl, hL⟩ a1 a2 a3 a4 hH hI2 hR1 hl
theorem lw_c16 (hK : lw_Kx p l e s m b below meth c D α γ L xs) {q nc ns nc2 ns2 : Nat} (hq : 6 * q + 6 ≤ L) (a1 : nc ≤ nc2) (a2 : ns ≤ ns2) (a3 : nc2 ≤ 1143) (a4 : ns2 ≤ 15636) (hH : lw_Hd p l e s m b below meth c D α γ (q + 1) nc2 ns2) {M : zM} {H : Heap} {locs : List Loc} {ls : Array Slot} (hI : gI M) (hR : z_Rl (lwX p l e s m b below meth c D α γ nc ns) M H locs) (hl : lv_has ls 7 (lwl b α (6 * q))) : x_W (lwX p l e s m b below meth c D α γ nc ns) H locs (F0 m 808 ls []) := by
  have hC := hK.1 nc ns (by omega) (by omega)
  obtain ⟨hKx, hX, hbl, hL⟩ := hK
  have h0 := lv_at hl 0 rfl
  have h4 := lv_at hl 4 rfl
  obtain ⟨cI, VI, hCS, hRS, hvI, hxI⟩ := id hI
  have hQ : gQ M cI VI := ⟨hCS.2.1, hCS.2.2.2.1, hCS.co hvI, hRS.mo hvI⟩
  obtain ⟨r, M1, M2, ef, eg, hI2⟩ := Pr.i hI (q_page hQ (xs (6 * q + 1)).toInt)
  refine lw_pairI hC rfl rfl rfl hR hl.1 (lv_at hl 1 rfl) (lv_at hl 2 rfl) (as := [zI (xs (6 * q + 1)).toInt]) (fun v hv => by simp only [List.mem_cons, List.not_mem_nil, or_false] at hv; rcases hv with rfl <;> first | exact z_rti _ | exact b2z_rI _) lwf_X11_page lwf_X12_page rfl (zsh_X11_page ef) ef eg dL_law_808 (lw_arg (j := 1) hC hX hbl rfl hL h0 h4 (by omega) dL_law_809 dL_law_810 dL_law_812 dL_law_813 dL_law_814) dL_law_815 dL_law_818 (lw_arg (j := 1) hC hX hbl rfl hL h0 h4 (by omega) dL_law_819 dL_law_820 dL_law_822 dL_law_823 dL_law_824) dL_law_825 dL_law_828 (tgt := 1243) (by decide) (fun H1 locs1 hR1 => ?_)
  exact lw_nx ⟨fun nc ns h1 h2 => hKx nc ns h1 h2, hX, hbl, hL⟩ a1 a2 a3 a4 hH hI2 hR1 hl
theorem lw_c17 (hK : lw_Kx p l e s m b below meth c D α γ L xs) {q nc ns nc2 ns2 : Nat} (hq : 6 * q + 6 ≤ L) (a1 : nc ≤ nc2) (a2 : ns ≤ ns2) (a3 : nc2 ≤ 1143) (a4 : ns2 ≤ 15636) (hH : lw_Hd p l e s m b below meth c D α γ (q + 1) nc2 ns2) {M : zM} {H : Heap} {locs : List Loc} {ls : Array Slot} (hI : gI M) (hR : z_Rl (lwX p l e s m b below meth c D α γ nc ns) M H locs) (hl : lv_has ls 7 (lwl b α (6 * q))) : x_W (lwX p l e s m b below meth c D α γ nc ns) H locs (F0 m 833 ls []) := by
  have hC := hK.1 nc ns (by omega) (by omega)
  obtain ⟨hKx, hX, hbl, hL⟩ := hK
  have h0 := lv_at hl 0 rfl
  have h4 := lv_at hl 4 rfl
  obtain ⟨cI, VI, hCS, hRS, hvI, hxI⟩ := id hI
  have hQ : gQ M cI VI := ⟨hCS.2.1, hCS.2.2.2.1, hCS.co hvI, hRS.mo hvI⟩
  obtain ⟨r, M1, M2, ef, eg, hI2⟩ := Pr.i hI (q_left hQ (xs (6 * q + 1)).toInt)
  refine lw_pairI hC rfl rfl rfl hR hl.1 (lv_at hl 1 rfl) (lv_at hl 2 rfl) (as := [zI (xs (6 * q + 1)).toInt]) (fun v hv => by simp only [List.mem_cons, List.not_mem_nil, or_false] at hv; rcases hv with rfl <;> first | exact z_rti _ | exact b2z_rI _) lwf_X11_left lwf_X12_left rfl (zsh_X11_left ef) ef eg dL_law_833 (lw_arg (j := 1) hC hX hbl rfl hL h0 h4 (by omega) dL_law_834 dL_law_835 dL_law_837 dL_law_838 dL_law_839) dL_law_840 dL_law_843 (lw_arg (j := 1) hC hX hbl rfl hL h0 h4 (by omega) dL_law_844 dL_law_845 dL_law_847 dL_law_848 dL_law_849) dL_law_850 dL_law_853 (tgt := 1243) (by decide) (fun H1 locs1 hR1 => ?_)
  exact lw_nx ⟨fun nc ns h1 h2 => hKx nc ns h1 h2, hX, hbl, hL⟩ a1 a2 a3 a4 hH hI2 hR1 hl
theorem lw_c18 (hK : lw_Kx p l e s m b below meth c D α γ L xs) {q nc ns nc2 ns2 : Nat} (hq : 6 * q + 6 ≤ L) (a1 : nc ≤ nc2) (a2 : ns ≤ ns2) (a3 : nc2 ≤ 1143) (a4 : ns2 ≤ 15636) (hH : lw_Hd p l e s m b below meth c D α γ (q + 1) nc2 ns2) {M : zM} {H : Heap} {locs : List Loc} {ls : Array Slot} (hI : gI M) (hR : z_Rl (lwX p l e s m b below meth c D α γ nc ns) M H locs) (hl : lv_has ls 7 (lwl b α (6 * q))) : x_W (lwX p l e s m b below meth c D α γ nc ns) H locs (F0 m 858 ls []) := by
  have hC := hK.1 nc ns (by omega) (by omega)
  obtain ⟨hKx, hX, hbl, hL⟩ := hK
  have h0 := lv_at hl 0 rfl
  have h4 := lv_at hl 4 rfl
  obtain ⟨cI, VI, hCS, hRS, hvI, hxI⟩ := id hI
  have hQ : gQ M cI VI := ⟨hCS.2.1, hCS.2.2.2.1, hCS.co hvI, hRS.mo hvI⟩
  obtain ⟨r, M1, M2, ef, eg, hI2⟩ := Pr.i hI (q_moved hQ (xs (6 * q + 1)).toInt)
  refine lw_pairI hC rfl rfl rfl hR hl.1 (lv_at hl 1 rfl) (lv_at hl 2 rfl) (as := [zI (xs (6 * q + 1)).toInt]) (fun v hv => by simp only [List.mem_cons, List.not_mem_nil, or_false] at hv; rcases hv with rfl <;> first | exact z_rti _ | exact b2z_rI _) lwf_X11_moved lwf_X12_moved rfl (zsh_X11_moved ef) ef eg dL_law_858 (lw_arg (j := 1) hC hX hbl rfl hL h0 h4 (by omega) dL_law_859 dL_law_860 dL_law_862 dL_law_863 dL_law_864) dL_law_865 dL_law_868 (lw_arg (j := 1) hC hX hbl rfl hL h0 h4 (by omega) dL_law_869 dL_law_870 dL_law_872 dL_law_873 dL_law_874) dL_law_875 dL_law_878 (tgt := 1243) (by decide) (fun H1 locs1 hR1 => ?_)
  exact lw_nx ⟨fun nc ns h1 h2 => hKx nc ns h1 h2, hX, hbl, hL⟩ a1 a2 a3 a4 hH hI2 hR1 hl
theorem lw_c19 (hK : lw_Kx p l e s m b below meth c D α γ L xs) {q nc ns nc2 ns2 : Nat} (hq : 6 * q + 6 ≤ L) (a1 : nc ≤ nc2) (a2 : ns ≤ ns2) (a3 : nc2 ≤ 1143) (a4 : ns2 ≤ 15636) (hH : lw_Hd p l e s m b below meth c D α γ (q + 1) nc2 ns2) {M : zM} {H : Heap} {locs : List Loc} {ls : Array Slot} (hI : gI M) (hR : z_Rl (lwX p l e s m b below meth c D α γ nc ns) M H locs) (hl : lv_has ls 7 (lwl b α (6 * q))) : x_W (lwX p l e s m b below meth c D α γ nc ns) H locs (F0 m 883 ls []) := by
  have hC := hK.1 nc ns (by omega) (by omega)
  obtain ⟨hKx, hX, hbl, hL⟩ := hK
  have h0 := lv_at hl 0 rfl
  have h4 := lv_at hl 4 rfl
  obtain ⟨cI, VI, hCS, hRS, hvI, hxI⟩ := id hI
  have hQ : gQ M cI VI := ⟨hCS.2.1, hCS.2.2.2.1, hCS.co hvI, hRS.mo hvI⟩
  obtain ⟨r, M1, M2, ef, eg, hI2⟩ := Pr.i hI (q_story hQ (xs (6 * q + 1)).toInt (xs (6 * q + 2)).toInt)
  refine lw_pairI hC rfl rfl rfl hR hl.1 (lv_at hl 1 rfl) (lv_at hl 2 rfl) (as := [zI (xs (6 * q + 1)).toInt, zI (xs (6 * q + 2)).toInt]) (fun v hv => by simp only [List.mem_cons, List.not_mem_nil, or_false] at hv; rcases hv with rfl | rfl <;> first | exact z_rti _ | exact b2z_rI _) lwf_X11_story lwf_X12_story rfl (zsh_X11_story ef) ef eg dL_law_883 ((lw_arg (j := 1) hC hX hbl rfl hL h0 h4 (by omega) dL_law_884 dL_law_885 dL_law_887 dL_law_888 dL_law_889).app (lw_arg (j := 2) hC hX hbl rfl hL h0 h4 (by omega) dL_law_890 dL_law_891 dL_law_893 dL_law_894 dL_law_895)) dL_law_896 dL_law_899 ((lw_arg (j := 1) hC hX hbl rfl hL h0 h4 (by omega) dL_law_900 dL_law_901 dL_law_903 dL_law_904 dL_law_905).app (lw_arg (j := 2) hC hX hbl rfl hL h0 h4 (by omega) dL_law_906 dL_law_907 dL_law_909 dL_law_910 dL_law_911)) dL_law_912 dL_law_915 (tgt := 1243) (by decide) (fun H1 locs1 hR1 => ?_)
  exact lw_nx ⟨fun nc ns h1 h2 => hKx nc ns h1 h2, hX, hbl, hL⟩ a1 a2 a3 a4 hH hI2 hR1 hl
theorem lw_c20 (hK : lw_Kx p l e s m b below meth c D α γ L xs) {q nc ns nc2 ns2 : Nat} (hq : 6 * q + 6 ≤ L) (a1 : nc ≤ nc2) (a2 : ns ≤ ns2) (a3 : nc2 ≤ 1143) (a4 : ns2 ≤ 15636) (hH : lw_Hd p l e s m b below meth c D α γ (q + 1) nc2 ns2) {M : zM} {H : Heap} {locs : List Loc} {ls : Array Slot} (hI : gI M) (hR : z_Rl (lwX p l e s m b below meth c D α γ nc ns) M H locs) (hl : lv_has ls 7 (lwl b α (6 * q))) : x_W (lwX p l e s m b below meth c D α γ nc ns) H locs (F0 m 920 ls []) := by
  have hC := hK.1 nc ns (by omega) (by omega)
  obtain ⟨hKx, hX, hbl, hL⟩ := hK
  have h0 := lv_at hl 0 rfl
  have h4 := lv_at hl 4 rfl
  obtain ⟨cI, VI, hCS, hRS, hvI, hxI⟩ := id hI
  have hQ : gQ M cI VI := ⟨hCS.2.1, hCS.2.2.2.1, hCS.co hvI, hRS.mo hvI⟩
  obtain ⟨r, M1, M2, ef, eg, hI2⟩ := Pr.i hI (q_clash hQ (xs (6 * q + 1)).toInt (xs (6 * q + 2)).toInt)
  refine lw_pairI hC rfl rfl rfl hR hl.1 (lv_at hl 1 rfl) (lv_at hl 2 rfl) (as := [zI (xs (6 * q + 1)).toInt, zI (xs (6 * q + 2)).toInt]) (fun v hv => by simp only [List.mem_cons, List.not_mem_nil, or_false] at hv; rcases hv with rfl | rfl <;> first | exact z_rti _ | exact b2z_rI _) lwf_X11_clash lwf_X12_clash rfl (zsh_X11_clash ef) ef eg dL_law_920 ((lw_arg (j := 1) hC hX hbl rfl hL h0 h4 (by omega) dL_law_921 dL_law_922 dL_law_924 dL_law_925 dL_law_926).app (lw_arg (j := 2) hC hX hbl rfl hL h0 h4 (by omega) dL_law_927 dL_law_928 dL_law_930 dL_law_931 dL_law_932)) dL_law_933 dL_law_936 ((lw_arg (j := 1) hC hX hbl rfl hL h0 h4 (by omega) dL_law_937 dL_law_938 dL_law_940 dL_law_941 dL_law_942).app (lw_arg (j := 2) hC hX hbl rfl hL h0 h4 (by omega) dL_law_943 dL_law_944 dL_law_946 dL_law_947 dL_law_948)) dL_law_949 dL_law_952 (tgt := 1243) (by decide) (fun H1 locs1 hR1 => ?_)
  exact lw_nx ⟨fun nc ns h1 h2 => hKx nc ns h1 h2, hX, hbl, hL⟩ a1 a2 a3 a4 hH hI2 hR1 hl
theorem lw_c21 (hK : lw_Kx p l e s m b below meth c D α γ L xs) {q nc ns nc2 ns2 : Nat} (hq : 6 * q + 6 ≤ L) (a1 : nc ≤ nc2) (a2 : ns ≤ ns2) (a3 : nc2 ≤ 1143) (a4 : ns2 ≤ 15636) (hH : lw_Hd p l e s m b below meth c D α γ (q + 1) nc2 ns2) {M : zM} {H : Heap} {locs : List Loc} {ls : Array Slot} (hI : gI M) (hR : z_Rl (lwX p l e s m b below meth c D α γ nc ns) M H locs) (hl : lv_has ls 7 (lwl b α (6 * q))) : x_W (lwX p l e s m b below meth c D α γ nc ns) H locs (F0 m 957 ls []) := by
  have hC := hK.1 nc ns (by omega) (by omega)
  obtain ⟨hKx, hX, hbl, hL⟩ := hK
  have h0 := lv_at hl 0 rfl
  have h4 := lv_at hl 4 rfl
  obtain ⟨cI, VI, hCS, hRS, hvI, hxI⟩ := id hI
  have hQ : gQ M cI VI := ⟨hCS.2.1, hCS.2.2.2.1, hCS.co hvI, hRS.mo hvI⟩
  obtain ⟨r, M1, M2, ef, eg, hI2⟩ := Pr.i hI (q_together hQ)
  refine lw_pairI hC rfl rfl rfl hR hl.1 (lv_at hl 1 rfl) (lv_at hl 2 rfl) (as := []) (fun v hv => by cases hv) lwf_X11_together lwf_X12_together rfl (zsh_X11_together ef) ef eg dL_law_957 lw_Ld.nil dL_law_958 dL_law_961 lw_Ld.nil dL_law_962 dL_law_965 (tgt := 1243) (by decide) (fun H1 locs1 hR1 => ?_)
  exact lw_nx ⟨fun nc ns h1 h2 => hKx nc ns h1 h2, hX, hbl, hL⟩ a1 a2 a3 a4 hH hI2 hR1 hl
theorem lw_c22 (hK : lw_Kx p l e s m b below meth c D α γ L xs) {q nc ns nc2 ns2 : Nat} (hq : 6 * q + 6 ≤ L) (a1 : nc ≤ nc2) (a2 : ns ≤ ns2) (a3 : nc2 ≤ 1143) (a4 : ns2 ≤ 15636) (hH : lw_Hd p l e s m b below meth c D α γ (q + 1) nc2 ns2) {M : zM} {H : Heap} {locs : List Loc} {ls : Array Slot} (hI : gI M) (hR : z_Rl (lwX p l e s m b below meth c D α γ nc ns) M H locs) (hl : lv_has ls 7 (lwl b α (6 * q))) : x_W (lwX p l e s m b below meth c D α γ nc ns) H locs (F0 m 970 ls []) := by
  have hC := hK.1 nc ns (by omega) (by omega)
  obtain ⟨hKx, hX, hbl, hL⟩ := hK
  have h0 := lv_at hl 0 rfl
  have h4 := lv_at hl 4 rfl
  obtain ⟨cI, VI, hCS, hRS, hvI, hxI⟩ := id hI
  have hQ : gQ M cI VI := ⟨hCS.2.1, hCS.2.2.2.1, hCS.co hvI, hRS.mo hvI⟩
  obtain ⟨r, M1, M2, ef, eg, hI2⟩ := Pr.i hI (q_lies hQ (xs (6 * q + 1)).toInt)
  refine lw_pairI hC rfl rfl rfl hR hl.1 (lv_at hl 1 rfl) (lv_at hl 2 rfl) (as := [zI (xs (6 * q + 1)).toInt]) (fun v hv => by simp only [List.mem_cons, List.not_mem_nil, or_false] at hv; rcases hv with rfl <;> first | exact z_rti _ | exact b2z_rI _) lwf_X11_lies lwf_X12_lies rfl (zsh_X11_lies ef) ef eg dL_law_970 (lw_arg (j := 1) hC hX hbl rfl hL h0 h4 (by omega) dL_law_971 dL_law_972 dL_law_974 dL_law_975 dL_law_976) dL_law_977 dL_law_980 (lw_arg (j := 1) hC hX hbl rfl hL h0 h4 (by omega) dL_law_981 dL_law_982 dL_law_984 dL_law_985 dL_law_986) dL_law_987 dL_law_990 (tgt := 1243) (by decide) (fun H1 locs1 hR1 => ?_)
  exact lw_nx ⟨fun nc ns h1 h2 => hKx nc ns h1 h2, hX, hbl, hL⟩ a1 a2 a3 a4 hH hI2 hR1 hl
theorem lw_c23 (hK : lw_Kx p l e s m b below meth c D α γ L xs) {q nc ns nc2 ns2 : Nat} (hq : 6 * q + 6 ≤ L) (a1 : nc ≤ nc2) (a2 : ns ≤ ns2) (a3 : nc2 ≤ 1143) (a4 : ns2 ≤ 15636) (hH : lw_Hd p l e s m b below meth c D α γ (q + 1) nc2 ns2) {M : zM} {H : Heap} {locs : List Loc} {ls : Array Slot} (hI : gI M) (hR : z_Rl (lwX p l e s m b below meth c D α γ nc ns) M H locs) (hl : lv_has ls 7 (lwl b α (6 * q))) : x_W (lwX p l e s m b below meth c D α γ nc ns) H locs (F0 m 995 ls []) := by
  have hC := hK.1 nc ns (by omega) (by omega)
  obtain ⟨hKx, hX, hbl, hL⟩ := hK
  have h0 := lv_at hl 0 rfl
  have h4 := lv_at hl 4 rfl
  obtain ⟨cI, VI, hCS, hRS, hvI, hxI⟩ := id hI
  have hQ : gQ M cI VI := ⟨hCS.2.1, hCS.2.2.2.1, hCS.co hvI, hRS.mo hvI⟩
  obtain ⟨r, M1, M2, ef, eg, hI2⟩ := Pr.i hI (q_supposed hQ (xs (6 * q + 1)).toInt)
  refine lw_pairI hC rfl rfl rfl hR hl.1 (lv_at hl 1 rfl) (lv_at hl 2 rfl) (as := [zI (xs (6 * q + 1)).toInt]) (fun v hv => by simp only [List.mem_cons, List.not_mem_nil, or_false] at hv; rcases hv with rfl <;> first | exact z_rti _ | exact b2z_rI _) lwf_X11_supposed lwf_X12_supposed rfl (zsh_X11_supposed ef) ef eg dL_law_995 (lw_arg (j := 1) hC hX hbl rfl hL h0 h4 (by omega) dL_law_996 dL_law_997 dL_law_999 dL_law_1000 dL_law_1001) dL_law_1002 dL_law_1005 (lw_arg (j := 1) hC hX hbl rfl hL h0 h4 (by omega) dL_law_1006 dL_law_1007 dL_law_1009 dL_law_1010 dL_law_1011) dL_law_1012 dL_law_1015 (tgt := 1243) (by decide) (fun H1 locs1 hR1 => ?_)
  exact lw_nx ⟨fun nc ns h1 h2 => hKx nc ns h1 h2, hX, hbl, hL⟩ a1 a2 a3 a4 hH hI2 hR1 hl
theorem lw_c24 (hK : lw_Kx p l e s m b below meth c D α γ L xs) {q nc ns nc2 ns2 : Nat} (hq : 6 * q + 6 ≤ L) (a1 : nc ≤ nc2) (a2 : ns ≤ ns2) (a3 : nc2 ≤ 1143) (a4 : ns2 ≤ 15636) (hH : lw_Hd p l e s m b below meth c D α γ (q + 1) nc2 ns2) {M : zM} {H : Heap} {locs : List Loc} {ls : Array Slot} (hI : gI M) (hR : z_Rl (lwX p l e s m b below meth c D α γ nc ns) M H locs) (hl : lv_has ls 7 (lwl b α (6 * q))) : x_W (lwX p l e s m b below meth c D α γ nc ns) H locs (F0 m 1020 ls []) := by
  have hC := hK.1 nc ns (by omega) (by omega)
  obtain ⟨hKx, hX, hbl, hL⟩ := hK
  have h0 := lv_at hl 0 rfl
  have h4 := lv_at hl 4 rfl
  obtain ⟨cI, VI, hCS, hRS, hvI, hxI⟩ := id hI
  have hQ : gQ M cI VI := ⟨hCS.2.1, hCS.2.2.2.1, hCS.co hvI, hRS.mo hvI⟩
  have hgF : gF M VI := hRS.2.2.1
  obtain ⟨r, M1, M2, ef, eg, hI2⟩ := Pr.i hI (q_law hQ hgF (xs (6 * q + 1)).toInt)
  refine lw_pairI hC rfl rfl rfl hR hl.1 (lv_at hl 1 rfl) (lv_at hl 2 rfl) (as := [zI (xs (6 * q + 1)).toInt]) (fun v hv => by simp only [List.mem_cons, List.not_mem_nil, or_false] at hv; rcases hv with rfl <;> first | exact z_rti _ | exact b2z_rI _) lwf_X11_law lwf_X12_law rfl (zsh_X11_law ef) ef eg dL_law_1020 (lw_arg (j := 1) hC hX hbl rfl hL h0 h4 (by omega) dL_law_1021 dL_law_1022 dL_law_1024 dL_law_1025 dL_law_1026) dL_law_1027 dL_law_1030 (lw_arg (j := 1) hC hX hbl rfl hL h0 h4 (by omega) dL_law_1031 dL_law_1032 dL_law_1034 dL_law_1035 dL_law_1036) dL_law_1037 dL_law_1040 (tgt := 1243) (by decide) (fun H1 locs1 hR1 => ?_)
  exact lw_nx ⟨fun nc ns h1 h2 => hKx nc ns h1 h2, hX, hbl, hL⟩ a1 a2 a3 a4 hH hI2 hR1 hl
theorem lw_c25 (hK : lw_Kx p l e s m b below meth c D α γ L xs) {q nc ns nc2 ns2 : Nat} (hq : 6 * q + 6 ≤ L) (a1 : nc ≤ nc2) (a2 : ns ≤ ns2) (a3 : nc2 ≤ 1143) (a4 : ns2 ≤ 15636) (hH : lw_Hd p l e s m b below meth c D α γ (q + 1) nc2 ns2) {M : zM} {H : Heap} {locs : List Loc} {ls : Array Slot} (hI : gI M) (hR : z_Rl (lwX p l e s m b below meth c D α γ nc ns) M H locs) (hl : lv_has ls 7 (lwl b α (6 * q))) : x_W (lwX p l e s m b below meth c D α γ nc ns) H locs (F0 m 1045 ls []) := by
  have hC := hK.1 nc ns (by omega) (by omega)
  obtain ⟨hKx, hX, hbl, hL⟩ := hK
  have h0 := lv_at hl 0 rfl
  have h4 := lv_at hl 4 rfl
  obtain ⟨cI, VI, hCS, hRS, hvI, hxI⟩ := id hI
  have hQ : gQ M cI VI := ⟨hCS.2.1, hCS.2.2.2.1, hCS.co hvI, hRS.mo hvI⟩
  have hgF : gF M VI := hRS.2.2.1
  obtain ⟨r, M1, M2, ef, eg, hI2⟩ := Pr.i hI (q_draws hQ hgF (xs (6 * q + 1)).toInt (xs (6 * q + 2)).toInt (xs (6 * q + 3)).toInt (by have := z_rti (xs (6 * q + 2)); exact this.2))
  refine lw_pairI hC rfl rfl rfl hR hl.1 (lv_at hl 1 rfl) (lv_at hl 2 rfl) (as := [zI (xs (6 * q + 1)).toInt, zI (xs (6 * q + 2)).toInt, zI (xs (6 * q + 3)).toInt]) (fun v hv => by simp only [List.mem_cons, List.not_mem_nil, or_false] at hv; rcases hv with rfl | rfl | rfl <;> first | exact z_rti _ | exact b2z_rI _) lwf_X11_draws lwf_X12_draws rfl (zsh_X11_draws ef) ef eg dL_law_1045 (((lw_arg (j := 1) hC hX hbl rfl hL h0 h4 (by omega) dL_law_1046 dL_law_1047 dL_law_1049 dL_law_1050 dL_law_1051).app (lw_arg (j := 2) hC hX hbl rfl hL h0 h4 (by omega) dL_law_1052 dL_law_1053 dL_law_1055 dL_law_1056 dL_law_1057)).app (lw_arg (j := 3) hC hX hbl rfl hL h0 h4 (by omega) dL_law_1058 dL_law_1059 dL_law_1061 dL_law_1062 dL_law_1063)) dL_law_1064 dL_law_1067 (((lw_arg (j := 1) hC hX hbl rfl hL h0 h4 (by omega) dL_law_1068 dL_law_1069 dL_law_1071 dL_law_1072 dL_law_1073).app (lw_arg (j := 2) hC hX hbl rfl hL h0 h4 (by omega) dL_law_1074 dL_law_1075 dL_law_1077 dL_law_1078 dL_law_1079)).app (lw_arg (j := 3) hC hX hbl rfl hL h0 h4 (by omega) dL_law_1080 dL_law_1081 dL_law_1083 dL_law_1084 dL_law_1085)) dL_law_1086 dL_law_1089 (tgt := 1243) (by decide) (fun H1 locs1 hR1 => ?_)
  exact lw_nx ⟨fun nc ns h1 h2 => hKx nc ns h1 h2, hX, hbl, hL⟩ a1 a2 a3 a4 hH hI2 hR1 hl
theorem lw_c26 (hK : lw_Kx p l e s m b below meth c D α γ L xs) {q nc ns nc2 ns2 : Nat} (hq : 6 * q + 6 ≤ L) (a1 : nc ≤ nc2) (a2 : ns ≤ ns2) (a3 : nc2 ≤ 1143) (a4 : ns2 ≤ 15636) (hH : lw_Hd p l e s m b below meth c D α γ (q + 1) nc2 ns2) {M : zM} {H : Heap} {locs : List Loc} {ls : Array Slot} (hI : gI M) (hR : z_Rl (lwX p l e s m b below meth c D α γ nc ns) M H locs) (hl : lv_has ls 7 (lwl b α (6 * q))) : x_W (lwX p l e s m b below meth c D α γ nc ns) H locs (F0 m 1094 ls []) := by
  have hC := hK.1 nc ns (by omega) (by omega)
  obtain ⟨hKx, hX, hbl, hL⟩ := hK
  have h0 := lv_at hl 0 rfl
  have h4 := lv_at hl 4 rfl
  obtain ⟨cI, VI, hCS, hRS, hvI, hxI⟩ := id hI
  have hQ : gQ M cI VI := ⟨hCS.2.1, hCS.2.2.2.1, hCS.co hvI, hRS.mo hvI⟩
  have hgF : gF M VI := hRS.2.2.1
  obtain ⟨r, M1, M2, ef, eg, hI2⟩ := Pr.i hI (q_barred hQ hgF (xs (6 * q + 1)).toInt)
  refine lw_pairI hC rfl rfl rfl hR hl.1 (lv_at hl 1 rfl) (lv_at hl 2 rfl) (as := [zI (xs (6 * q + 1)).toInt]) (fun v hv => by simp only [List.mem_cons, List.not_mem_nil, or_false] at hv; rcases hv with rfl <;> first | exact z_rti _ | exact b2z_rI _) lwf_X11_barred lwf_X12_barred rfl (zsh_X11_barred ef) ef eg dL_law_1094 (lw_arg (j := 1) hC hX hbl rfl hL h0 h4 (by omega) dL_law_1095 dL_law_1096 dL_law_1098 dL_law_1099 dL_law_1100) dL_law_1101 dL_law_1104 (lw_arg (j := 1) hC hX hbl rfl hL h0 h4 (by omega) dL_law_1105 dL_law_1106 dL_law_1108 dL_law_1109 dL_law_1110) dL_law_1111 dL_law_1114 (tgt := 1243) (by decide) (fun H1 locs1 hR1 => ?_)
  exact lw_nx ⟨fun nc ns h1 h2 => hKx nc ns h1 h2, hX, hbl, hL⟩ a1 a2 a3 a4 hH hI2 hR1 hl
theorem lw_c27 (hK : lw_Kx p l e s m b below meth c D α γ L xs) {q nc ns nc2 ns2 : Nat} (hq : 6 * q + 6 ≤ L) (a1 : nc ≤ nc2) (a2 : ns ≤ ns2) (a3 : nc2 ≤ 1143) (a4 : ns2 ≤ 15636) (hH : lw_Hd p l e s m b below meth c D α γ (q + 1) nc2 ns2) {M : zM} {H : Heap} {locs : List Loc} {ls : Array Slot} (hI : gI M) (hR : z_Rl (lwX p l e s m b below meth c D α γ nc ns) M H locs) (hl : lv_has ls 7 (lwl b α (6 * q))) : x_W (lwX p l e s m b below meth c D α γ nc ns) H locs (F0 m 1119 ls []) := by
  have hC := hK.1 nc ns (by omega) (by omega)
  obtain ⟨hKx, hX, hbl, hL⟩ := hK
  have h0 := lv_at hl 0 rfl
  have h4 := lv_at hl 4 rfl
  obtain ⟨cI, VI, hCS, hRS, hvI, hxI⟩ := id hI
  have hQ : gQ M cI VI := ⟨hCS.2.1, hCS.2.2.2.1, hCS.co hvI, hRS.mo hvI⟩
  have hgF : gF M VI := hRS.2.2.1
  obtain ⟨r, M1, M2, ef, eg, hI2⟩ := Pr.i hI (q_jury hQ hgF (xs (6 * q + 1)).toInt (xs (6 * q + 2)).toInt)
  refine lw_pairI hC rfl rfl rfl hR hl.1 (lv_at hl 1 rfl) (lv_at hl 2 rfl) (as := [zI (xs (6 * q + 1)).toInt, zI (xs (6 * q + 2)).toInt]) (fun v hv => by simp only [List.mem_cons, List.not_mem_nil, or_false] at hv; rcases hv with rfl | rfl <;> first | exact z_rti _ | exact b2z_rI _) lwf_X11_jury lwf_X12_jury rfl (zsh_X11_jury ef) ef eg dL_law_1119 ((lw_arg (j := 1) hC hX hbl rfl hL h0 h4 (by omega) dL_law_1120 dL_law_1121 dL_law_1123 dL_law_1124 dL_law_1125).app (lw_arg (j := 2) hC hX hbl rfl hL h0 h4 (by omega) dL_law_1126 dL_law_1127 dL_law_1129 dL_law_1130 dL_law_1131)) dL_law_1132 dL_law_1135 ((lw_arg (j := 1) hC hX hbl rfl hL h0 h4 (by omega) dL_law_1136 dL_law_1137 dL_law_1139 dL_law_1140 dL_law_1141).app (lw_arg (j := 2) hC hX hbl rfl hL h0 h4 (by omega) dL_law_1142 dL_law_1143 dL_law_1145 dL_law_1146 dL_law_1147)) dL_law_1148 dL_law_1151 (tgt := 1243) (by decide) (fun H1 locs1 hR1 => ?_)
  exact lw_nx ⟨fun nc ns h1 h2 => hKx nc ns h1 h2, hX, hbl, hL⟩ a1 a2 a3 a4 hH hI2 hR1 hl
theorem lw_c28 (hK : lw_Kx p l e s m b below meth c D α γ L xs) {q nc ns nc2 ns2 : Nat} (hq : 6 * q + 6 ≤ L) (a1 : nc ≤ nc2) (a2 : ns ≤ ns2) (a3 : nc2 ≤ 1143) (a4 : ns2 ≤ 15636) (hH : lw_Hd p l e s m b below meth c D α γ (q + 1) nc2 ns2) {M : zM} {H : Heap} {locs : List Loc} {ls : Array Slot} (hI : gI M) (hR : z_Rl (lwX p l e s m b below meth c D α γ nc ns) M H locs) (hl : lv_has ls 7 (lwl b α (6 * q))) : x_W (lwX p l e s m b below meth c D α γ nc ns) H locs (F0 m 1156 ls []) := by
  have hC := hK.1 nc ns (by omega) (by omega)
  obtain ⟨hKx, hX, hbl, hL⟩ := hK
  have h0 := lv_at hl 0 rfl
  have h4 := lv_at hl 4 rfl
  obtain ⟨r, M1, M2, ef, eg, hI2⟩ := i_there hI (xs (6 * q + 1)).toInt
  refine lw_pairI hC rfl rfl rfl hR hl.1 (lv_at hl 1 rfl) (lv_at hl 2 rfl) (as := [zI (xs (6 * q + 1)).toInt]) (fun v hv => by simp only [List.mem_cons, List.not_mem_nil, or_false] at hv; rcases hv with rfl <;> first | exact z_rti _ | exact b2z_rI _) lwf_X11_there lwf_X12_there_ rfl (zsh_X11_there ef) ef eg dL_law_1156 (lw_arg (j := 1) hC hX hbl rfl hL h0 h4 (by omega) dL_law_1157 dL_law_1158 dL_law_1160 dL_law_1161 dL_law_1162) dL_law_1163 dL_law_1166 (lw_arg (j := 1) hC hX hbl rfl hL h0 h4 (by omega) dL_law_1167 dL_law_1168 dL_law_1170 dL_law_1171 dL_law_1172) dL_law_1173 dL_law_1176 (tgt := 1243) (by decide) (fun H1 locs1 hR1 => ?_)
  exact lw_nx ⟨fun nc ns h1 h2 => hKx nc ns h1 h2, hX, hbl, hL⟩ a1 a2 a3 a4 hH hI2 hR1 hl
theorem lw_c29 (hK : lw_Kx p l e s m b below meth c D α γ L xs) {q nc ns nc2 ns2 : Nat} (hq : 6 * q + 6 ≤ L) (a1 : nc ≤ nc2) (a2 : ns ≤ ns2) (a3 : nc2 ≤ 1143) (a4 : ns2 ≤ 15636) (hH : lw_Hd p l e s m b below meth c D α γ (q + 1) nc2 ns2) {M : zM} {H : Heap} {locs : List Loc} {ls : Array Slot} (hI : gI M) (hR : z_Rl (lwX p l e s m b below meth c D α γ nc ns) M H locs) (hl : lv_has ls 7 (lwl b α (6 * q))) : x_W (lwX p l e s m b below meth c D α γ nc ns) H locs (F0 m 1181 ls []) := by
  have hC := hK.1 nc ns (by omega) (by omega)
  obtain ⟨hKx, hX, hbl, hL⟩ := hK
  have h0 := lv_at hl 0 rfl
  have h4 := lv_at hl 4 rfl
  obtain ⟨cI, VI, hCS, hRS, hvI, hxI⟩ := id hI
  have hQ : gQ M cI VI := ⟨hCS.2.1, hCS.2.2.2.1, hCS.co hvI, hRS.mo hvI⟩
  have hgF : gF M VI := hRS.2.2.1
  obtain ⟨r, M1, M2, ef, eg, hI2⟩ := Pr.i hI (q_found hQ hgF (xs (6 * q + 1)).toInt (xs (6 * q + 2)).toInt)
  refine lw_pairI hC rfl rfl rfl hR hl.1 (lv_at hl 1 rfl) (lv_at hl 2 rfl) (as := [zI (xs (6 * q + 1)).toInt, zI (xs (6 * q + 2)).toInt]) (fun v hv => by simp only [List.mem_cons, List.not_mem_nil, or_false] at hv; rcases hv with rfl | rfl <;> first | exact z_rti _ | exact b2z_rI _) lwf_X11_found lwf_X12_found rfl (zsh_X11_found ef) ef eg dL_law_1181 ((lw_arg (j := 1) hC hX hbl rfl hL h0 h4 (by omega) dL_law_1182 dL_law_1183 dL_law_1185 dL_law_1186 dL_law_1187).app (lw_arg (j := 2) hC hX hbl rfl hL h0 h4 (by omega) dL_law_1188 dL_law_1189 dL_law_1191 dL_law_1192 dL_law_1193)) dL_law_1194 dL_law_1197 ((lw_arg (j := 1) hC hX hbl rfl hL h0 h4 (by omega) dL_law_1198 dL_law_1199 dL_law_1201 dL_law_1202 dL_law_1203).app (lw_arg (j := 2) hC hX hbl rfl hL h0 h4 (by omega) dL_law_1204 dL_law_1205 dL_law_1207 dL_law_1208 dL_law_1209)) dL_law_1210 dL_law_1213 (tgt := 1243) (by decide) (fun H1 locs1 hR1 => ?_)
  exact lw_nx ⟨fun nc ns h1 h2 => hKx nc ns h1 h2, hX, hbl, hL⟩ a1 a2 a3 a4 hH hI2 hR1 hl
theorem lw_c30 (hK : lw_Kx p l e s m b below meth c D α γ L xs) {q nc ns nc2 ns2 : Nat} (hq : 6 * q + 6 ≤ L) (a1 : nc ≤ nc2) (a2 : ns ≤ ns2) (a3 : nc2 ≤ 1143) (a4 : ns2 ≤ 15636) (hH : lw_Hd p l e s m b below meth c D α γ (q + 1) nc2 ns2) {M : zM} {H : Heap} {locs : List Loc} {ls : Array Slot} (hI : gI M) (hR : z_Rl (lwX p l e s m b below meth c D α γ nc ns) M H locs) (hl : lv_has ls 7 (lwl b α (6 * q))) : x_W (lwX p l e s m b below meth c D α γ nc ns) H locs (F0 m 1218 ls []) := by
  have hC := hK.1 nc ns (by omega) (by omega)
  obtain ⟨hKx, hX, hbl, hL⟩ := hK
  have h0 := lv_at hl 0 rfl
  have h4 := lv_at hl 4 rfl
  obtain ⟨cI, VI, hCS, hRS, hvI, hxI⟩ := id hI
  have hQ : gQ M cI VI := ⟨hCS.2.1, hCS.2.2.2.1, hCS.co hvI, hRS.mo hvI⟩
  obtain ⟨r, M1, M2, ef, eg, hI2⟩ := Pr.i hI (q_count hQ (xs (6 * q + 1)).toInt)
  refine lw_pairI hC rfl rfl rfl hR hl.1 (lv_at hl 1 rfl) (lv_at hl 2 rfl) (as := [zI (xs (6 * q + 1)).toInt]) (fun v hv => by simp only [List.mem_cons, List.not_mem_nil, or_false] at hv; rcases hv with rfl <;> first | exact z_rti _ | exact b2z_rI _) lwf_X11_count lwf_X12_count rfl (zsh_X11_count ef) ef eg dL_law_1218 (lw_arg (j := 1) hC hX hbl rfl hL h0 h4 (by omega) dL_law_1219 dL_law_1220 dL_law_1222 dL_law_1223 dL_law_1224) dL_law_1225 dL_law_1228 (lw_arg (j := 1) hC hX hbl rfl hL h0 h4 (by omega) dL_law_1229 dL_law_1230 dL_law_1232 dL_law_1233 dL_law_1234) dL_law_1235 dL_law_1238 (tgt := 1243) (by decide) (fun H1 locs1 hR1 => ?_)
  exact lw_nx ⟨fun nc ns h1 h2 => hKx nc ns h1 h2, hX, hbl, hL⟩ a1 a2 a3 a4 hH hI2 hR1 hl
theorem law_loop (hK : lw_Kx p l e s m b below meth c D α γ L xs) {kc ks nc0 ns0 : Nat} (hn0 : nc0 + 512 * kc ≤ 1143) (hs0 : ns0 + 512 * ks ≤ 15636) (hLk : lw_Lk p l e s m b below meth c D α γ L kc ks) : ∀ (d q : Nat), L - 6 * q < d → 6 * q ≤ L → lw_Hd p l e s m b below meth c D α γ q (nc0 + q * kc) (ns0 + q * ks) := by
  intro d
  induction d with
  | zero => intro q h; omega
  | succ d ih =>
    intro q hd hqL M H locs ls hI hR hl
    have hL := hK.2.2.2
    have hX := hK.2.1
    have hbl := hK.2.2.1
    have q512 : q ≤ 512 := by omega
    have bq : q * kc ≤ 512 * kc := Nat.mul_le_mul_right kc q512
    have bs : q * ks ≤ 512 * ks := Nat.mul_le_mul_right ks q512
    have hC := hK.1 (nc0 + q * kc) (ns0 + q * ks) (by omega) (by omega)
    have hx := hC.1
    have hb := hC.2.1
    have hbA : ¬ x_A (lwX p l e s m b below meth c D α γ (nc0 + q * kc) (ns0 + q * ks)) b := by show ¬ s.heap.size ≤ b; omega
    refine lv_iload hx hb dL_law_23 (lv_at hl 4 rfl) ?_
    refine lv_aload_n hx hb dL_law_25 rfl (lv_at hl 0 rfl) ?_
    refine va_slen hx hb hX hbl hbA hR.2.2.1 dL_law_26 ?_
    refine lv_bipush (v := 6) hx hb dL_law_27 (by decide) ?_
    refine lv_isub hx hb dL_law_29 ?_
    have eL : (Int32.ofNat L - 6).toInt = (L : Int) - 6 := by
      have h1 : (Int32.ofNat L - 6) = Int32.ofInt ((L : Int) - 6) := by
        show nI L - 6 = _
        rw [← of_nat, (by decide : (6 : Int32) = Int32.ofInt 6), ← Int32.ofInt_sub]
      rw [h1]
      exact z_ti ⟨by omega, by omega⟩
    have eq6 : (nI (6 * q)).toInt = ((6 * q : Nat) : Int) := nI_ti (by omega)
    refine lv_icmp_gt (tgt := 1249) hx hb dL_law_30 (by decide) (fun hgt => ?_) (fun hle => ?_)
    · refine va_forget hR.2.2.1.2.2 ?_
      refine W.widen (k := 1143) (n := 15636) (by show nc0 + q * kc ≤ 1143; omega) (by show ns0 + q * ks ≤ 15636; omega) ?_
      refine lv_iconst (v := 1) hx hb dL_law_1249 (by decide) ?_
      exact lw_ret hx hb hC.2.2.2.2.2.2.1 hC.2.2.2.2.2.1 dL_law_1250
    · have hq6 : 6 * q + 6 ≤ L := by
        have h1 : ¬ (Int32.ofNat L - 6).toInt < (nI (6 * q)).toInt := fun h => hle (Int32.lt_iff_toInt_lt.mpr h)
        rw [eL, eq6] at h1
        omega
      have q511 : q + 1 ≤ 512 := by omega
      have bq1 : (q + 1) * kc ≤ 512 * kc := Nat.mul_le_mul_right kc q511
      have bs1 : (q + 1) * ks ≤ 512 * ks := Nat.mul_le_mul_right ks q511
      have eq1 : (q + 1) * kc = q * kc + kc := Nat.succ_mul q kc
      have es1 : (q + 1) * ks = q * ks + ks := Nat.succ_mul q ks
      have hH : lw_Hd p l e s m b below meth c D α γ (q + 1) (nc0 + q * kc + kc) (ns0 + q * ks + ks) := by
        have := ih (q + 1) (by omega) (by omega)
        rw [eq1, es1, ← Nat.add_assoc, ← Nat.add_assoc] at this
        exact this
      have a1 : nc0 + q * kc ≤ nc0 + q * kc + kc := by omega
      have a2 : ns0 + q * ks ≤ ns0 + q * ks + ks := by omega
      have a3 : nc0 + q * kc + kc ≤ 1143 := by omega
      have a4 : ns0 + q * ks + ks ≤ 15636 := by omega
      refine lv_aload_n hx hb dL_law_33 rfl (lv_at hl 0 rfl) ?_
      refine lv_iload hx hb dL_law_34 (lv_at hl 4 rfl) ?_
      refine va_sld hx hb hX hbl hbA hR.2.2.1 (vp_in_nI (by omega) (by omega)) dL_law_36 ?_
      refine lv_bipush (v := 31) hx hb dL_law_37 (by decide) ?_
      refine lv_iand hx hb dL_law_39 ?_
      have hw := and31 (xs (nI (6 * q)).toNatClampNeg)
      generalize (xs (nI (6 * q)).toNatClampNeg &&& 31) = w at hw ⊢
      rcases (by omega : w.toInt = 0 ∨ w.toInt = 1 ∨ w.toInt = 2 ∨ w.toInt = 3 ∨ w.toInt = 4 ∨ w.toInt = 5 ∨ w.toInt = 6 ∨ w.toInt = 7 ∨ w.toInt = 8 ∨ w.toInt = 9 ∨ w.toInt = 10 ∨ w.toInt = 11 ∨ w.toInt = 12 ∨ w.toInt = 13 ∨ w.toInt = 14 ∨ w.toInt = 15 ∨ w.toInt = 16 ∨ w.toInt = 17 ∨ w.toInt = 18 ∨ w.toInt = 19 ∨ w.toInt = 20 ∨ w.toInt = 21 ∨ w.toInt = 22 ∨ w.toInt = 23 ∨ w.toInt = 24 ∨ w.toInt = 25 ∨ w.toInt = 26 ∨ w.toInt = 27 ∨ w.toInt = 28 ∨ w.toInt = 29 ∨ w.toInt = 30 ∨ w.toInt = 31) with r | r | r | r | r | r | r | r | r | r | r | r | r | r | r | r | r | r | r | r | r | r | r | r | r | r | r | r | r | r | r | r
      · refine lv_tableIn (off := 140) (tgt := 180) hx hb dL_law_40 (by omega) (by omega) (by rw [r]; rfl) (by decide) ?_
        exact lw_c0 hK hq6 a1 a2 a3 a4 hH hI hR hl
      · refine lv_tableIn (off := 213) (tgt := 253) hx hb dL_law_40 (by omega) (by omega) (by rw [r]; rfl) (by decide) ?_
        exact lw_c1 hK hq6 a1 a2 a3 a4 hH hI hR hl
      · refine lv_tableIn (off := 238) (tgt := 278) hx hb dL_law_40 (by omega) (by omega) (by rw [r]; rfl) (by decide) ?_
        exact lw_c2 hK hq6 a1 a2 a3 a4 hH hI hR hl
      · refine lv_tableIn (off := 263) (tgt := 303) hx hb dL_law_40 (by omega) (by omega) (by rw [r]; rfl) (by decide) ?_
        exact lw_c3 hK hq6 a1 a2 a3 a4 hH hI hR hl
      · refine lv_tableIn (off := 300) (tgt := 340) hx hb dL_law_40 (by omega) (by omega) (by rw [r]; rfl) (by decide) ?_
        exact hLk q _ _ M H locs ls hq6 a3 a4 hH hI hR hl
      · refine lv_tableIn (off := 368) (tgt := 408) hx hb dL_law_40 (by omega) (by omega) (by rw [r]; rfl) (by decide) ?_
        exact lw_c5 hK hq6 a1 a2 a3 a4 hH hI hR hl
      · refine lv_tableIn (off := 405) (tgt := 445) hx hb dL_law_40 (by omega) (by omega) (by rw [r]; rfl) (by decide) ?_
        exact lw_c6 hK hq6 a1 a2 a3 a4 hH hI hR hl
      · refine lv_tableIn (off := 442) (tgt := 482) hx hb dL_law_40 (by omega) (by omega) (by rw [r]; rfl) (by decide) ?_
        exact lw_c7 hK hq6 a1 a2 a3 a4 hH hI hR hl
      · refine lv_tableIn (off := 531) (tgt := 571) hx hb dL_law_40 (by omega) (by omega) (by rw [r]; rfl) (by decide) ?_
        exact lw_c8 hK hq6 a1 a2 a3 a4 hH hI hR hl
      · refine lv_tableIn (off := 544) (tgt := 584) hx hb dL_law_40 (by omega) (by omega) (by rw [r]; rfl) (by decide) ?_
        exact lw_c9 hK hq6 a1 a2 a3 a4 hH hI hR hl
      · refine lv_tableIn (off := 569) (tgt := 609) hx hb dL_law_40 (by omega) (by omega) (by rw [r]; rfl) (by decide) ?_
        exact lw_c10 hK hq6 a1 a2 a3 a4 hH hI hR hl
      · refine lv_tableIn (off := 594) (tgt := 634) hx hb dL_law_40 (by omega) (by omega) (by rw [r]; rfl) (by decide) ?_
        exact lw_c11 hK hq6 a1 a2 a3 a4 hH hI hR hl
      · refine lv_tableIn (off := 619) (tgt := 659) hx hb dL_law_40 (by omega) (by omega) (by rw [r]; rfl) (by decide) ?_
        exact lw_c12 hK hq6 a1 a2 a3 a4 hH hI hR hl
      · refine lv_tableIn (off := 656) (tgt := 696) hx hb dL_law_40 (by omega) (by omega) (by rw [r]; rfl) (by decide) ?_
        exact lw_c13 hK hq6 a1 a2 a3 a4 hH hI hR hl
      · refine lv_tableIn (off := 681) (tgt := 721) hx hb dL_law_40 (by omega) (by omega) (by rw [r]; rfl) (by decide) ?_
        exact lw_c14 hK hq6 a1 a2 a3 a4 hH hI hR hl
      · refine lv_tableIn (off := 718) (tgt := 758) hx hb dL_law_40 (by omega) (by omega) (by rw [r]; rfl) (by decide) ?_
        exact lw_c15 hK hq6 a1 a2 a3 a4 hH hI hR hl
      · refine lv_tableIn (off := 768) (tgt := 808) hx hb dL_law_40 (by omega) (by omega) (by rw [r]; rfl) (by decide) ?_
        exact lw_c16 hK hq6 a1 a2 a3 a4 hH hI hR hl
      · refine lv_tableIn (off := 793) (tgt := 833) hx hb dL_law_40 (by omega) (by omega) (by rw [r]; rfl) (by decide) ?_
        exact lw_c17 hK hq6 a1 a2 a3 a4 hH hI hR hl
      · refine lv_tableIn (off := 818) (tgt := 858) hx hb dL_law_40 (by omega) (by omega) (by rw [r]; rfl) (by decide) ?_
        exact lw_c18 hK hq6 a1 a2 a3 a4 hH hI hR hl
      · refine lv_tableIn (off := 843) (tgt := 883) hx hb dL_law_40 (by omega) (by omega) (by rw [r]; rfl) (by decide) ?_
        exact lw_c19 hK hq6 a1 a2 a3 a4 hH hI hR hl
      · refine lv_tableIn (off := 880) (tgt := 920) hx hb dL_law_40 (by omega) (by omega) (by rw [r]; rfl) (by decide) ?_
        exact lw_c20 hK hq6 a1 a2 a3 a4 hH hI hR hl
      · refine lv_tableIn (off := 917) (tgt := 957) hx hb dL_law_40 (by omega) (by omega) (by rw [r]; rfl) (by decide) ?_
        exact lw_c21 hK hq6 a1 a2 a3 a4 hH hI hR hl
      · refine lv_tableIn (off := 930) (tgt := 970) hx hb dL_law_40 (by omega) (by omega) (by rw [r]; rfl) (by decide) ?_
        exact lw_c22 hK hq6 a1 a2 a3 a4 hH hI hR hl
      · refine lv_tableIn (off := 955) (tgt := 995) hx hb dL_law_40 (by omega) (by omega) (by rw [r]; rfl) (by decide) ?_
        exact lw_c23 hK hq6 a1 a2 a3 a4 hH hI hR hl
      · refine lv_tableIn (off := 980) (tgt := 1020) hx hb dL_law_40 (by omega) (by omega) (by rw [r]; rfl) (by decide) ?_
        exact lw_c24 hK hq6 a1 a2 a3 a4 hH hI hR hl
      · refine lv_tableIn (off := 1005) (tgt := 1045) hx hb dL_law_40 (by omega) (by omega) (by rw [r]; rfl) (by decide) ?_
        exact lw_c25 hK hq6 a1 a2 a3 a4 hH hI hR hl
      · refine lv_tableIn (off := 1054) (tgt := 1094) hx hb dL_law_40 (by omega) (by omega) (by rw [r]; rfl) (by decide) ?_
        exact lw_c26 hK hq6 a1 a2 a3 a4 hH hI hR hl
      · refine lv_tableIn (off := 1079) (tgt := 1119) hx hb dL_law_40 (by omega) (by omega) (by rw [r]; rfl) (by decide) ?_
        exact lw_c27 hK hq6 a1 a2 a3 a4 hH hI hR hl
      · refine lv_tableIn (off := 1116) (tgt := 1156) hx hb dL_law_40 (by omega) (by omega) (by rw [r]; rfl) (by decide) ?_
        exact lw_c28 hK hq6 a1 a2 a3 a4 hH hI hR hl
      · refine lv_tableIn (off := 1141) (tgt := 1181) hx hb dL_law_40 (by omega) (by omega) (by rw [r]; rfl) (by decide) ?_
        exact lw_c29 hK hq6 a1 a2 a3 a4 hH hI hR hl
      · refine lv_tableIn (off := 1178) (tgt := 1218) hx hb dL_law_40 (by omega) (by omega) (by rw [r]; rfl) (by decide) ?_
        exact lw_c30 hK hq6 a1 a2 a3 a4 hH hI hR hl
      · refine lv_tableOut (tgt := 1243) hx hb dL_law_40 (Or.inr (by omega)) (by decide) ?_
        exact lw_nx hK a1 a2 a3 a4 hH hI hR hl
end
end
