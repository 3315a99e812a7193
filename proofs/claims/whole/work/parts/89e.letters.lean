section
/-! ===== SaidSoModel(): its fields, arrays and letters ===== -/
def md_push (cc : ByteArray) (pc : Nat) : Option (Int32 × Nat) := match decode cc pc with
  | .ok (.iconst n, 1) => some (Int32.ofInt n, pc + 1)
  | .ok (.bipush n, 2) => some ((Int8.ofInt n).toInt32, pc + 2)
  | .ok (.sipush n, 3) => some ((Int16.ofInt n).toInt32, pc + 3)
  | _ => none
def mdL (k : Nat) : List Int := lTl.take k ++ List.replicate (132 - k) 0
theorem md_g : ∀ k : Nat, k < 132 → (Int32.ofNat k).toNatClampNeg = k ∧ (¬ Int32.ofNat k < 0) ∧ (mdL k).length = 132 ∧ (mdL k).set k (lTl.getD k 0) = mdL (k + 1) := by decide +kernel
theorem md_e : mdL 132 = lTl ∧ mdL 0 = List.replicate 132 0 := by decide +kernel
theorem md_pi {cc : ByteArray} {pc pc2 : Nat} {n : Int} {v : Int32} (hd : decode cc pc = .ok (.iconst n, 1)) (hv : Int32.ofInt n = v) (h2 : pc + 1 = pc2) : md_push cc pc = some (v, pc2) := by subst hv; subst h2; unfold md_push; rw [hd]; rfl
theorem md_pb {cc : ByteArray} {pc pc2 : Nat} {n : Int} {v : Int32} (hd : decode cc pc = .ok (.bipush n, 2)) (hv : (Int8.ofInt n).toInt32 = v) (h2 : pc + 2 = pc2) : md_push cc pc = some (v, pc2) := by subst hv; subst h2; unfold md_push; rw [hd]; rfl
theorem md_ps {cc : ByteArray} {pc pc2 : Nat} {n : Int} {v : Int32} (hd : decode cc pc = .ok (.sipush n, 3)) (hv : (Int16.ofInt n).toInt32 = v) (h2 : pc + 3 = pc2) : md_push cc pc = some (v, pc2) := by subst hv; subst h2; unfold md_push; rw [hd]; rfl
section
variable {p : Program} {l : Launch} {e : Env} {R : Room} {s : State} {m : MethodId} {args : Array Value} {below : List Frame} {meth : Method} {c : Code} {cells slots : Nat} {Q : State → Prop} {own : String} {cc : ByteArray} {nL : Nat} {D : va_G} {A : Nat → Prop} {ls : Array Slot} {pc : Nat} {ws : va_W} {tys : List (ClassId × FieldType)} {rest : List Value}
theorem md_ld (hx : p.tables.exec = Jvm.exec) (hb : c.code = cc) {H : Heap} {locs : List Loc} {v : Int32} {pc2 : Nat} (h : md_push cc pc = some (v, pc2)) (kk : W p l e R s m args below meth c H locs cells slots Q (F0 m pc2 ls (.int v :: rest))) : W p l e R s m args below meth c H locs cells slots Q (F0 m pc ls rest) := by
  unfold md_push at h
  split at h
  · rename_i n hd
    cases h
    exact lv_iconst hx hb hd rfl kk
  · rename_i n hd
    cases h
    exact lv_bipush hx hb hd rfl kk
  · rename_i n hd
    cases h
    exact lv_sipush hx hb hd rfl kk
  · cases h
/-- all is ready for letter k, at this place of the code -/
def md_Go (p : Program) (l : Launch) (e : Env) (R : Room) (s : State) (m : MethodId) (args : Array Value) (below : List Frame) (meth : Method) (c : Code) (cells slots : Nat) (Q : State → Prop) (D : va_G) (A : Nat → Prop) (ls : Array Slot) (ws : va_W) (tys : List (ClassId × FieldType)) (rest : List Value) (q0 a : Nat) (cA : ClassId) (pc k : Nat) : Prop := ∀ (H : Heap) (locs : List Loc), ct_R D A s (ws.set q0 (a, (Sum.inl (cA, ct_I 132 (mdL k)) : va_E))) tys H locs → W p l e R s m args below meth c H locs cells slots Q (F0 m pc ls (.ref a :: rest))
def md_Ok (p : Program) (s : State) (m : MethodId) (args : Array Value) (meth : Method) (c : Code) (ws : va_W) (tys : List (ClassId × FieldType)) (q0 : Nat) (cA : ClassId) : Prop := ct_Cx p s m args meth c RX12 cX12_init 1 ∧ q0 < ws.length ∧ ∃ t0 : Nat, tys[t0]? = some (cA, .int)
theorem md_step {q0 a : Nat} {cA : ClassId} (hO : md_Ok p s m args meth c ws tys q0 cA) (k : Nat) {p0 p1 p2 p3 p4 : Nat} (hk : k < 132) (d0 : decode cX12_init p0 = .ok (.dup, 1)) (h01 : p0 + 1 = p1) (d1 : md_push cX12_init p1 = some (Int32.ofNat k, p2)) (d2 : md_push cX12_init p2 = some (Int32.ofInt (lTl.getD k 0), p3)) (d3 : decode cX12_init p3 = .ok (.iastore, 1)) (h34 : p3 + 1 = p4) (hn : md_Go p l e R s m args below meth c cells slots Q D A ls ws tys rest q0 a cA p4 (k + 1)) : md_Go p l e R s m args below meth c cells slots Q D A ls ws tys rest q0 a cA p0 k := by
  obtain ⟨hC, hlt, t0, ht⟩ := hO
  intro H locs hR
  obtain ⟨g1, g2, g3, g4⟩ := md_g k hk
  refine lv_dup hC.1 hC.2.1 d0 rfl ?_
  rw [h01]
  refine md_ld hC.1 hC.2.1 d1 ?_
  refine md_ld hC.1 hC.2.1 d2 ?_
  refine ct_ist (L := mdL k) (cA := cA) hC hR q0 t0 (by rw [List.getElem?_set_self hlt]) ht g1 g2 hk (by rw [g3]; exact hk) rfl d3 (fun H1 locs1 hR1 => ?_)
  rw [h34]
  refine hn H1 locs1 ?_
  rw [List.set_set, g4] at hR1
  exact hR1
theorem md_c0 {q0 a : Nat} {cA : ClassId} (hO : md_Ok p s m args meth c ws tys q0 cA) (hn : md_Go p l e R s m args below meth c cells slots Q D A ls ws tys rest q0 a cA 85 12) : md_Go p l e R s m args below meth c cells slots Q D A ls ws tys rest q0 a cA 19 0 := by
  refine md_step hO 0 (by decide) dX12_init_19 rfl (md_pi dX12_init_20 (by decide +kernel) rfl) (md_pb dX12_init_21 (by decide +kernel) rfl) dX12_init_23 rfl ?_
  refine md_step hO 1 (by decide) dX12_init_24 rfl (md_pi dX12_init_25 (by decide +kernel) rfl) (md_pb dX12_init_26 (by decide +kernel) rfl) dX12_init_28 rfl ?_
  refine md_step hO 2 (by decide) dX12_init_29 rfl (md_pi dX12_init_30 (by decide +kernel) rfl) (md_pb dX12_init_31 (by decide +kernel) rfl) dX12_init_33 rfl ?_
  refine md_step hO 3 (by decide) dX12_init_34 rfl (md_pi dX12_init_35 (by decide +kernel) rfl) (md_pb dX12_init_36 (by decide +kernel) rfl) dX12_init_38 rfl ?_
  refine md_step hO 4 (by decide) dX12_init_39 rfl (md_pi dX12_init_40 (by decide +kernel) rfl) (md_pb dX12_init_41 (by decide +kernel) rfl) dX12_init_43 rfl ?_
  refine md_step hO 5 (by decide) dX12_init_44 rfl (md_pi dX12_init_45 (by decide +kernel) rfl) (md_pb dX12_init_46 (by decide +kernel) rfl) dX12_init_48 rfl ?_
  refine md_step hO 6 (by decide) dX12_init_49 rfl (md_pb dX12_init_50 (by decide +kernel) rfl) (md_pb dX12_init_52 (by decide +kernel) rfl) dX12_init_54 rfl ?_
  refine md_step hO 7 (by decide) dX12_init_55 rfl (md_pb dX12_init_56 (by decide +kernel) rfl) (md_pb dX12_init_58 (by decide +kernel) rfl) dX12_init_60 rfl ?_
  refine md_step hO 8 (by decide) dX12_init_61 rfl (md_pb dX12_init_62 (by decide +kernel) rfl) (md_pb dX12_init_64 (by decide +kernel) rfl) dX12_init_66 rfl ?_
  refine md_step hO 9 (by decide) dX12_init_67 rfl (md_pb dX12_init_68 (by decide +kernel) rfl) (md_pb dX12_init_70 (by decide +kernel) rfl) dX12_init_72 rfl ?_
  refine md_step hO 10 (by decide) dX12_init_73 rfl (md_pb dX12_init_74 (by decide +kernel) rfl) (md_pb dX12_init_76 (by decide +kernel) rfl) dX12_init_78 rfl ?_
  refine md_step hO 11 (by decide) dX12_init_79 rfl (md_pb dX12_init_80 (by decide +kernel) rfl) (md_pb dX12_init_82 (by decide +kernel) rfl) dX12_init_84 rfl ?_
  exact hn
theorem md_c1 {q0 a : Nat} {cA : ClassId} (hO : md_Ok p s m args meth c ws tys q0 cA) (hn : md_Go p l e R s m args below meth c cells slots Q D A ls ws tys rest q0 a cA 157 24) : md_Go p l e R s m args below meth c cells slots Q D A ls ws tys rest q0 a cA 85 12 := by
  refine md_step hO 12 (by decide) dX12_init_85 rfl (md_pb dX12_init_86 (by decide +kernel) rfl) (md_pb dX12_init_88 (by decide +kernel) rfl) dX12_init_90 rfl ?_
  refine md_step hO 13 (by decide) dX12_init_91 rfl (md_pb dX12_init_92 (by decide +kernel) rfl) (md_pb dX12_init_94 (by decide +kernel) rfl) dX12_init_96 rfl ?_
  refine md_step hO 14 (by decide) dX12_init_97 rfl (md_pb dX12_init_98 (by decide +kernel) rfl) (md_pb dX12_init_100 (by decide +kernel) rfl) dX12_init_102 rfl ?_
  refine md_step hO 15 (by decide) dX12_init_103 rfl (md_pb dX12_init_104 (by decide +kernel) rfl) (md_pb dX12_init_106 (by decide +kernel) rfl) dX12_init_108 rfl ?_
  refine md_step hO 16 (by decide) dX12_init_109 rfl (md_pb dX12_init_110 (by decide +kernel) rfl) (md_pb dX12_init_112 (by decide +kernel) rfl) dX12_init_114 rfl ?_
  refine md_step hO 17 (by decide) dX12_init_115 rfl (md_pb dX12_init_116 (by decide +kernel) rfl) (md_pb dX12_init_118 (by decide +kernel) rfl) dX12_init_120 rfl ?_
  refine md_step hO 18 (by decide) dX12_init_121 rfl (md_pb dX12_init_122 (by decide +kernel) rfl) (md_pb dX12_init_124 (by decide +kernel) rfl) dX12_init_126 rfl ?_
  refine md_step hO 19 (by decide) dX12_init_127 rfl (md_pb dX12_init_128 (by decide +kernel) rfl) (md_pb dX12_init_130 (by decide +kernel) rfl) dX12_init_132 rfl ?_
  refine md_step hO 20 (by decide) dX12_init_133 rfl (md_pb dX12_init_134 (by decide +kernel) rfl) (md_pb dX12_init_136 (by decide +kernel) rfl) dX12_init_138 rfl ?_
  refine md_step hO 21 (by decide) dX12_init_139 rfl (md_pb dX12_init_140 (by decide +kernel) rfl) (md_pb dX12_init_142 (by decide +kernel) rfl) dX12_init_144 rfl ?_
  refine md_step hO 22 (by decide) dX12_init_145 rfl (md_pb dX12_init_146 (by decide +kernel) rfl) (md_pb dX12_init_148 (by decide +kernel) rfl) dX12_init_150 rfl ?_
  refine md_step hO 23 (by decide) dX12_init_151 rfl (md_pb dX12_init_152 (by decide +kernel) rfl) (md_pb dX12_init_154 (by decide +kernel) rfl) dX12_init_156 rfl ?_
  exact hn
theorem md_c2 {q0 a : Nat} {cA : ClassId} (hO : md_Ok p s m args meth c ws tys q0 cA) (hn : md_Go p l e R s m args below meth c cells slots Q D A ls ws tys rest q0 a cA 229 36) : md_Go p l e R s m args below meth c cells slots Q D A ls ws tys rest q0 a cA 157 24 := by
  refine md_step hO 24 (by decide) dX12_init_157 rfl (md_pb dX12_init_158 (by decide +kernel) rfl) (md_pb dX12_init_160 (by decide +kernel) rfl) dX12_init_162 rfl ?_
  refine md_step hO 25 (by decide) dX12_init_163 rfl (md_pb dX12_init_164 (by decide +kernel) rfl) (md_pb dX12_init_166 (by decide +kernel) rfl) dX12_init_168 rfl ?_
  refine md_step hO 26 (by decide) dX12_init_169 rfl (md_pb dX12_init_170 (by decide +kernel) rfl) (md_pb dX12_init_172 (by decide +kernel) rfl) dX12_init_174 rfl ?_
  refine md_step hO 27 (by decide) dX12_init_175 rfl (md_pb dX12_init_176 (by decide +kernel) rfl) (md_pb dX12_init_178 (by decide +kernel) rfl) dX12_init_180 rfl ?_
  refine md_step hO 28 (by decide) dX12_init_181 rfl (md_pb dX12_init_182 (by decide +kernel) rfl) (md_pb dX12_init_184 (by decide +kernel) rfl) dX12_init_186 rfl ?_
  refine md_step hO 29 (by decide) dX12_init_187 rfl (md_pb dX12_init_188 (by decide +kernel) rfl) (md_pb dX12_init_190 (by decide +kernel) rfl) dX12_init_192 rfl ?_
  refine md_step hO 30 (by decide) dX12_init_193 rfl (md_pb dX12_init_194 (by decide +kernel) rfl) (md_pb dX12_init_196 (by decide +kernel) rfl) dX12_init_198 rfl ?_
  refine md_step hO 31 (by decide) dX12_init_199 rfl (md_pb dX12_init_200 (by decide +kernel) rfl) (md_pb dX12_init_202 (by decide +kernel) rfl) dX12_init_204 rfl ?_
  refine md_step hO 32 (by decide) dX12_init_205 rfl (md_pb dX12_init_206 (by decide +kernel) rfl) (md_pb dX12_init_208 (by decide +kernel) rfl) dX12_init_210 rfl ?_
  refine md_step hO 33 (by decide) dX12_init_211 rfl (md_pb dX12_init_212 (by decide +kernel) rfl) (md_pb dX12_init_214 (by decide +kernel) rfl) dX12_init_216 rfl ?_
  refine md_step hO 34 (by decide) dX12_init_217 rfl (md_pb dX12_init_218 (by decide +kernel) rfl) (md_pb dX12_init_220 (by decide +kernel) rfl) dX12_init_222 rfl ?_
  refine md_step hO 35 (by decide) dX12_init_223 rfl (md_pb dX12_init_224 (by decide +kernel) rfl) (md_pb dX12_init_226 (by decide +kernel) rfl) dX12_init_228 rfl ?_
  exact hn
theorem md_c3 {q0 a : Nat} {cA : ClassId} (hO : md_Ok p s m args meth c ws tys q0 cA) (hn : md_Go p l e R s m args below meth c cells slots Q D A ls ws tys rest q0 a cA 301 48) : md_Go p l e R s m args below meth c cells slots Q D A ls ws tys rest q0 a cA 229 36 := by
  refine md_step hO 36 (by decide) dX12_init_229 rfl (md_pb dX12_init_230 (by decide +kernel) rfl) (md_pb dX12_init_232 (by decide +kernel) rfl) dX12_init_234 rfl ?_
  refine md_step hO 37 (by decide) dX12_init_235 rfl (md_pb dX12_init_236 (by decide +kernel) rfl) (md_pb dX12_init_238 (by decide +kernel) rfl) dX12_init_240 rfl ?_
  refine md_step hO 38 (by decide) dX12_init_241 rfl (md_pb dX12_init_242 (by decide +kernel) rfl) (md_pb dX12_init_244 (by decide +kernel) rfl) dX12_init_246 rfl ?_
  refine md_step hO 39 (by decide) dX12_init_247 rfl (md_pb dX12_init_248 (by decide +kernel) rfl) (md_pb dX12_init_250 (by decide +kernel) rfl) dX12_init_252 rfl ?_
  refine md_step hO 40 (by decide) dX12_init_253 rfl (md_pb dX12_init_254 (by decide +kernel) rfl) (md_pb dX12_init_256 (by decide +kernel) rfl) dX12_init_258 rfl ?_
  refine md_step hO 41 (by decide) dX12_init_259 rfl (md_pb dX12_init_260 (by decide +kernel) rfl) (md_pb dX12_init_262 (by decide +kernel) rfl) dX12_init_264 rfl ?_
  refine md_step hO 42 (by decide) dX12_init_265 rfl (md_pb dX12_init_266 (by decide +kernel) rfl) (md_pb dX12_init_268 (by decide +kernel) rfl) dX12_init_270 rfl ?_
  refine md_step hO 43 (by decide) dX12_init_271 rfl (md_pb dX12_init_272 (by decide +kernel) rfl) (md_pb dX12_init_274 (by decide +kernel) rfl) dX12_init_276 rfl ?_
  refine md_step hO 44 (by decide) dX12_init_277 rfl (md_pb dX12_init_278 (by decide +kernel) rfl) (md_pb dX12_init_280 (by decide +kernel) rfl) dX12_init_282 rfl ?_
  refine md_step hO 45 (by decide) dX12_init_283 rfl (md_pb dX12_init_284 (by decide +kernel) rfl) (md_pb dX12_init_286 (by decide +kernel) rfl) dX12_init_288 rfl ?_
  refine md_step hO 46 (by decide) dX12_init_289 rfl (md_pb dX12_init_290 (by decide +kernel) rfl) (md_pb dX12_init_292 (by decide +kernel) rfl) dX12_init_294 rfl ?_
  refine md_step hO 47 (by decide) dX12_init_295 rfl (md_pb dX12_init_296 (by decide +kernel) rfl) (md_pb dX12_init_298 (by decide +kernel) rfl) dX12_init_300 rfl ?_
  exact hn
theorem md_c4 {q0 a : Nat} {cA : ClassId} (hO : md_Ok p s m args meth c ws tys q0 cA) (hn : md_Go p l e R s m args below meth c cells slots Q D A ls ws tys rest q0 a cA 373 60) : md_Go p l e R s m args below meth c cells slots Q D A ls ws tys rest q0 a cA 301 48 := by
  refine md_step hO 48 (by decide) dX12_init_301 rfl (md_pb dX12_init_302 (by decide +kernel) rfl) (md_pb dX12_init_304 (by decide +kernel) rfl) dX12_init_306 rfl ?_
  refine md_step hO 49 (by decide) dX12_init_307 rfl (md_pb dX12_init_308 (by decide +kernel) rfl) (md_pb dX12_init_310 (by decide +kernel) rfl) dX12_init_312 rfl ?_
  refine md_step hO 50 (by decide) dX12_init_313 rfl (md_pb dX12_init_314 (by decide +kernel) rfl) (md_pb dX12_init_316 (by decide +kernel) rfl) dX12_init_318 rfl ?_
  refine md_step hO 51 (by decide) dX12_init_319 rfl (md_pb dX12_init_320 (by decide +kernel) rfl) (md_pb dX12_init_322 (by decide +kernel) rfl) dX12_init_324 rfl ?_
  refine md_step hO 52 (by decide) dX12_init_325 rfl (md_pb dX12_init_326 (by decide +kernel) rfl) (md_pb dX12_init_328 (by decide +kernel) rfl) dX12_init_330 rfl ?_
  refine md_step hO 53 (by decide) dX12_init_331 rfl (md_pb dX12_init_332 (by decide +kernel) rfl) (md_pb dX12_init_334 (by decide +kernel) rfl) dX12_init_336 rfl ?_
  refine md_step hO 54 (by decide) dX12_init_337 rfl (md_pb dX12_init_338 (by decide +kernel) rfl) (md_pb dX12_init_340 (by decide +kernel) rfl) dX12_init_342 rfl ?_
  refine md_step hO 55 (by decide) dX12_init_343 rfl (md_pb dX12_init_344 (by decide +kernel) rfl) (md_pb dX12_init_346 (by decide +kernel) rfl) dX12_init_348 rfl ?_
  refine md_step hO 56 (by decide) dX12_init_349 rfl (md_pb dX12_init_350 (by decide +kernel) rfl) (md_pb dX12_init_352 (by decide +kernel) rfl) dX12_init_354 rfl ?_
  refine md_step hO 57 (by decide) dX12_init_355 rfl (md_pb dX12_init_356 (by decide +kernel) rfl) (md_pb dX12_init_358 (by decide +kernel) rfl) dX12_init_360 rfl ?_
  refine md_step hO 58 (by decide) dX12_init_361 rfl (md_pb dX12_init_362 (by decide +kernel) rfl) (md_pb dX12_init_364 (by decide +kernel) rfl) dX12_init_366 rfl ?_
  refine md_step hO 59 (by decide) dX12_init_367 rfl (md_pb dX12_init_368 (by decide +kernel) rfl) (md_pb dX12_init_370 (by decide +kernel) rfl) dX12_init_372 rfl ?_
  exact hn
theorem md_c5 {q0 a : Nat} {cA : ClassId} (hO : md_Ok p s m args meth c ws tys q0 cA) (hn : md_Go p l e R s m args below meth c cells slots Q D A ls ws tys rest q0 a cA 445 72) : md_Go p l e R s m args below meth c cells slots Q D A ls ws tys rest q0 a cA 373 60 := by
  refine md_step hO 60 (by decide) dX12_init_373 rfl (md_pb dX12_init_374 (by decide +kernel) rfl) (md_pb dX12_init_376 (by decide +kernel) rfl) dX12_init_378 rfl ?_
  refine md_step hO 61 (by decide) dX12_init_379 rfl (md_pb dX12_init_380 (by decide +kernel) rfl) (md_pb dX12_init_382 (by decide +kernel) rfl) dX12_init_384 rfl ?_
  refine md_step hO 62 (by decide) dX12_init_385 rfl (md_pb dX12_init_386 (by decide +kernel) rfl) (md_pb dX12_init_388 (by decide +kernel) rfl) dX12_init_390 rfl ?_
  refine md_step hO 63 (by decide) dX12_init_391 rfl (md_pb dX12_init_392 (by decide +kernel) rfl) (md_pb dX12_init_394 (by decide +kernel) rfl) dX12_init_396 rfl ?_
  refine md_step hO 64 (by decide) dX12_init_397 rfl (md_pb dX12_init_398 (by decide +kernel) rfl) (md_pb dX12_init_400 (by decide +kernel) rfl) dX12_init_402 rfl ?_
  refine md_step hO 65 (by decide) dX12_init_403 rfl (md_pb dX12_init_404 (by decide +kernel) rfl) (md_pb dX12_init_406 (by decide +kernel) rfl) dX12_init_408 rfl ?_
  refine md_step hO 66 (by decide) dX12_init_409 rfl (md_pb dX12_init_410 (by decide +kernel) rfl) (md_pb dX12_init_412 (by decide +kernel) rfl) dX12_init_414 rfl ?_
  refine md_step hO 67 (by decide) dX12_init_415 rfl (md_pb dX12_init_416 (by decide +kernel) rfl) (md_pb dX12_init_418 (by decide +kernel) rfl) dX12_init_420 rfl ?_
  refine md_step hO 68 (by decide) dX12_init_421 rfl (md_pb dX12_init_422 (by decide +kernel) rfl) (md_pb dX12_init_424 (by decide +kernel) rfl) dX12_init_426 rfl ?_
  refine md_step hO 69 (by decide) dX12_init_427 rfl (md_pb dX12_init_428 (by decide +kernel) rfl) (md_pb dX12_init_430 (by decide +kernel) rfl) dX12_init_432 rfl ?_
  refine md_step hO 70 (by decide) dX12_init_433 rfl (md_pb dX12_init_434 (by decide +kernel) rfl) (md_pb dX12_init_436 (by decide +kernel) rfl) dX12_init_438 rfl ?_
  refine md_step hO 71 (by decide) dX12_init_439 rfl (md_pb dX12_init_440 (by decide +kernel) rfl) (md_pb dX12_init_442 (by decide +kernel) rfl) dX12_init_444 rfl ?_
  exact hn
theorem md_c6 {q0 a : Nat} {cA : ClassId} (hO : md_Ok p s m args meth c ws tys q0 cA) (hn : md_Go p l e R s m args below meth c cells slots Q D A ls ws tys rest q0 a cA 517 84) : md_Go p l e R s m args below meth c cells slots Q D A ls ws tys rest q0 a cA 445 72 := by
  refine md_step hO 72 (by decide) dX12_init_445 rfl (md_pb dX12_init_446 (by decide +kernel) rfl) (md_pb dX12_init_448 (by decide +kernel) rfl) dX12_init_450 rfl ?_
  refine md_step hO 73 (by decide) dX12_init_451 rfl (md_pb dX12_init_452 (by decide +kernel) rfl) (md_pb dX12_init_454 (by decide +kernel) rfl) dX12_init_456 rfl ?_
  refine md_step hO 74 (by decide) dX12_init_457 rfl (md_pb dX12_init_458 (by decide +kernel) rfl) (md_pb dX12_init_460 (by decide +kernel) rfl) dX12_init_462 rfl ?_
  refine md_step hO 75 (by decide) dX12_init_463 rfl (md_pb dX12_init_464 (by decide +kernel) rfl) (md_pb dX12_init_466 (by decide +kernel) rfl) dX12_init_468 rfl ?_
  refine md_step hO 76 (by decide) dX12_init_469 rfl (md_pb dX12_init_470 (by decide +kernel) rfl) (md_pb dX12_init_472 (by decide +kernel) rfl) dX12_init_474 rfl ?_
  refine md_step hO 77 (by decide) dX12_init_475 rfl (md_pb dX12_init_476 (by decide +kernel) rfl) (md_pb dX12_init_478 (by decide +kernel) rfl) dX12_init_480 rfl ?_
  refine md_step hO 78 (by decide) dX12_init_481 rfl (md_pb dX12_init_482 (by decide +kernel) rfl) (md_pb dX12_init_484 (by decide +kernel) rfl) dX12_init_486 rfl ?_
  refine md_step hO 79 (by decide) dX12_init_487 rfl (md_pb dX12_init_488 (by decide +kernel) rfl) (md_pb dX12_init_490 (by decide +kernel) rfl) dX12_init_492 rfl ?_
  refine md_step hO 80 (by decide) dX12_init_493 rfl (md_pb dX12_init_494 (by decide +kernel) rfl) (md_pb dX12_init_496 (by decide +kernel) rfl) dX12_init_498 rfl ?_
  refine md_step hO 81 (by decide) dX12_init_499 rfl (md_pb dX12_init_500 (by decide +kernel) rfl) (md_pb dX12_init_502 (by decide +kernel) rfl) dX12_init_504 rfl ?_
  refine md_step hO 82 (by decide) dX12_init_505 rfl (md_pb dX12_init_506 (by decide +kernel) rfl) (md_pb dX12_init_508 (by decide +kernel) rfl) dX12_init_510 rfl ?_
  refine md_step hO 83 (by decide) dX12_init_511 rfl (md_pb dX12_init_512 (by decide +kernel) rfl) (md_pb dX12_init_514 (by decide +kernel) rfl) dX12_init_516 rfl ?_
  exact hn
theorem md_c7 {q0 a : Nat} {cA : ClassId} (hO : md_Ok p s m args meth c ws tys q0 cA) (hn : md_Go p l e R s m args below meth c cells slots Q D A ls ws tys rest q0 a cA 589 96) : md_Go p l e R s m args below meth c cells slots Q D A ls ws tys rest q0 a cA 517 84 := by
  refine md_step hO 84 (by decide) dX12_init_517 rfl (md_pb dX12_init_518 (by decide +kernel) rfl) (md_pb dX12_init_520 (by decide +kernel) rfl) dX12_init_522 rfl ?_
  refine md_step hO 85 (by decide) dX12_init_523 rfl (md_pb dX12_init_524 (by decide +kernel) rfl) (md_pb dX12_init_526 (by decide +kernel) rfl) dX12_init_528 rfl ?_
  refine md_step hO 86 (by decide) dX12_init_529 rfl (md_pb dX12_init_530 (by decide +kernel) rfl) (md_pb dX12_init_532 (by decide +kernel) rfl) dX12_init_534 rfl ?_
  refine md_step hO 87 (by decide) dX12_init_535 rfl (md_pb dX12_init_536 (by decide +kernel) rfl) (md_pb dX12_init_538 (by decide +kernel) rfl) dX12_init_540 rfl ?_
  refine md_step hO 88 (by decide) dX12_init_541 rfl (md_pb dX12_init_542 (by decide +kernel) rfl) (md_pb dX12_init_544 (by decide +kernel) rfl) dX12_init_546 rfl ?_
  refine md_step hO 89 (by decide) dX12_init_547 rfl (md_pb dX12_init_548 (by decide +kernel) rfl) (md_pb dX12_init_550 (by decide +kernel) rfl) dX12_init_552 rfl ?_
  refine md_step hO 90 (by decide) dX12_init_553 rfl (md_pb dX12_init_554 (by decide +kernel) rfl) (md_pb dX12_init_556 (by decide +kernel) rfl) dX12_init_558 rfl ?_
  refine md_step hO 91 (by decide) dX12_init_559 rfl (md_pb dX12_init_560 (by decide +kernel) rfl) (md_pb dX12_init_562 (by decide +kernel) rfl) dX12_init_564 rfl ?_
  refine md_step hO 92 (by decide) dX12_init_565 rfl (md_pb dX12_init_566 (by decide +kernel) rfl) (md_pb dX12_init_568 (by decide +kernel) rfl) dX12_init_570 rfl ?_
  refine md_step hO 93 (by decide) dX12_init_571 rfl (md_pb dX12_init_572 (by decide +kernel) rfl) (md_pb dX12_init_574 (by decide +kernel) rfl) dX12_init_576 rfl ?_
  refine md_step hO 94 (by decide) dX12_init_577 rfl (md_pb dX12_init_578 (by decide +kernel) rfl) (md_pb dX12_init_580 (by decide +kernel) rfl) dX12_init_582 rfl ?_
  refine md_step hO 95 (by decide) dX12_init_583 rfl (md_pb dX12_init_584 (by decide +kernel) rfl) (md_pb dX12_init_586 (by decide +kernel) rfl) dX12_init_588 rfl ?_
  exact hn
theorem md_c8 {q0 a : Nat} {cA : ClassId} (hO : md_Ok p s m args meth c ws tys q0 cA) (hn : md_Go p l e R s m args below meth c cells slots Q D A ls ws tys rest q0 a cA 661 108) : md_Go p l e R s m args below meth c cells slots Q D A ls ws tys rest q0 a cA 589 96 := by
  refine md_step hO 96 (by decide) dX12_init_589 rfl (md_pb dX12_init_590 (by decide +kernel) rfl) (md_pb dX12_init_592 (by decide +kernel) rfl) dX12_init_594 rfl ?_
  refine md_step hO 97 (by decide) dX12_init_595 rfl (md_pb dX12_init_596 (by decide +kernel) rfl) (md_pb dX12_init_598 (by decide +kernel) rfl) dX12_init_600 rfl ?_
  refine md_step hO 98 (by decide) dX12_init_601 rfl (md_pb dX12_init_602 (by decide +kernel) rfl) (md_pb dX12_init_604 (by decide +kernel) rfl) dX12_init_606 rfl ?_
  refine md_step hO 99 (by decide) dX12_init_607 rfl (md_pb dX12_init_608 (by decide +kernel) rfl) (md_pb dX12_init_610 (by decide +kernel) rfl) dX12_init_612 rfl ?_
  refine md_step hO 100 (by decide) dX12_init_613 rfl (md_pb dX12_init_614 (by decide +kernel) rfl) (md_pb dX12_init_616 (by decide +kernel) rfl) dX12_init_618 rfl ?_
  refine md_step hO 101 (by decide) dX12_init_619 rfl (md_pb dX12_init_620 (by decide +kernel) rfl) (md_pb dX12_init_622 (by decide +kernel) rfl) dX12_init_624 rfl ?_
  refine md_step hO 102 (by decide) dX12_init_625 rfl (md_pb dX12_init_626 (by decide +kernel) rfl) (md_pb dX12_init_628 (by decide +kernel) rfl) dX12_init_630 rfl ?_
  refine md_step hO 103 (by decide) dX12_init_631 rfl (md_pb dX12_init_632 (by decide +kernel) rfl) (md_pb dX12_init_634 (by decide +kernel) rfl) dX12_init_636 rfl ?_
  refine md_step hO 104 (by decide) dX12_init_637 rfl (md_pb dX12_init_638 (by decide +kernel) rfl) (md_pb dX12_init_640 (by decide +kernel) rfl) dX12_init_642 rfl ?_
  refine md_step hO 105 (by decide) dX12_init_643 rfl (md_pb dX12_init_644 (by decide +kernel) rfl) (md_pb dX12_init_646 (by decide +kernel) rfl) dX12_init_648 rfl ?_
  refine md_step hO 106 (by decide) dX12_init_649 rfl (md_pb dX12_init_650 (by decide +kernel) rfl) (md_pb dX12_init_652 (by decide +kernel) rfl) dX12_init_654 rfl ?_
  refine md_step hO 107 (by decide) dX12_init_655 rfl (md_pb dX12_init_656 (by decide +kernel) rfl) (md_pb dX12_init_658 (by decide +kernel) rfl) dX12_init_660 rfl ?_
  exact hn
theorem md_c9 {q0 a : Nat} {cA : ClassId} (hO : md_Ok p s m args meth c ws tys q0 cA) (hn : md_Go p l e R s m args below meth c cells slots Q D A ls ws tys rest q0 a cA 733 120) : md_Go p l e R s m args below meth c cells slots Q D A ls ws tys rest q0 a cA 661 108 := by
  refine md_step hO 108 (by decide) dX12_init_661 rfl (md_pb dX12_init_662 (by decide +kernel) rfl) (md_pb dX12_init_664 (by decide +kernel) rfl) dX12_init_666 rfl ?_
  refine md_step hO 109 (by decide) dX12_init_667 rfl (md_pb dX12_init_668 (by decide +kernel) rfl) (md_pb dX12_init_670 (by decide +kernel) rfl) dX12_init_672 rfl ?_
  refine md_step hO 110 (by decide) dX12_init_673 rfl (md_pb dX12_init_674 (by decide +kernel) rfl) (md_pb dX12_init_676 (by decide +kernel) rfl) dX12_init_678 rfl ?_
  refine md_step hO 111 (by decide) dX12_init_679 rfl (md_pb dX12_init_680 (by decide +kernel) rfl) (md_pb dX12_init_682 (by decide +kernel) rfl) dX12_init_684 rfl ?_
  refine md_step hO 112 (by decide) dX12_init_685 rfl (md_pb dX12_init_686 (by decide +kernel) rfl) (md_pb dX12_init_688 (by decide +kernel) rfl) dX12_init_690 rfl ?_
  refine md_step hO 113 (by decide) dX12_init_691 rfl (md_pb dX12_init_692 (by decide +kernel) rfl) (md_pb dX12_init_694 (by decide +kernel) rfl) dX12_init_696 rfl ?_
  refine md_step hO 114 (by decide) dX12_init_697 rfl (md_pb dX12_init_698 (by decide +kernel) rfl) (md_pb dX12_init_700 (by decide +kernel) rfl) dX12_init_702 rfl ?_
  refine md_step hO 115 (by decide) dX12_init_703 rfl (md_pb dX12_init_704 (by decide +kernel) rfl) (md_pb dX12_init_706 (by decide +kernel) rfl) dX12_init_708 rfl ?_
  refine md_step hO 116 (by decide) dX12_init_709 rfl (md_pb dX12_init_710 (by decide +kernel) rfl) (md_pb dX12_init_712 (by decide +kernel) rfl) dX12_init_714 rfl ?_
  refine md_step hO 117 (by decide) dX12_init_715 rfl (md_pb dX12_init_716 (by decide +kernel) rfl) (md_pb dX12_init_718 (by decide +kernel) rfl) dX12_init_720 rfl ?_
  refine md_step hO 118 (by decide) dX12_init_721 rfl (md_pb dX12_init_722 (by decide +kernel) rfl) (md_pb dX12_init_724 (by decide +kernel) rfl) dX12_init_726 rfl ?_
  refine md_step hO 119 (by decide) dX12_init_727 rfl (md_pb dX12_init_728 (by decide +kernel) rfl) (md_pb dX12_init_730 (by decide +kernel) rfl) dX12_init_732 rfl ?_
  exact hn
theorem md_c10 {q0 a : Nat} {cA : ClassId} (hO : md_Ok p s m args meth c ws tys q0 cA) (hn : md_Go p l e R s m args below meth c cells slots Q D A ls ws tys rest q0 a cA 809 132) : md_Go p l e R s m args below meth c cells slots Q D A ls ws tys rest q0 a cA 733 120 := by
  refine md_step hO 120 (by decide) dX12_init_733 rfl (md_pb dX12_init_734 (by decide +kernel) rfl) (md_pb dX12_init_736 (by decide +kernel) rfl) dX12_init_738 rfl ?_
  refine md_step hO 121 (by decide) dX12_init_739 rfl (md_pb dX12_init_740 (by decide +kernel) rfl) (md_pb dX12_init_742 (by decide +kernel) rfl) dX12_init_744 rfl ?_
  refine md_step hO 122 (by decide) dX12_init_745 rfl (md_pb dX12_init_746 (by decide +kernel) rfl) (md_pb dX12_init_748 (by decide +kernel) rfl) dX12_init_750 rfl ?_
  refine md_step hO 123 (by decide) dX12_init_751 rfl (md_pb dX12_init_752 (by decide +kernel) rfl) (md_pb dX12_init_754 (by decide +kernel) rfl) dX12_init_756 rfl ?_
  refine md_step hO 124 (by decide) dX12_init_757 rfl (md_pb dX12_init_758 (by decide +kernel) rfl) (md_pb dX12_init_760 (by decide +kernel) rfl) dX12_init_762 rfl ?_
  refine md_step hO 125 (by decide) dX12_init_763 rfl (md_pb dX12_init_764 (by decide +kernel) rfl) (md_pb dX12_init_766 (by decide +kernel) rfl) dX12_init_768 rfl ?_
  refine md_step hO 126 (by decide) dX12_init_769 rfl (md_pb dX12_init_770 (by decide +kernel) rfl) (md_pb dX12_init_772 (by decide +kernel) rfl) dX12_init_774 rfl ?_
  refine md_step hO 127 (by decide) dX12_init_775 rfl (md_pb dX12_init_776 (by decide +kernel) rfl) (md_pb dX12_init_778 (by decide +kernel) rfl) dX12_init_780 rfl ?_
  refine md_step hO 128 (by decide) dX12_init_781 rfl (md_ps dX12_init_782 (by decide +kernel) rfl) (md_pb dX12_init_785 (by decide +kernel) rfl) dX12_init_787 rfl ?_
  refine md_step hO 129 (by decide) dX12_init_788 rfl (md_ps dX12_init_789 (by decide +kernel) rfl) (md_pb dX12_init_792 (by decide +kernel) rfl) dX12_init_794 rfl ?_
  refine md_step hO 130 (by decide) dX12_init_795 rfl (md_ps dX12_init_796 (by decide +kernel) rfl) (md_pb dX12_init_799 (by decide +kernel) rfl) dX12_init_801 rfl ?_
  refine md_step hO 131 (by decide) dX12_init_802 rfl (md_ps dX12_init_803 (by decide +kernel) rfl) (md_pb dX12_init_806 (by decide +kernel) rfl) dX12_init_808 rfl ?_
  exact hn
theorem md_all {q0 a : Nat} {cA : ClassId} (hO : md_Ok p s m args meth c ws tys q0 cA) (hn : md_Go p l e R s m args below meth c cells slots Q D A ls ws tys rest q0 a cA 809 132) : md_Go p l e R s m args below meth c cells slots Q D A ls ws tys rest q0 a cA 19 0 := (md_c0 hO (md_c1 hO (md_c2 hO (md_c3 hO (md_c4 hO (md_c5 hO (md_c6 hO (md_c7 hO (md_c8 hO (md_c9 hO (md_c10 hO hn)))))))))))
end
end
