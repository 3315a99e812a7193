/-! ===== a method's contract out of its code, and calls ===== -/
def z_room (k : Nat) : Room := { frames := k, cells := 0, slots := 0, locals := 38 * k }
def z_ws1 (y : MethodName) (cc : ByteArray) (nL : Nat) (ret : Option FieldType) : List Cond := Cond.code y cc nL ret :: z_tbl
/-- method y does what f says: from every world, wherever it is called -/
def z_Sim (y : MethodName) (cc : ByteArray) (nL : Nat) (ret : Option FieldType) (k : Nat) (f : zD) : Prop := ∀ (l : Launch) (D : va_G) (bs : Nat) (α : Nat → Nat) (γ : Nat → ClassId) (n : Nat) (τ : Nat → Nat) (Λ : Int → Int) (as : List zV) (M : zM) (r : List zV × zM),
  f Λ as M = some r → (∀ v ∈ as, z_ok n τ v) → z_TM n τ Λ M →
  Met l y (z_ws1 y cc nL ret) (z_room k) (va_Pc (as.map (z_cv α)) (fun U => va_P D vwCl (z_ws α γ n τ Λ M) U.heap ∧ va_D (fun q => bs ≤ q) (z_ws α γ n τ Λ M) ∧ z_Kn D γ n τ Λ U)) (z_Qc D bs α γ n τ Λ r) 0 0 (fun q => bs ≤ q)
theorem z_exp_len (α : Nat → Nat) : ∀ (as : List zV), (lg_sl (as.map (z_cv α))).length = (z_exp as).length := by
  intro as
  induction as with
  | nil => rfl
  | cons v l ih =>
    rcases v with v | v | v | v
    all_goals (simp only [List.map_cons, lg_sl, List.flatMap_cons, z_cv, Value.category, z_exp, List.length_append, List.length_cons] at ih ⊢; simp [lg_sl] at ih ⊢; omega)
theorem z_exp_at (α : Nat → Nat) : ∀ (as : List zV) (i : Nat), z_nth (z_exp as) i ≠ zU → (lg_sl (as.map (z_cv α)))[i]? = some (.val (z_cv α (z_nth (z_exp as) i))) := by
  intro as
  induction as with
  | nil => intro i h; exact absurd rfl h
  | cons v l ih =>
    intro i h
    rcases v with v | v | v | v
    · cases i with
      | zero => rfl
      | succ i => exact ih i h
    · cases i with
      | zero => rfl
      | succ i =>
        cases i with
        | zero => exact absurd rfl h
        | succ i => exact ih i h
    · cases i with
      | zero => rfl
      | succ i => exact ih i h
    · cases i with
      | zero => exact absurd rfl h
      | succ i => exact ih i h
theorem z_nth_us : ∀ (n i : Nat), z_nth (z_us n) i = zU := by
  intro n
  induction n with
  | zero => intro i; rfl
  | succ n ih =>
    intro i
    cases i with
    | zero => rfl
    | succ i => exact ih i
theorem z_nth_app : ∀ (a b : List zV) (i : Nat), z_nth (a ++ b) i = if i < a.length then z_nth a i else z_nth b (i - a.length) := by
  intro a
  induction a with
  | nil => intro b i; simp
  | cons v l ih =>
    intro b i
    cases i with
    | zero => rfl
    | succ i =>
      show z_nth (l ++ b) i = _
      rw [ih]
      simp [z_nth]
theorem z_ent_nth (pad : Nat) (as : List zV) (i : Nat) : z_nth (z_ent pad as) i = z_nth (z_exp as) i := by
  unfold z_ent
  rw [z_nth_app]
  split
  · rfl
  · rw [z_nth_us, z_nth_out _ _ (by omega)]
theorem z_exp_ok {n : Nat} {τ : Nat → Nat} : ∀ (as : List zV), (∀ v ∈ as, z_ok n τ v) → ∀ i, z_ok n τ (z_nth (z_exp as) i) := by
  intro as
  induction as with
  | nil => intro _ i; trivial
  | cons v l ih =>
    intro h i
    have hl := ih (fun w hw => h w (List.mem_cons_of_mem _ hw))
    have h0 := h v List.mem_cons_self
    rcases v with v | v | v | v
    · cases i with
      | zero => exact h0
      | succ i => exact hl i
    · cases i with
      | zero => exact h0
      | succ i =>
        cases i with
        | zero => trivial
        | succ i => exact hl i
    · cases i with
      | zero => exact h0
      | succ i => exact hl i
    · cases i with
      | zero => trivial
      | succ i => exact hl i
/-- a method by its code; too many arguments: none -/
noncomputable def z_me (code : (Int → Int) → Nat → zTm) (nL pad : Nat) : zD := fun Λ as M => match Nat.ble (z_exp as).length nL with
  | true => z_fn code pad Λ as M
  | false => none
theorem z_met {y : MethodName} {cc : ByteArray} {nL : Nat} {ret : Option FieldType} {k pad : Nat} {code : (Int → Int) → Nat → zTm} {P : Nat → Nat} (hy : plainName y.cls = true) (hP : P 0 = 0) (hT : ∀ Λ l, z_Tl (code Λ l))
    (hS : ∀ X : zX, z_Cx X y.cls cc nL ret k → ∀ l, z_St X P (P l) (code (x_La X) l)) : z_Sim y cc nL ret k (z_me code nL pad) := by
  intro l D bs α γ n τ Λ as M r hf hok hTM
  unfold z_me at hf
  cases hlen : Nat.ble (z_exp as).length nL with
  | false => rw [hlen] at hf; cases hf
  | true =>
  rw [hlen] at hf
  have hlen := Nat.le_of_ble_eq_true hlen
  have hf : z_out (z_ev (code Λ) 0 (z_ent pad as) [] M) = some r := hf
  have hev : z_ev (code Λ) 0 (z_ent pad as) [] M = some (.inl r) := by
    cases he : z_ev (code Λ) 0 (z_ent pad as) [] M with
    | none => rw [he] at hf; cases hf
    | some q =>
      rw [he] at hf
      cases q with
      | inl q => cases hf; rfl
      | inr q => cases hf
  obtain ⟨fu, hit⟩ := z_ev_some hev
  refine Met.ofW (cc := cc) (maxL := nL) (ret := ret) hy rfl ?_
  intro p e s m args below meth c s₁ B hml hv
  obtain ⟨rfl, hPw, hDw, hKw⟩ := hv
  have hts := atoms_spec (ws := z_ws1 y cc nL ret) B.pre
  let X : zX := ((p, l, e, z_room k, s), (m, (as.map (z_cv α)).toArray, below, meth, c), (0, 0, MQ below (z_Qc D bs α γ n τ Λ r) (as.map (z_cv α)).toArray s 0 0 (fun q => bs ≤ q)), (D, bs, α, γ), (n, τ, Λ), fun q => q = r)
  have hC : z_Cx X y.cls cc nL ret k := by
    refine ⟨B.exec, B.bytes, hml, findClass_of_methodNamed B.named, fun w hw => hts w (List.mem_cons_of_mem _ hw), B.notSynchronized, B.returns, hKw, ⟨Nat.le_refl _, Nat.le_refl _, Nat.le_refl _, Nat.le_refl _⟩, ?_⟩
    intro q hq
    have hq : q = r := hq
    subst hq
    rfl
  have hW := ((z_main (X := X) (P := P) (hT Λ) (hS X hC)) fu 0 (z_ent pad as) [] M).1 r hit rfl
  rw [hP] at hW
  have hle : (lg_sl (as.map (z_cv α))).length ≤ nL := by rw [z_exp_len]; exact hlen
  have hl := lv_entry (as.map (z_cv α)) (n := nL) hle
  rw [lg_entry_eq]
  refine hW s.heap [] _ ⟨hPw, hDw, va_S.rf, hTM⟩ ⟨by rw [hl.1]; exact hml.symm, hl.2.1, fun i hi => ?_⟩ (fun i => by rw [z_ent_nth]; exact z_exp_ok as hok i) (fun v hv => by cases hv)
  rw [z_ent_nth] at hi ⊢
  have h1 := z_exp_at α as i hi
  have h2 : i < (lg_sl (as.map (z_cv α))).length := (List.getElem?_eq_some_iff.mp h1).1
  show (lg_sl (as.map (z_cv α)) ++ List.replicate (nL - (lg_sl (as.map (z_cv α))).length) Slot.unset).toArray[i]? = _
  rw [List.getElem?_toArray, List.getElem?_append_left h2]
  exact h1
section
variable {X : zX} {own : String} {cc : ByteArray} {nL : Nat} {ret : Option FieldType} {kd : Nat} {pc : Nat} {P : Nat → Nat}
theorem z_goodIn {y : MethodName} {c2 : ByteArray} {nL2 : Nat} {ret2 : Option FieldType} (h : Cond.code y c2 nL2 ret2 ∈ z_tbl) : GoodIn z_tbl (z_ws1 y c2 nL2 ret2) := by
  intro w hw
  rcases List.mem_cons.mp hw with rfl | hw
  · exact ⟨h, good_of_word (z_good _ h)⟩
  · exact ⟨hw, good_of_word (z_good _ hw)⟩
theorem z_blind {D : va_G} {bs : Nat} {α : Nat → Nat} {γ : Nat → ClassId} {n : Nat} {τ : Nat → Nat} {Λ : Int → Int} {M : zM} {vs : List Value} : FrameBlind (va_Pc vs (fun U => va_P D vwCl (z_ws α γ n τ Λ M) U.heap ∧ va_D (fun q => bs ≤ q) (z_ws α γ n τ Λ M) ∧ z_Kn D γ n τ Λ U)) := by
  intro a U g mk h
  obtain ⟨h0, h1, h2, h3⟩ := h
  exact ⟨h0, h1, h2, z_Kn.same (u := U) (U := U.calling g mk a) rfl h3⟩
/-- behind a call -/
theorem z_back {st0 rest : List Value} {ls : Array Slot} {M : zM} {r : List zV × zM} {H : Heap} {locs : List Loc} {a : Array Value} (hR : z_Rl X M H locs)
    (hr : va_Run (x_p X) (x_l X) (x_e X) (x_R X) (x_s X) (x_m X) (x_a X) (x_b X) (x_y X) (x_c X) H locs (x_nc X) (x_ns X) 0 0 (F0 (x_m X) pc ls st0) rest (x_Qc X r a) (x_A X))
    (kk : ∀ (H1 : Heap) (locs1 : List Loc), z_Rl X r.2 H1 locs1 → (∀ v ∈ r.1, x_ok X v) → x_W X H1 locs1 (F0 (x_m X) (pc + 3) ls (r.1.map (z_cv (x_al X)) ++ rest))) : x_W X H locs (F0 (x_m X) pc ls st0) := by
  intro T hT X0
  obtain ⟨v, st₀, t, T', L, h0, X', hL, e1, e2, ⟨hv, hP, hTM, hok, hlen, hz, hk⟩, st⟩ := hr T hT X0
  have hv := Outcome.returned.inj hv
  rw [h0] at hz hk
  have hS : va_S (x_A X) (x_s X).heap T'.heap (locs ++ L) := by
    refine ⟨Nat.le_trans hR.2.2.1.1 (by rw [e1]; exact hz), fun q h1 h2 => ?_, fun q hq => ?_⟩
    · rw [e1, hk q (Nat.lt_of_lt_of_le h1 hR.2.2.1.1) h2]
      exact hR.2.2.1.2.1 q h1 h2
    · rcases List.mem_append.mp hq with h | h
      · exact hR.2.2.1.2.2 q h
      · exact hL q h
  have hD : va_D (x_A X) (x_ws X r.2) := by
    obtain ⟨d1, d2⟩ := hR.2.1
    have hsame : ∀ (i : Nat) (q : Nat × va_E), (x_ws X r.2)[i]? = some q → ∃ e, (x_ws X M)[i]? = some (q.1, e) := by
      intro i q hq
      by_cases hi : i < x_n X
      · rw [z_ws_get hi] at hq
        cases hq
        exact ⟨_, z_ws_get hi⟩
      · have : (x_ws X r.2)[i]? = none := by simp [z_ws]; omega
        rw [this] at hq
        cases hq
    refine ⟨fun i j p q hp hq h => ?_, fun i q hq => ?_⟩
    · obtain ⟨ep, hp'⟩ := hsame i p hp
      obtain ⟨eq, hq'⟩ := hsame j q hq
      exact d1 i j _ _ hp' hq' h
    · obtain ⟨eq, hq'⟩ := hsame i q hq
      exact d2 i (q.1, eq) hq'
  obtain ⟨t2, a1, b1⟩ := kk T'.heap (locs ++ L) ⟨by rw [e1]; exact hP, hD, hS, hTM⟩ hok T' rfl X'
  refine ⟨t2, st t2 ?_, b1⟩
  have e3 : v.toList ++ rest = r.1.map (z_cv (x_al X)) ++ rest := by
    rw [hv]
    rcases hr1 : r.1 with _ | ⟨w, _ | ⟨w2, l2⟩⟩
    · rfl
    · rfl
    · rw [hr1] at hlen; simp at hlen
  rw [e3]
  exact a1
theorem z_wt_map {α : Nat → Nat} : ∀ (r : List zV), ((r.map (z_cv α)).map fun v => v.category).sum ≤ z_wt r := by
  intro r
  induction r with
  | nil => simp
  | cons v l ih =>
    rcases v with v | v | v | v <;> simp only [List.map_cons, List.sum_cons, z_wt, z_cv, Value.category] at ih ⊢ <;> omega
theorem z_spl_eq : ∀ (n : Nat) (acc st as r : List zV), z_spl n acc st = some (as, r) → ∃ bs, as = bs ++ acc ∧ st = bs.reverse ++ r ∧ bs.length = n := by
  intro n
  induction n with
  | zero =>
    intro acc st as r h
    cases h
    exact ⟨[], rfl, rfl, rfl⟩
  | succ n ih =>
    intro acc st as r h
    cases st with
    | nil => cases h
    | cons v st =>
      obtain ⟨bs, h1, h2, h3⟩ := ih (v :: acc) st as r h
      exact ⟨bs ++ [v], by rw [h1]; simp, by rw [h2]; simp, by simp [h3]⟩
/-- what is done with an answer: its kind is looked at, no more -/
def z_HB (B : zB) : Prop := ∀ o, (∀ k, B o k = none) ∨ ∃ rv M', o = some (rv, M') ∧ ∀ k, B o k = k rv M'
theorem z_hbI : z_HB z_BI := by
  intro o
  rcases o with _ | ⟨_ | ⟨v | v | v | v, _ | ⟨w, l⟩⟩, M⟩ <;> first | exact Or.inr ⟨_, _, rfl, fun _ => rfl⟩ | exact Or.inl fun _ => rfl
theorem z_hbJ : z_HB z_BJ := by
  intro o
  rcases o with _ | ⟨_ | ⟨v | v | v | v, _ | ⟨w, l⟩⟩, M⟩ <;> first | exact Or.inr ⟨_, _, rfl, fun _ => rfl⟩ | exact Or.inl fun _ => rfl
theorem z_hbV : z_HB z_BV := by
  intro o
  rcases o with _ | ⟨_ | ⟨v, l⟩, M⟩ <;> first | exact Or.inr ⟨_, _, rfl, fun _ => rfl⟩ | exact Or.inl fun _ => rfl
theorem z_ot_call (Λ : Int → Int) {B : zB} (hB : z_HB B) (f : zD) (n : Nat) : z_Ot (z_call Λ B f n) := by
  intro L st M
  unfold z_call
  cases z_spl n [] st with
  | none => exact Or.inl fun _ => rfl
  | some q =>
    obtain ⟨as, r⟩ := q
    dsimp only
    cases Nat.ble (z_wt r) 8
    · exact Or.inl fun _ => rfl
    · rcases hB (f Λ as M) with h | ⟨rv, M', -, h⟩
      · exact Or.inl fun _ => h _
      · exact Or.inr ⟨_, _, _, fun _ => h _⟩
theorem z_ot_callv (Λ : Int → Int) {B : zB} (hB : z_HB B) (f : zD) (n t : Nat) : z_Ot (z_callv Λ B f n t) := by
  intro L st M
  unfold z_callv
  cases z_spl n [] st with
  | none => exact Or.inl fun _ => rfl
  | some q =>
    obtain ⟨as, r⟩ := q
    dsimp only
    cases Nat.ble (z_wt r) 8 && z_hdA t as
    · exact Or.inl fun _ => rfl
    · rcases hB (f Λ as M) with h | ⟨rv, M', -, h⟩
      · exact Or.inl fun _ => h _
      · exact Or.inr ⟨_, _, _, fun _ => h _⟩
/-- the callee's room within the caller's -/
theorem z_roomok {k nL2 : Nat} (hC : z_Cx X own cc nL ret kd) (hk : k + 1 ≤ kd) (hl : nL2 ≤ 19) : (z_room k).frames + 1 ≤ (x_R X).frames ∧ 8 + (nL2 + 11) + (z_room k).locals ≤ (x_R X).locals := by
  obtain ⟨-, -, h3, h4⟩ := hC.2.2.2.2.2.2.2.2.1
  refine ⟨Nat.le_trans hk h3, Nat.le_trans ?_ h4⟩
  show 8 + (nL2 + 11) + 38 * k ≤ 38 * kd
  omega
/-- what a call's row needs: the callee's code and words, its descriptor, its room -/
def z_Cl (y : MethodName) (c2 : ByteArray) (nL2 : Nat) (ret2 : Option FieldType) (k kd np : Nat) : Prop := Cond.code y c2 nL2 ret2 ∈ z_tbl ∧ Cond.initialized y.cls ∈ z_tbl ∧ (y.cls ≠ "java/lang/invoke/MethodHandle" ∧ y.cls ≠ "java/lang/invoke/VarHandle" ∧ (parseMethodDescriptor y.desc).map (fun d => d.parameters.length) = some np) ∧ k + 1 ≤ kd ∧ nL2 ≤ 19
theorem z_so_calls (hC : z_Cx X own cc nL ret kd) {y : MethodName} {c2 : ByteArray} {nL2 np k ix : Nat} {ret2 : Option FieldType} {f : zD} {B : zB} (hB : z_HB B) (hM : z_Sim y c2 nL2 ret2 k f) (hc : z_Cl y c2 nL2 ret2 k kd np) (hst : Cond.static y ∈ z_tbl) (hl : Cond.methodLink own ix y ∈ z_tbl ∨ ∃ host, Cond.methodLinkNest own ix y host ∈ z_nst) (hd : decode cc pc = .ok (.invokestatic ix, 3)) : z_So X pc (pc + 3) (z_call (x_La X) B f np) := by
  refine z_so_mk fun L st M => ?_
  unfold z_call
  cases hsp : z_spl np [] st with
  | none => exact Or.inl fun _ => rfl
  | some q =>
    obtain ⟨as, r⟩ := q
    dsimp only
    cases hw8 : Nat.ble (z_wt r) 8
    · exact Or.inl fun _ => rfl
    · rcases hB (f (x_La X) as M) with hn | ⟨rv, M2, hf, hk⟩
      · exact Or.inl fun _ => hn _
      · obtain ⟨q, rfl, rfl⟩ : ∃ q : List zV × zM, q.1 = rv ∧ q.2 = M2 := ⟨(rv, M2), rfl, rfl⟩
        have hf : f (x_La X) as M = some q := hf
        refine Or.inr ⟨L, q.1 ++ r, q.2, fun _ => hk _, fun hw H locs ls hR hl0 ho hs => ?_⟩
        obtain ⟨bs, e1, e2, e3⟩ := z_spl_eq np [] st as r hsp
        rw [List.append_nil] at e1
        subst e1
        subst e2
        have hw8 := Nat.le_of_ble_eq_true hw8
        have hoka : ∀ v ∈ as, x_ok X v := fun v hv => hs v (List.mem_append.mpr (Or.inl (List.mem_reverse.mpr hv)))
        have hokr : ∀ v ∈ r, x_ok X v := fun v hv => hs v (List.mem_append.mpr (Or.inr hv))
        have hMet := hM (x_l X) (x_D X) (x_bs X) (x_al X) (x_ga X) (x_n X) (x_ty X) (x_La X) as M q hf hoka hR.2.2.2
        have hro := z_roomok hC hc.2.2.2.1 hc.2.2.2.2
        obtain ⟨hx, hb, hml, hown, hts, hlk, hrt, hK, hrm, hQ⟩ := hC
        have hPre : PreS (x_s X) H (va_Pc (as.map (z_cv (x_al X))) (fun U => va_P (x_D X) vwCl (x_ws X M) U.heap ∧ va_D (x_A X) (x_ws X M) ∧ z_Kn (x_D X) (x_ga X) (x_n X) (x_ty X) (x_La X) U)) (as.map (z_cv (x_al X))) := ⟨z_blind, fun U hU hWm => ⟨rfl, by rw [hU]; exact hR.1, hR.2.1, z_Kn.warm hWm hK⟩⟩
        have hstk : (F0 (x_m X) pc ls ((as.reverse ++ r).map (z_cv (x_al X)))).stack = (as.map (z_cv (x_al X))).reverse ++ r.map (z_cv (x_al X)) := by simp
        have hkk : ∀ (H1 : Heap) (locs1 : List Loc), z_Rl X q.2 H1 locs1 → (∀ v ∈ q.1, x_ok X v) → x_W X H1 locs1 (F0 (x_m X) (pc + 3) ls (q.1.map (z_cv (x_al X)) ++ r.map (z_cv (x_al X)))) := fun H1 locs1 hR1 hok1 => by
          rw [← List.map_append]
          exact hw H1 locs1 ls hR1 hl0 ho (fun v hv => (List.mem_append.mp hv).elim (hok1 v) (hokr v))
        rcases hl with hl | ⟨host, hl⟩
        · have cw : CallB (x_R X) (x_s X) (x_a X) own ix y c2 nL2 ret2 (z_ws1 y c2 nL2 ret2) (z_room k) 0 0 np := callB_of np hts (z_goodIn hc.1) rfl rfl rfl (hts _ hc.2.1) (hts _ hl) hc.2.2.1 hro
          exact z_back hR (va_runS (As := as.map (z_cv (x_al X))) (rest := r.map (z_cv (x_al X))) ⟨hx, hb, hml, hown, hts⟩ hMet ⟨cw, hts _ hst⟩ hPre rfl (by rw [List.length_map]; exact e3) (hl0.1.trans hml) hstk (lv_room (Nat.le_trans (z_wt_map r) hw8)) hd ⟨hrm.1, hrm.2.1⟩) hkk
        · have cw : va_CN (x_R X) (x_s X) (x_a X) own ix y host c2 nL2 ret2 (z_ws1 y c2 nL2 ret2) (z_room k) 0 0 np := ⟨⟨rfl, rfl, hro.1, hro.2, pay_in hts (z_goodIn hc.1), List.mem_cons_self⟩, hts _ hc.1, hts _ hc.2.1, ⟨hc.2.2.1.1, hc.2.2.1.2.1⟩, fun sig h => by have h2 := hc.2.2.1.2.2; rw [h] at h2; exact (Option.some.inj h2).symm, va_Nw.use rfl (hK.2.1.2 _ hl)⟩
          exact z_back hR (va_runSN (As := as.map (z_cv (x_al X))) (rest := r.map (z_cv (x_al X))) ⟨hx, hb, hml, hown, hts⟩ hMet ⟨cw, hts _ hst, trivial⟩ hPre rfl (by rw [List.length_map]; exact e3) (hl0.1.trans hml) hstk (lv_room (Nat.le_trans (z_wt_map r) hw8)) hd ⟨hrm.1, hrm.2.1⟩) hkk
theorem z_so_callv (hC : z_Cx X own cc nL ret kd) {y : MethodName} {c2 : ByteArray} {nL2 np k ix t N : Nat} {ret2 : Option FieldType} {f : zD} {T : u_T} {B : zB} (hB : z_HB B) (hM : z_Sim y c2 nL2 ret2 k f) (hc : z_Cl y c2 nL2 ret2 k kd np) (hin : Cond.instanceMethod y ∈ z_tbl) (hse : Cond.selects y.cls y y ∈ z_tbl) (hcl : vwCl[t]? = some (y.cls, T, N)) (ht : t < 13) (hl : Cond.methodLink own ix y ∈ z_tbl ∨ ∃ host, Cond.methodLinkNest own ix y host ∈ z_nst) (hd : decode cc pc = .ok (.invokevirtual ix, 3)) : z_So X pc (pc + 3) (z_callv (x_La X) B f (np + 1) t) := by
  refine z_so_mk fun L st M => ?_
  unfold z_callv
  cases hsp : z_spl (np + 1) [] st with
  | none => exact Or.inl fun _ => rfl
  | some q =>
    obtain ⟨as0, r⟩ := q
    dsimp only
    cases hw8 : Nat.ble (z_wt r) 8 && z_hdA t as0
    · exact Or.inl fun _ => rfl
    · rcases hB (f (x_La X) as0 M) with hn | ⟨rv, M2, hf, hk⟩
      · exact Or.inl fun _ => hn _
      · obtain ⟨q, rfl, rfl⟩ : ∃ q : List zV × zM, q.1 = rv ∧ q.2 = M2 := ⟨(rv, M2), rfl, rfl⟩
        have hf : f (x_La X) as0 M = some q := hf
        refine Or.inr ⟨L, q.1 ++ r, q.2, fun _ => hk _, fun hw H locs ls hR hl0 ho hs => ?_⟩
        obtain ⟨bs, e1, e2, e3⟩ := z_spl_eq (np + 1) [] st as0 r hsp
        rw [List.append_nil] at e1
        subst e1
        subst e2
        obtain ⟨hw7, hhd⟩ := Bool.and_eq_true_iff.mp hw8
        have hw6 := Nat.le_of_ble_eq_true hw7
        rcases as0 with _ | ⟨v | v | ⟨t', a⟩ | v, as⟩
        · cases hhd
        · cases hhd
        · cases hhd
        · have ht' : t' = t := Nat.eq_of_beq_eq_true hhd
          subst ht'
          have hoka : ∀ v ∈ (zA t' a :: as), x_ok X v := fun v hv => hs v (List.mem_append.mpr (Or.inl (List.mem_reverse.mpr hv)))
          have hokr : ∀ v ∈ r, x_ok X v := fun v hv => hs v (List.mem_append.mpr (Or.inr hv))
          have hMet := hM (x_l X) (x_D X) (x_bs X) (x_al X) (x_ga X) (x_n X) (x_ty X) (x_La X) (zA t' a :: as) M q hf hoka hR.2.2.2
          have hro := z_roomok hC hc.2.2.2.1 hc.2.2.2.2
          obtain ⟨hx, hb, hml, hown, hts, hlk, hrt, hK, hrm, hQ⟩ := hC
          have ha : x_ok X (zA t' a) := hoka _ List.mem_cons_self
          have he : (x_ws X M)[a.toNat]? = some (x_al X a.toNat, .inr (t', (z_fld t').mapIdx (fun j k => z_fv (x_al X) k (M a j)))) := by
            obtain ⟨ha0, han, hat⟩ := ha
            rw [z_ws_get han, hat, z_cell_obj ht]
            rw [Int.toNat_of_nonneg ha0]
          have hPre : PreV (x_s X) H y.cls (x_al X a.toNat) (va_Pc ((zA t' a :: as).map (z_cv (x_al X))) (fun U => va_P (x_D X) vwCl (x_ws X M) U.heap ∧ va_D (x_A X) (x_ws X M) ∧ z_Kn (x_D X) (x_ga X) (x_n X) (x_ty X) (x_La X) U)) (as.map (z_cv (x_al X))) := ⟨z_blind, va_recv hK.1 hR.1 hcl he, fun U hU hWm => ⟨rfl, by rw [hU]; exact hR.1, hR.2.1, z_Kn.warm hWm hK⟩⟩
          have hstk : (F0 (x_m X) pc ls (((zA t' a :: as).reverse ++ r).map (z_cv (x_al X)))).stack = (as.map (z_cv (x_al X))).reverse ++ .ref (x_al X a.toNat) :: r.map (z_cv (x_al X)) := by simp [z_cv]
          have hkk : ∀ (H1 : Heap) (locs1 : List Loc), z_Rl X q.2 H1 locs1 → (∀ v ∈ q.1, x_ok X v) → x_W X H1 locs1 (F0 (x_m X) (pc + 3) ls (q.1.map (z_cv (x_al X)) ++ r.map (z_cv (x_al X)))) := fun H1 locs1 hR1 hok1 => by
            rw [← List.map_append]
            exact hw H1 locs1 ls hR1 hl0 ho (fun v hv => (List.mem_append.mp hv).elim (hok1 v) (hokr v))
          have hlen : (as.map (z_cv (x_al X))).length = np := by rw [List.length_map]; simpa using e3
          rcases hl with hl | ⟨host, hl⟩
          · have cw : CallB (x_R X) (x_s X) (x_a X) own ix y c2 nL2 ret2 (z_ws1 y c2 nL2 ret2) (z_room k) 0 0 np := callB_of np hts (z_goodIn hc.1) rfl rfl rfl (hts _ hc.2.1) (hts _ hl) hc.2.2.1 hro
            exact z_back hR (va_runV (C := y.cls) (b := x_al X a.toNat) (As := as.map (z_cv (x_al X))) (rest := r.map (z_cv (x_al X))) ⟨hx, hb, hml, hown, hts⟩ hMet ⟨cw, hts _ hin, hts _ hse⟩ hPre rfl hlen (hl0.1.trans hml) hstk (lv_room (Nat.le_trans (z_wt_map r) hw6)) hd ⟨hrm.1, hrm.2.1⟩) hkk
          · have cw : va_CN (x_R X) (x_s X) (x_a X) own ix y host c2 nL2 ret2 (z_ws1 y c2 nL2 ret2) (z_room k) 0 0 np := ⟨⟨rfl, rfl, hro.1, hro.2, pay_in hts (z_goodIn hc.1), List.mem_cons_self⟩, hts _ hc.1, hts _ hc.2.1, ⟨hc.2.2.1.1, hc.2.2.1.2.1⟩, fun sig h => by have h2 := hc.2.2.1.2.2; rw [h] at h2; exact (Option.some.inj h2).symm, va_Nw.use rfl (hK.2.1.2 _ hl)⟩
            exact z_back hR (va_runVN (C := y.cls) (b := x_al X a.toNat) (As := as.map (z_cv (x_al X))) (rest := r.map (z_cv (x_al X))) ⟨hx, hb, hml, hown, hts⟩ hMet ⟨cw, hts _ hin, hts _ hse⟩ hPre rfl hlen (hl0.1.trans hml) hstk (lv_room (Nat.le_trans (z_wt_map r) hw6)) hd ⟨hrm.1, hrm.2.1⟩) hkk
        · cases hhd
end
