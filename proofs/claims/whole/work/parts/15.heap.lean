/-! ===== fields and arrays ===== -/
section
variable {α : Nat → Nat} {γ : Nat → ClassId} {n : Nat} {τ : Nat → Nat} {Λ : Int → Int} {M M' : zM}
theorem z_ws_get {i : Nat} (h : i < n) : (z_ws α γ n τ Λ M)[i]? = some (α i, z_cell α (τ i) (Λ i).toNat (M i) (γ i)) := by simp [z_ws, h]
theorem z_ws_set {i : Nat} (hi : i < n) (h : ∀ i' : Nat, i' ≠ i → M' i' = M i') : z_ws α γ n τ Λ M' = (z_ws α γ n τ Λ M).set i (α i, z_cell α (τ i) (Λ i).toNat (M' i) (γ i)) := by
  apply List.ext_getElem?
  intro j
  rw [List.getElem?_set]
  by_cases hj : j < n
  · rw [z_ws_get hj]
    by_cases hij : i = j
    · subst hij
      have hl : i < (z_ws α γ n τ Λ M).length := by simp [z_ws, hi]
      simp [hl]
    · rw [if_neg hij, z_ws_get hj, h j (fun q => hij q.symm)]
  · have h1 : (z_ws α γ n τ Λ M')[j]? = none := by simp [z_ws]; omega
    have h2 : (z_ws α γ n τ Λ M)[j]? = none := by simp [z_ws]; omega
    have hij : i ≠ j := by omega
    rw [h1, if_neg hij, h2]
theorem z_cell_obj {t len : Nat} {row : Int → Int} {cA : ClassId} (h : t < 13) : z_cell α t len row cA = .inr (t, (z_fld t).mapIdx (fun j k => z_fv α k (row j))) := by
  unfold z_cell
  rw [if_neg (by omega), if_neg (by omega), if_neg (by omega)]
theorem z_cell_i {t len : Nat} {row : Int → Int} {cA : ClassId} (h : t = 13 ∨ t = 14) : z_cell α t len row cA = .inl (cA, len, .inl (fun j => Int32.ofInt (row j))) := by
  unfold z_cell
  rcases h with rfl | rfl <;> simp
theorem z_cell_j {len : Nat} {row : Int → Int} {cA : ClassId} : z_cell α 15 len row cA = .inl (cA, len, .inr (.inl (fun j => Int64.ofInt (row j)))) := by
  unfold z_cell
  simp
theorem z_wr_row (a : Int) (i : Nat) (k v : Int) (h : (i : Int) ≠ a) : z_wr M a k v i = M i := by
  funext j
  unfold z_wr
  rw [if_neg (fun q => h q.1)]
theorem z_fs_set {t k kd : Nat} {a x : Int} (hk : (z_fld t)[k]? = some kd) : (z_fld t).mapIdx (fun j k' => z_fv α k' (z_wr M a k x a j)) = ((z_fld t).mapIdx (fun j k' => z_fv α k' (M a j))).set k (z_fv α kd x) := by
  apply List.ext_getElem?
  intro j
  rw [List.getElem?_set]
  by_cases hkj : k = j
  · subst hkj
    have hl : k < ((z_fld t).mapIdx (fun j k' => z_fv α k' (M a j))).length := by
      rw [List.length_mapIdx]
      exact (List.getElem?_eq_some_iff.mp hk).1
    rw [if_pos rfl, if_pos hl, List.getElem?_mapIdx, hk]
    simp [z_wr]
  · rw [if_neg hkj, List.getElem?_mapIdx, List.getElem?_mapIdx]
    have h1 : ∀ k' : Nat, z_fv α k' (z_wr M a k x a j) = z_fv α k' (M a j) := by
      intro k'
      unfold z_wr
      rw [if_neg (fun q => hkj (by have := q.2; omega))]
    simp [h1]
theorem z_TM_obj (h : z_TM n τ Λ M) {a x : Int} {k kd : Nat} (ha : 0 ≤ a) (ht : τ a.toNat < 13) (hk : (z_fld (τ a.toNat))[k]? = some kd) (hx : z_okk n τ kd x) : z_TM n τ Λ (z_wr M a k x) := by
  intro i hi
  obtain ⟨h1, h2, h3⟩ := h i hi
  refine ⟨fun h13 j k' hj => ?_, fun hq j hj => ?_, fun hq j hj => ?_⟩
  · unfold z_wr
    by_cases hc : (i : Int) = a ∧ (j : Int) = k
    · rw [if_pos hc]
      have e1 : a.toNat = i := by omega
      have e2 : j = k := by omega
      rw [e1] at hk
      rw [e2, hk] at hj
      rw [← Option.some.inj hj]
      exact hx
    · rw [if_neg hc]
      exact h1 h13 j k' hj
  · rw [z_wr_row a i k x (fun e => by have e1 : a.toNat = i := (by omega); rw [e1] at ht; omega)]
    exact h2 hq j hj
  · rw [z_wr_row a i k x (fun e => by have e1 : a.toNat = i := (by omega); rw [e1] at ht; omega)]
    exact h3 hq j hj
theorem z_TM_i (h : z_TM n τ Λ M) {a x k : Int} (ha : 0 ≤ a) (ht : τ a.toNat = 13 ∨ τ a.toNat = 14) (hx : z_rI x) : z_TM n τ Λ (z_wr M a k x) := by
  intro i hi
  obtain ⟨h1, h2, h3⟩ := h i hi
  refine ⟨fun h13 j k' hj => ?_, fun hq j hj => ?_, fun hq j hj => ?_⟩
  · rw [z_wr_row a i k x (fun e => by have e1 : a.toNat = i := (by omega); rw [e1] at ht; omega)]
    exact h1 h13 j k' hj
  · unfold z_wr
    split
    · exact hx
    · exact h2 hq j hj
  · rw [z_wr_row a i k x (fun e => by have e1 : a.toNat = i := (by omega); rw [e1] at ht; omega)]
    exact h3 hq j hj
theorem z_TM_j (h : z_TM n τ Λ M) {a x k : Int} (ha : 0 ≤ a) (ht : τ a.toNat = 15) (hx : z_rJ x) : z_TM n τ Λ (z_wr M a k x) := by
  intro i hi
  obtain ⟨h1, h2, h3⟩ := h i hi
  refine ⟨fun h13 j k' hj => ?_, fun hq j hj => ?_, fun hq j hj => ?_⟩
  · rw [z_wr_row a i k x (fun e => by have e1 : a.toNat = i := (by omega); rw [e1] at ht; omega)]
    exact h1 h13 j k' hj
  · rw [z_wr_row a i k x (fun e => by have e1 : a.toNat = i := (by omega); rw [e1] at ht; omega)]
    exact h2 hq j hj
  · unfold z_wr
    split
    · exact hx
    · exact h3 hq j hj
end
/-- what a field's row needs: the class, its words, the field's place, its link (plain or of a nest mate) -/
def z_Fl (own : String) (ix t k : Nat) (C : String) (T : u_T) (N : Nat) : Prop := vwCl[t]? = some (C, T, N) ∧ (∀ w ∈ u_ws C T N, w ∈ z_tbl) ∧ k < N ∧ t < 13 ∧ (Cond.fieldLink own ix (T k).1 (T k).2.1 (T k).2.2.1 ∈ z_tbl ∨ ∃ host, Cond.fieldLinkNest own ix (T k).1 (T k).2.1 (T k).2.2.1 host ∈ z_nst)
section
variable {X : zX} {own : String} {cc : ByteArray} {nL : Nat} {ret : Option FieldType} {kd : Nat} {pc : Nat} {P : Nat → Nat}
theorem z_get_row (hC : z_Cx X own cc nL ret kd) {ix t k N kf : Nat} {C : String} {T : u_T} (hF : z_Fl own ix t k C T N) (hk : (z_fld t)[k]? = some kf) (hd : decode cc pc = .ok (.getfield ix, 3)) {M : zM} {H : Heap} {locs : List Loc} {ls : Array Slot} {rest : List Value} (hR : z_Rl X M H locs) {a : Int} (ha : x_ok X (zA t a))
    (kk : x_W X H locs (F0 (x_m X) (pc + 3) ls (z_fv (x_al X) kf (M a k) :: rest))) : x_W X H locs (F0 (x_m X) pc ls (.ref (x_al X a.toNat) :: rest)) := by
  obtain ⟨hx, hb, hml, hown, hts, hlk, hrt, hK, hrm, hQ⟩ := hC
  obtain ⟨hc, hin, hkN, ht, hl⟩ := hF
  obtain ⟨ha0, han, hat⟩ := ha
  have he : (x_ws X M)[a.toNat]? = some (x_al X a.toNat, .inr (t, (z_fld t).mapIdx (fun j k => z_fv (x_al X) k (M a j)))) := by
    rw [z_ws_get han, hat, z_cell_obj ht]
    have e : ((a.toNat : Nat) : Int) = a := Int.toNat_of_nonneg ha0
    rw [e]
  have hv : ((z_fld t).mapIdx (fun j k => z_fv (x_al X) k (M a j)))[k]? = some (z_fv (x_al X) kf (M a k)) := by
    rw [List.getElem?_mapIdx, hk]
    rfl
  rcases hl with hl | ⟨host, hl⟩
  · exact va_get (D := x_D X) (ci := t) hx hb hts hin hown hK.1 hR.1 a.toNat he hc k hkN (hts _ hl) (fun _ h => h) hv hd kk
  · exact va_getN (D := x_D X) (ci := t) hx hb hts hin hown hK.1 hR.1 a.toNat he hc k hkN (va_Nw.use rfl (hK.2.1.2 _ hl)) (fun _ h => h) hv hd kk
theorem z_okf {t k kf : Nat} (ht : t < 13) (hk : (z_fld t)[k]? = some kf) {M : zM} {H : Heap} {locs : List Loc} (hR : z_Rl X M H locs) {a : Int} (ha : x_ok X (zA t a)) : z_okk (x_n X) (x_ty X) kf (M a k) := by
  obtain ⟨ha0, han, hat⟩ := ha
  have h := (hR.2.2.2 a.toNat han).1 (by rw [hat]; exact ht) k kf (by rw [hat]; exact hk)
  rw [Int.toNat_of_nonneg ha0] at h
  exact h
theorem z_ot_getI (t : Nat) (j : Int) : z_Ot (z_getI t j) := by
  intro L st M
  rcases st with _ | ⟨v | v | q | v, r⟩ <;> first | exact Or.inl fun _ => rfl | skip
  cases hb : Nat.beq q.1 t
  · exact Or.inl fun _ => by simp [z_getI, hb]
  · exact Or.inr ⟨L, zI (M q.2 j) :: r, M, fun _ => by simp [z_getI, hb]⟩
theorem z_ot_getJ (t : Nat) (j : Int) : z_Ot (z_getJ t j) := by
  intro L st M
  rcases st with _ | ⟨v | v | q | v, r⟩ <;> first | exact Or.inl fun _ => rfl | skip
  cases hb : Nat.beq q.1 t
  · exact Or.inl fun _ => by simp [z_getJ, hb]
  · exact Or.inr ⟨L, zJ (M q.2 j) :: r, M, fun _ => by simp [z_getJ, hb]⟩
theorem z_ot_getA (t : Nat) (j : Int) (t2 : Nat) : z_Ot (z_getA t j t2) := by
  intro L st M
  rcases st with _ | ⟨v | v | q | v, r⟩ <;> first | exact Or.inl fun _ => rfl | skip
  cases hb : Nat.beq q.1 t
  · exact Or.inl fun _ => by simp [z_getA, hb]
  · exact Or.inr ⟨L, zA t2 (M q.2 j) :: r, M, fun _ => by simp [z_getA, hb]⟩
theorem z_so_getI (hC : z_Cx X own cc nL ret kd) {ix t k N : Nat} {C : String} {T : u_T} {j : Int} (hF : z_Fl own ix t k C T N) (hj : j = (k : Int)) (hk : (z_fld t)[k]? = some 0) (hd : decode cc pc = .ok (.getfield ix, 3)) : z_So X pc (pc + 3) (z_getI t j) := by
  subst hj
  refine z_so_mk fun L st M => ?_
  rcases st with _ | ⟨v | v | ⟨t', a⟩ | v, r⟩ <;> first | exact Or.inl fun _ => rfl | skip
  unfold z_getI
  cases hb : Nat.beq t' t
  · exact Or.inl fun _ => by simp [hb]
  · have := Nat.eq_of_beq_eq_true hb
    subst this
    refine Or.inr ⟨L, zI (M a k) :: r, M, fun _ => by simp [hb], fun hw H locs ls hR hl ho hs => ?_⟩
    have ha : x_ok X (zA t' a) := hs _ List.mem_cons_self
    refine z_get_row hC hF hk hd hR ha (hw H locs ls hR hl ho (fun w hv => ?_))
    rcases List.mem_cons.mp hv with rfl | h
    · exact z_okf hF.2.2.2.1 hk hR ha
    · exact hs w (List.mem_cons_of_mem _ h)
theorem z_so_getJ (hC : z_Cx X own cc nL ret kd) {ix t k N : Nat} {C : String} {T : u_T} {j : Int} (hF : z_Fl own ix t k C T N) (hj : j = (k : Int)) (hk : (z_fld t)[k]? = some 1) (hd : decode cc pc = .ok (.getfield ix, 3)) : z_So X pc (pc + 3) (z_getJ t j) := by
  subst hj
  refine z_so_mk fun L st M => ?_
  rcases st with _ | ⟨v | v | ⟨t', a⟩ | v, r⟩ <;> first | exact Or.inl fun _ => rfl | skip
  unfold z_getJ
  cases hb : Nat.beq t' t
  · exact Or.inl fun _ => by simp [hb]
  · have := Nat.eq_of_beq_eq_true hb
    subst this
    refine Or.inr ⟨L, zJ (M a k) :: r, M, fun _ => by simp [hb], fun hw H locs ls hR hl ho hs => ?_⟩
    have ha : x_ok X (zA t' a) := hs _ List.mem_cons_self
    refine z_get_row hC hF hk hd hR ha (hw H locs ls hR hl ho (fun w hv => ?_))
    rcases List.mem_cons.mp hv with rfl | h
    · exact z_okf hF.2.2.2.1 hk hR ha
    · exact hs w (List.mem_cons_of_mem _ h)
theorem z_so_getA (hC : z_Cx X own cc nL ret kd) {ix t k N t2 : Nat} {C : String} {T : u_T} {j : Int} (hF : z_Fl own ix t k C T N) (hj : j = (k : Int)) (hk : (z_fld t)[k]? = some (t2 + 2)) (hd : decode cc pc = .ok (.getfield ix, 3)) : z_So X pc (pc + 3) (z_getA t j t2) := by
  subst hj
  refine z_so_mk fun L st M => ?_
  rcases st with _ | ⟨v | v | ⟨t', a⟩ | v, r⟩ <;> first | exact Or.inl fun _ => rfl | skip
  unfold z_getA
  cases hb : Nat.beq t' t
  · exact Or.inl fun _ => by simp [hb]
  · have := Nat.eq_of_beq_eq_true hb
    subst this
    refine Or.inr ⟨L, zA t2 (M a k) :: r, M, fun _ => by simp [hb], fun hw H locs ls hR hl ho hs => ?_⟩
    have ha : x_ok X (zA t' a) := hs _ List.mem_cons_self
    refine z_get_row hC hF hk hd hR ha (hw H locs ls hR hl ho (fun w hv => ?_))
    rcases List.mem_cons.mp hv with rfl | h
    · exact z_okf hF.2.2.2.1 hk hR ha
    · exact hs w (List.mem_cons_of_mem _ h)
/-- what a store into a field needs beside: types, names apart, the field isn't final -/
def z_Ft (t k N : Nat) (T : u_T) (ty0 : Nat → FieldType) : Prop := (∀ k, k < N → parseFieldDescriptor (T k).2.2.1 = some (ty0 k)) ∧ (∀ a, a < N → ∀ b, b < N → a ≠ b → (T a).2.1 ≠ (T b).2.1) ∧ (T k).2.2.2 = false
theorem z_put_row (hC : z_Cx X own cc nL ret kd) {ix t k N kf : Nat} {C : String} {T : u_T} {ty0 : Nat → FieldType} (hF : z_Fl own ix t k C T N) (hT : z_Ft t k N T ty0) (hk : (z_fld t)[k]? = some kf) (hd : decode cc pc = .ok (.putfield ix, 3)) {M : zM} {H : Heap} {locs : List Loc} {ls : Array Slot} {rest : List Value} (hR : z_Rl X M H locs) {a x : Int} (ha : x_ok X (zA t a)) (hx0 : z_okk (x_n X) (x_ty X) kf x)
    (hn : narrow (ty0 k) (z_fv (x_al X) kf x) = z_fv (x_al X) kf x) (hfit : fits (ty0 k) (z_fv (x_al X) kf x) = true)
    (kk : ∀ (H1 : Heap) (locs1 : List Loc), z_Rl X (z_wr M a k x) H1 locs1 → x_W X H1 locs1 (F0 (x_m X) (pc + 3) ls rest)) : x_W X H locs (F0 (x_m X) pc ls (z_fv (x_al X) kf x :: .ref (x_al X a.toNat) :: rest)) := by
  obtain ⟨hx, hb, hml, hown, hts, hlk, hrt, hK, hrm, hQ⟩ := hC
  obtain ⟨hc, hin, hkN, ht, hl⟩ := hF
  obtain ⟨hty, hnm, hfin⟩ := hT
  obtain ⟨ha0, han, hat⟩ := ha
  have ea : ((a.toNat : Nat) : Int) = a := Int.toNat_of_nonneg ha0
  have he : (x_ws X M)[a.toNat]? = some (x_al X a.toNat, .inr (t, (z_fld t).mapIdx (fun j k => z_fv (x_al X) k (M a j)))) := by
    rw [z_ws_get han, hat, z_cell_obj ht, ea]
  have hws : (x_ws X M).set a.toNat (x_al X a.toNat, .inr (t, ((z_fld t).mapIdx (fun j k => z_fv (x_al X) k (M a j))).set k (z_fv (x_al X) kf x))) = x_ws X (z_wr M a k x) := by
    refine Eq.symm ((z_ws_set (M' := z_wr M a k x) (M := M) han (fun i' hi => z_wr_row a i' k x (fun e => hi (by omega)))).trans ?_)
    rw [hat, z_cell_obj ht, ea, z_fs_set hk]
  have hlen : k < ((z_fld t).mapIdx (fun j k => z_fv (x_al X) k (M a j))).length := by
    rw [List.length_mapIdx]
    exact (List.getElem?_eq_some_iff.mp hk).1
  have hTM : z_TM (x_n X) (x_ty X) (x_La X) (z_wr M a k x) := z_TM_obj hR.2.2.2 ha0 (by rw [hat]; exact ht) (by rw [hat]; exact hk) hx0
  rcases hl with hl | ⟨host, hl⟩
  · exact va_put (D := x_D X) (ci := t) hx hb hts hin ty0 hty hnm hown hK.1 hR.1 hR.2.1 hR.2.2.1 a.toNat he hc k hkN (hts _ hl) (fun _ h => h) hfin (hty k hkN) hn hfit hlen hd (fun H1 locs1 p1 p2 p3 => kk H1 locs1 ⟨by rw [hws] at p1; exact p1, by rw [hws] at p2; exact p2, p3, hTM⟩)
  · exact va_putN (D := x_D X) (ci := t) hx hb hts hin ty0 hty hnm hown hK.1 hR.1 hR.2.1 hR.2.2.1 a.toNat he hc k hkN (va_Nw.use rfl (hK.2.1.2 _ hl)) (fun _ h => h) hfin (hty k hkN) hn hfit hlen hd (fun H1 locs1 p1 p2 p3 => kk H1 locs1 ⟨by rw [hws] at p1; exact p1, by rw [hws] at p2; exact p2, p3, hTM⟩)
theorem z_ot_putI (t : Nat) (j : Int) : z_Ot (z_putI t j) := by
  intro L st M
  rcases st with _ | ⟨v | v | q | v, _ | ⟨w | w | q | w, r⟩⟩ <;> first | exact Or.inl fun _ => rfl | skip
  cases hb : Nat.beq q.1 t
  · exact Or.inl fun _ => by simp [z_putI, hb]
  · exact Or.inr ⟨L, r, z_wr M q.2 j v, fun _ => by simp [z_putI, hb]⟩
theorem z_ot_putJ (t : Nat) (j : Int) : z_Ot (z_putJ t j) := by
  intro L st M
  rcases st with _ | ⟨v | v | q | v, _ | ⟨w | w | q | w, r⟩⟩ <;> first | exact Or.inl fun _ => rfl | skip
  cases hb : Nat.beq q.1 t
  · exact Or.inl fun _ => by simp [z_putJ, hb]
  · exact Or.inr ⟨L, r, z_wr M q.2 j v, fun _ => by simp [z_putJ, hb]⟩
theorem z_ot_putZ (t : Nat) (j : Int) : z_Ot (z_putZ t j) := by
  intro L st M
  rcases st with _ | ⟨v | v | q | v, _ | ⟨w | w | q | w, r⟩⟩ <;> first | exact Or.inl fun _ => rfl | skip
  cases hb : Nat.beq q.1 t
  · exact Or.inl fun _ => by simp [z_putZ, hb]
  · by_cases h : v = 0 ∨ v = 1
    · exact Or.inr ⟨L, r, z_wr M q.2 j v, fun _ => by simp [z_putZ, hb, h]⟩
    · exact Or.inl fun _ => by simp [z_putZ, hb, h]
theorem z_ot_putA (t : Nat) (j : Int) (t2 : Nat) : z_Ot (z_putA t j t2) := by
  intro L st M
  rcases st with _ | ⟨v | v | v | v, _ | ⟨w | w | q | w, r⟩⟩ <;> first | exact Or.inl fun _ => rfl | skip
  cases hb : Nat.beq q.1 t
  · exact Or.inl fun _ => by simp [z_putA, hb]
  · cases hb2 : Nat.beq v.1 t2
    · exact Or.inl fun _ => by simp [z_putA, hb, hb2]
    · exact Or.inr ⟨L, r, z_wr M q.2 j v.2, fun _ => by simp [z_putA, hb, hb2]⟩
theorem z_so_putI (hC : z_Cx X own cc nL ret kd) {ix t k N : Nat} {C : String} {T : u_T} {ty0 : Nat → FieldType} {j : Int} (hF : z_Fl own ix t k C T N) (hT : z_Ft t k N T ty0) (hty : ty0 k = .int) (hj : j = (k : Int)) (hk : (z_fld t)[k]? = some 0) (hd : decode cc pc = .ok (.putfield ix, 3)) : z_So X pc (pc + 3) (z_putI t j) := by
  subst hj
  refine z_so_mk fun L st M => ?_
  rcases st with _ | ⟨v | v | v | v, _ | ⟨w | w | ⟨t', a⟩ | w, r⟩⟩ <;> first | exact Or.inl fun _ => rfl | skip
  unfold z_putI
  cases hb : Nat.beq t' t
  · exact Or.inl fun _ => by simp [hb]
  · have := Nat.eq_of_beq_eq_true hb
    subst this
    refine Or.inr ⟨L, r, z_wr M a k v, fun _ => by simp [hb], fun hw H locs ls hR hl ho hs => ?_⟩
    have hv : z_rI v := hs _ List.mem_cons_self
    have ha : x_ok X (zA t' a) := hs _ (List.mem_cons_of_mem _ List.mem_cons_self)
    exact z_put_row (kf := 0) hC hF hT hk hd hR ha hv (by rw [hty]; rfl) (by rw [hty]; rfl) (fun H1 locs1 hR1 => hw H1 locs1 ls hR1 hl ho (fun u hu => hs u (List.mem_cons_of_mem _ (List.mem_cons_of_mem _ hu))))
theorem z_so_putZ (hC : z_Cx X own cc nL ret kd) {ix t k N : Nat} {C : String} {T : u_T} {ty0 : Nat → FieldType} {j : Int} (hF : z_Fl own ix t k C T N) (hT : z_Ft t k N T ty0) (hty : ty0 k = .boolean) (hj : j = (k : Int)) (hk : (z_fld t)[k]? = some 0) (hd : decode cc pc = .ok (.putfield ix, 3)) : z_So X pc (pc + 3) (z_putZ t j) := by
  subst hj
  refine z_so_mk fun L st M => ?_
  rcases st with _ | ⟨v | v | v | v, _ | ⟨w | w | ⟨t', a⟩ | w, r⟩⟩ <;> first | exact Or.inl fun _ => rfl | skip
  unfold z_putZ
  cases hb : Nat.beq t' t
  · exact Or.inl fun _ => by simp [hb]
  · have := Nat.eq_of_beq_eq_true hb
    subst this
    by_cases h01 : v = 0 ∨ v = 1
    · refine Or.inr ⟨L, r, z_wr M a k v, fun _ => by simp [hb, h01], fun hw H locs ls hR hl ho hs => ?_⟩
      have hv : z_rI v := hs _ List.mem_cons_self
      have ha : x_ok X (zA t' a) := hs _ (List.mem_cons_of_mem _ List.mem_cons_self)
      exact z_put_row (kf := 0) hC hF hT hk hd hR ha hv (by rw [hty]; exact z_nar h01) (by rw [hty]; rcases h01 with rfl | rfl <;> rfl) (fun H1 locs1 hR1 => hw H1 locs1 ls hR1 hl ho (fun u hu => hs u (List.mem_cons_of_mem _ (List.mem_cons_of_mem _ hu))))
    · exact Or.inl fun _ => by simp [hb, h01]
theorem z_so_putJ (hC : z_Cx X own cc nL ret kd) {ix t k N : Nat} {C : String} {T : u_T} {ty0 : Nat → FieldType} {j : Int} (hF : z_Fl own ix t k C T N) (hT : z_Ft t k N T ty0) (hty : ty0 k = .long) (hj : j = (k : Int)) (hk : (z_fld t)[k]? = some 1) (hd : decode cc pc = .ok (.putfield ix, 3)) : z_So X pc (pc + 3) (z_putJ t j) := by
  subst hj
  refine z_so_mk fun L st M => ?_
  rcases st with _ | ⟨v | v | v | v, _ | ⟨w | w | ⟨t', a⟩ | w, r⟩⟩ <;> first | exact Or.inl fun _ => rfl | skip
  unfold z_putJ
  cases hb : Nat.beq t' t
  · exact Or.inl fun _ => by simp [hb]
  · have := Nat.eq_of_beq_eq_true hb
    subst this
    refine Or.inr ⟨L, r, z_wr M a k v, fun _ => by simp [hb], fun hw H locs ls hR hl ho hs => ?_⟩
    have hv : z_rJ v := hs _ List.mem_cons_self
    have ha : x_ok X (zA t' a) := hs _ (List.mem_cons_of_mem _ List.mem_cons_self)
    exact z_put_row (kf := 1) hC hF hT hk hd hR ha hv (by rw [hty]; rfl) (by rw [hty]; rfl) (fun H1 locs1 hR1 => hw H1 locs1 ls hR1 hl ho (fun u hu => hs u (List.mem_cons_of_mem _ (List.mem_cons_of_mem _ hu))))
theorem z_so_putA (hC : z_Cx X own cc nL ret kd) {ix t k N t2 : Nat} {C : String} {T : u_T} {ty0 : Nat → FieldType} {j : Int} (hF : z_Fl own ix t k C T N) (hT : z_Ft t k N T ty0) (hty : ∀ b : Nat, narrow (ty0 k) (.ref b) = .ref b ∧ fits (ty0 k) (.ref b) = true) (hj : j = (k : Int)) (hk : (z_fld t)[k]? = some (t2 + 2)) (hd : decode cc pc = .ok (.putfield ix, 3)) : z_So X pc (pc + 3) (z_putA t j t2) := by
  subst hj
  refine z_so_mk fun L st M => ?_
  rcases st with _ | ⟨v | v | ⟨t1, v⟩ | v, _ | ⟨w | w | ⟨t', a⟩ | w, r⟩⟩ <;> first | exact Or.inl fun _ => rfl | skip
  unfold z_putA
  cases hb : Nat.beq t' t
  · exact Or.inl fun _ => by simp [hb]
  · have := Nat.eq_of_beq_eq_true hb
    subst this
    cases hb2 : Nat.beq t1 t2
    · exact Or.inl fun _ => by simp [hb, hb2]
    · have := Nat.eq_of_beq_eq_true hb2
      subst this
      refine Or.inr ⟨L, r, z_wr M a k v, fun _ => by simp [hb, hb2], fun hw H locs ls hR hl ho hs => ?_⟩
      have hv : x_ok X (zA t1 v) := hs _ List.mem_cons_self
      have ha : x_ok X (zA t' a) := hs _ (List.mem_cons_of_mem _ List.mem_cons_self)
      exact z_put_row (kf := t1 + 2) hC hF hT hk hd hR ha hv (hty _).1 (hty _).2 (fun H1 locs1 hR1 => hw H1 locs1 ls hR1 hl ho (fun u hu => hs u (List.mem_cons_of_mem _ (List.mem_cons_of_mem _ hu))))
end
