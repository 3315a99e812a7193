section
/-! ===== answers: an int, a long ===== -/
def z_RI (t : zTm) : Prop := ∀ L st M o, (∀ g, t L st M g = some (.inl o)) → ∃ v, o.1 = [zI v]
def z_RJ (t : zTm) : Prop := ∀ L st M o, (∀ g, t L st M g = some (.inl o)) → ∃ v, o.1 = [zJ v]
theorem z_ri_seq {o : zOp} {t : zTm} (ho : z_Ot o) (ht : z_RI t) : z_RI (z_seq o t) := by
  intro L st M r h
  rcases ho L st M with hn | ⟨L', st', M', hk⟩
  · have := (hn _).symm.trans (h (fun _ _ _ _ => none)); cases this
  · exact ht L' st' M' r (fun g => (hk _).symm.trans (h g))
theorem z_ri_go (n : Nat) : z_RI (z_go n) := fun L st M r h => by have := h (fun _ _ _ _ => none); cases this
theorem z_ri_if {c : Int → Prop} {dc : ∀ x, Decidable (c x)} {t f : zTm} (ht : z_RI t) (hf : z_RI f) : z_RI (fun L st M g => match st with | .inl x :: r => if c x then t L r M g else f L r M g | _ => none) := by
  intro L st M o h
  rcases st with _ | ⟨v | v | v | v, r⟩
  · have := h (fun _ _ _ _ => none); cases this
  · by_cases q : c v
    · exact ht L r M o (fun g => by have := h g; dsimp only at this; rw [if_pos q] at this; exact this)
    · exact hf L r M o (fun g => by have := h g; dsimp only at this; rw [if_neg q] at this; exact this)
  · have := h (fun _ _ _ _ => none); cases this
  · have := h (fun _ _ _ _ => none); cases this
  · have := h (fun _ _ _ _ => none); cases this
theorem z_ri_if2 {c : Int → Int → Prop} {dc : ∀ x y, Decidable (c x y)} {t f : zTm} (ht : z_RI t) (hf : z_RI f) : z_RI (fun L st M g => match st with | .inl y :: .inl x :: r => if c x y then t L r M g else f L r M g | _ => none) := by
  intro L st M o h
  rcases st with _ | ⟨v | v | v | v, _ | ⟨w | w | w | w, r⟩⟩ <;> first | (have := h (fun _ _ _ _ => none); cases this; done) | skip
  by_cases q : c w v
  · exact ht L r M o (fun g => by have := h g; dsimp only at this; rw [if_pos q] at this; exact this)
  · exact hf L r M o (fun g => by have := h g; dsimp only at this; rw [if_neg q] at this; exact this)
theorem z_ri_ifeq {t f : zTm} (ht : z_RI t) (hf : z_RI f) : z_RI (z_ifeq t f) := z_ri_if (c := fun x => x = 0) ht hf
theorem z_ri_iflt {t f : zTm} (ht : z_RI t) (hf : z_RI f) : z_RI (z_iflt t f) := z_ri_if (c := fun x => x < 0) ht hf
theorem z_ri_ifle {t f : zTm} (ht : z_RI t) (hf : z_RI f) : z_RI (z_ifle t f) := z_ri_if (c := fun x => x ≤ 0) ht hf
theorem z_ri_icmpeq {t f : zTm} (ht : z_RI t) (hf : z_RI f) : z_RI (z_icmpeq t f) := z_ri_if2 (c := fun x y => x = y) ht hf
theorem z_ri_icmplt {t f : zTm} (ht : z_RI t) (hf : z_RI f) : z_RI (z_icmplt t f) := z_ri_if2 (c := fun x y => x < y) ht hf
theorem z_ri_icmple {t f : zTm} (ht : z_RI t) (hf : z_RI f) : z_RI (z_icmple t f) := z_ri_if2 (c := fun x y => x ≤ y) ht hf
theorem z_ri_swx {d : zTm} (hd : z_RI d) : ∀ (ts : List (Int × zTm)), (∀ q ∈ ts, z_RI q.2) → ∀ (v : Int), z_RI (fun L r M g => z_swx v L r M g d ts) := by
  intro ts
  induction ts with
  | nil => intro _ v; exact hd
  | cons q l ih =>
    intro h v
    obtain ⟨k, t⟩ := q
    intro L st M o hh
    by_cases e : v = k
    · exact h _ List.mem_cons_self L st M o (fun g => by have := hh g; simp only [z_swx, if_pos e] at this; exact this)
    · exact ih (fun q hq => h q (List.mem_cons_of_mem _ hq)) v L st M o (fun g => by have := hh g; simp only [z_swx, if_neg e] at this; exact this)
theorem z_ri_sw {ts : List (Int × zTm)} {d : zTm} (h : ∀ q ∈ ts, z_RI q.2) (hd : z_RI d) : z_RI (z_sw ts d) := by
  intro L st M o hh
  rcases st with _ | ⟨v | v | v | v, r⟩ <;> first | (have := hh (fun _ _ _ _ => none); cases this; done) | skip
  exact z_ri_swx hd ts h v L r M o hh
theorem z_ri_n : ∀ q ∈ ([] : List (Int × zTm)), z_RI q.2 := fun q h => by cases h
theorem z_ri_c {k : Int} {t : zTm} {l : List (Int × zTm)} (h : z_RI t) (hl : ∀ q ∈ l, z_RI q.2) : ∀ q ∈ (k, t) :: l, z_RI q.2 := fun q hq => by
  rcases List.mem_cons.mp hq with rfl | hq
  · exact h
  · exact hl q hq
theorem z_ri_bad : z_RI z_bad := fun L st M o h => by have := h (fun _ _ _ _ => none); cases this
theorem z_ri_it {code : Nat → zTm} (hT : ∀ l, z_Tl (code l)) (hR : ∀ l, z_RI (code l)) : ∀ (n l : Nat) (L st : List zV) (M : zM) (o : List zV × zM), z_it code n l L st M = some (.inl o) → ∃ v, o.1 = [zI v] := by
  intro n
  induction n with
  | zero => intro l L st M o h; cases h
  | succ n ih =>
    intro l L st M o h
    have h : code l L st M (z_it code n) = some (.inl o) := h
    rcases hT l L st M with ⟨r, hr⟩ | ⟨l', L', st', M', hr⟩
    · rw [hr] at h
      exact hR l L st M o (fun g => (hr g).trans h)
    · rw [hr] at h
      exact ih _ _ _ _ _ h
theorem z_ri_me {code : (Int → Int) → Nat → zTm} {nL pad : Nat} (hT : ∀ Λ l, z_Tl (code Λ l)) (hR : ∀ Λ l, z_RI (code Λ l)) {Λ : Int → Int} {as : List zV} {M : zM} {r : List zV} {M' : zM} (h : z_me code nL pad Λ as M = some (r, M')) : ∃ v, r = [zI v] := by
  unfold z_me at h
  cases hb : Nat.ble (z_exp as).length nL with
  | false => rw [hb] at h; cases h
  | true =>
    rw [hb] at h
    have h : z_out (z_ev (code Λ) 0 (z_ent pad as) [] M) = some (r, M') := h
    cases he : z_ev (code Λ) 0 (z_ent pad as) [] M with
    | none => rw [he] at h; cases h
    | some q =>
      rw [he] at h
      cases q with
      | inr q => cases h
      | inl q =>
        cases h
        obtain ⟨n, hn⟩ := z_ev_some he
        exact z_ri_it (hT Λ) (hR Λ) _ _ _ _ _ _ hn
theorem z_rj_seq {o : zOp} {t : zTm} (ho : z_Ot o) (ht : z_RJ t) : z_RJ (z_seq o t) := by
  intro L st M r h
  rcases ho L st M with hn | ⟨L', st', M', hk⟩
  · have := (hn _).symm.trans (h (fun _ _ _ _ => none)); cases this
  · exact ht L' st' M' r (fun g => (hk _).symm.trans (h g))
theorem z_rj_go (n : Nat) : z_RJ (z_go n) := fun L st M r h => by have := h (fun _ _ _ _ => none); cases this
theorem z_rj_if {c : Int → Prop} {dc : ∀ x, Decidable (c x)} {t f : zTm} (ht : z_RJ t) (hf : z_RJ f) : z_RJ (fun L st M g => match st with | .inl x :: r => if c x then t L r M g else f L r M g | _ => none) := by
  intro L st M o h
  rcases st with _ | ⟨v | v | v | v, r⟩
  · have := h (fun _ _ _ _ => none); cases this
  · by_cases q : c v
    · exact ht L r M o (fun g => by have := h g; dsimp only at this; rw [if_pos q] at this; exact this)
    · exact hf L r M o (fun g => by have := h g; dsimp only at this; rw [if_neg q] at this; exact this)
  · have := h (fun _ _ _ _ => none); cases this
  · have := h (fun _ _ _ _ => none); cases this
  · have := h (fun _ _ _ _ => none); cases this
theorem z_rj_if2 {c : Int → Int → Prop} {dc : ∀ x y, Decidable (c x y)} {t f : zTm} (ht : z_RJ t) (hf : z_RJ f) : z_RJ (fun L st M g => match st with | .inl y :: .inl x :: r => if c x y then t L r M g else f L r M g | _ => none) := by
  intro L st M o h
  rcases st with _ | ⟨v | v | v | v, _ | ⟨w | w | w | w, r⟩⟩ <;> first | (have := h (fun _ _ _ _ => none); cases this; done) | skip
  by_cases q : c w v
  · exact ht L r M o (fun g => by have := h g; dsimp only at this; rw [if_pos q] at this; exact this)
  · exact hf L r M o (fun g => by have := h g; dsimp only at this; rw [if_neg q] at this; exact this)
theorem z_rj_ifeq {t f : zTm} (ht : z_RJ t) (hf : z_RJ f) : z_RJ (z_ifeq t f) := z_rj_if (c := fun x => x = 0) ht hf
theorem z_rj_iflt {t f : zTm} (ht : z_RJ t) (hf : z_RJ f) : z_RJ (z_iflt t f) := z_rj_if (c := fun x => x < 0) ht hf
theorem z_rj_ifle {t f : zTm} (ht : z_RJ t) (hf : z_RJ f) : z_RJ (z_ifle t f) := z_rj_if (c := fun x => x ≤ 0) ht hf
theorem z_rj_icmpeq {t f : zTm} (ht : z_RJ t) (hf : z_RJ f) : z_RJ (z_icmpeq t f) := z_rj_if2 (c := fun x y => x = y) ht hf
theorem z_rj_icmplt {t f : zTm} (ht : z_RJ t) (hf : z_RJ f) : z_RJ (z_icmplt t f) := z_rj_if2 (c := fun x y => x < y) ht hf
theorem z_rj_icmple {t f : zTm} (ht : z_RJ t) (hf : z_RJ f) : z_RJ (z_icmple t f) := z_rj_if2 (c := fun x y => x ≤ y) ht hf
theorem z_rj_swx {d : zTm} (hd : z_RJ d) : ∀ (ts : List (Int × zTm)), (∀ q ∈ ts, z_RJ q.2) → ∀ (v : Int), z_RJ (fun L r M g => z_swx v L r M g d ts) := by
  intro ts
  induction ts with
  | nil => intro _ v; exact hd
  | cons q l ih =>
    intro h v
    obtain ⟨k, t⟩ := q
    intro L st M o hh
    by_cases e : v = k
    · exact h _ List.mem_cons_self L st M o (fun g => by have := hh g; simp only [z_swx, if_pos e] at this; exact this)
    · exact ih (fun q hq => h q (List.mem_cons_of_mem _ hq)) v L st M o (fun g => by have := hh g; simp only [z_swx, if_neg e] at this; exact this)
theorem z_rj_sw {ts : List (Int × zTm)} {d : zTm} (h : ∀ q ∈ ts, z_RJ q.2) (hd : z_RJ d) : z_RJ (z_sw ts d) := by
  intro L st M o hh
  rcases st with _ | ⟨v | v | v | v, r⟩ <;> first | (have := hh (fun _ _ _ _ => none); cases this; done) | skip
  exact z_rj_swx hd ts h v L r M o hh
theorem z_rj_n : ∀ q ∈ ([] : List (Int × zTm)), z_RJ q.2 := fun q h => by cases h
theorem z_rj_c {k : Int} {t : zTm} {l : List (Int × zTm)} (h : z_RJ t) (hl : ∀ q ∈ l, z_RJ q.2) : ∀ q ∈ (k, t) :: l, z_RJ q.2 := fun q hq => by
  rcases List.mem_cons.mp hq with rfl | hq
  · exact h
  · exact hl q hq
theorem z_rj_bad : z_RJ z_bad := fun L st M o h => by have := h (fun _ _ _ _ => none); cases this
theorem z_rj_it {code : Nat → zTm} (hT : ∀ l, z_Tl (code l)) (hR : ∀ l, z_RJ (code l)) : ∀ (n l : Nat) (L st : List zV) (M : zM) (o : List zV × zM), z_it code n l L st M = some (.inl o) → ∃ v, o.1 = [zJ v] := by
  intro n
  induction n with
  | zero => intro l L st M o h; cases h
  | succ n ih =>
    intro l L st M o h
    have h : code l L st M (z_it code n) = some (.inl o) := h
    rcases hT l L st M with ⟨r, hr⟩ | ⟨l', L', st', M', hr⟩
    · rw [hr] at h
      exact hR l L st M o (fun g => (hr g).trans h)
    · rw [hr] at h
      exact ih _ _ _ _ _ h
theorem z_rj_me {code : (Int → Int) → Nat → zTm} {nL pad : Nat} (hT : ∀ Λ l, z_Tl (code Λ l)) (hR : ∀ Λ l, z_RJ (code Λ l)) {Λ : Int → Int} {as : List zV} {M : zM} {r : List zV} {M' : zM} (h : z_me code nL pad Λ as M = some (r, M')) : ∃ v, r = [zJ v] := by
  unfold z_me at h
  cases hb : Nat.ble (z_exp as).length nL with
  | false => rw [hb] at h; cases h
  | true =>
    rw [hb] at h
    have h : z_out (z_ev (code Λ) 0 (z_ent pad as) [] M) = some (r, M') := h
    cases he : z_ev (code Λ) 0 (z_ent pad as) [] M with
    | none => rw [he] at h; cases h
    | some q =>
      rw [he] at h
      cases q with
      | inr q => cases h
      | inl q =>
        cases h
        obtain ⟨n, hn⟩ := z_ev_some he
        exact z_rj_it (hT Λ) (hR Λ) _ _ _ _ _ _ hn
theorem z_ri_iret : z_RI z_iret := by
  intro L st M o h
  rcases st with _ | ⟨v | v | v | v, _ | ⟨w, r⟩⟩ <;> first | (have := h (fun _ _ _ _ => none); cases this; done) | skip
  have := h (fun _ _ _ _ => none)
  cases this
  exact ⟨_, rfl⟩
theorem z_ri_zret : z_RI z_zret := by
  intro L st M o h
  rcases st with _ | ⟨v | v | v | v, _ | ⟨w, r⟩⟩ <;> first | (have := h (fun _ _ _ _ => none); cases this; done) | skip
  have h1 : (if v = 0 ∨ v = 1 then some (.inl ([zI v], M)) else none : Option zRs) = some (.inl o) := h (fun _ _ _ _ => none)
  by_cases q : v = 0 ∨ v = 1
  · rw [if_pos q] at h1; cases h1; exact ⟨_, rfl⟩
  · rw [if_neg q] at h1; cases h1
theorem z_rj_lret : z_RJ z_lret := by
  intro L st M o h
  rcases st with _ | ⟨v | v | v | v, _ | ⟨w, r⟩⟩ <;> first | (have := h (fun _ _ _ _ => none); cases this; done) | skip
  have := h (fun _ _ _ _ => none)
  cases this
  exact ⟨_, rfl⟩
theorem zrib_X11_feed_25 (Λ : Int → Int) : z_RI (zt_X11_feed_25 Λ) := z_ri_seq (z_ot_al 6) (z_ri_seq (z_ot_il 1) (z_ri_seq (z_ot_callv _ z_hbV _ _ _) (z_ri_seq (z_ot_al 6) (z_ri_seq (z_ot_il 2) (z_ri_seq (z_ot_callv _ z_hbV _ _ _) (z_ri_seq (z_ot_al 6) (z_ri_seq (z_ot_il 3) (z_ri_seq (z_ot_callv _ z_hbV _ _ _) (z_ri_seq (z_ot_al 6) (z_ri_seq (z_ot_il 4) (z_ri_seq (z_ot_callv _ z_hbV _ _ _) (z_ri_seq (z_ot_al 6) (z_ri_seq (z_ot_il 5) (z_ri_seq (z_ot_callv _ z_hbV _ _ _) (z_ri_seq (z_ot_al 6) (z_ri_seq (z_ot_getI 10 2) (z_ri_iret)))))))))))))))))
theorem zrib_X11_feed_23 (Λ : Int → Int) : z_RI (zt_X11_feed_23 Λ) := z_ri_seq (z_ot_ic (-1)) (z_ri_iret)
theorem zrib_X11_feed_0 (Λ : Int → Int) : z_RI (zt_X11_feed_0 Λ) := z_ri_seq (z_ot_al 0) (z_ri_seq (z_ot_getA 11 0 7) (z_ri_seq (z_ot_getA 7 0 10) (z_ri_seq (z_ot_as 6) (z_ri_seq (z_ot_al 6) (z_ri_seq (z_ot_getI 10 2) (z_ri_seq (z_ot_ic 20) (z_ri_seq (z_ot_i2 _) (z_ri_seq (z_ot_ic 800) (z_ri_icmple (zrib_X11_feed_25 Λ) (zrib_X11_feed_23 Λ))))))))))
theorem zril_X11_feed (Λ : Int → Int) (l : Nat) : z_RI (zcd_X11_feed Λ l) := match l with
  | 0 => zrib_X11_feed_0 Λ
  | _ + 1 => z_ri_bad
theorem zsh_X11_feed {as : List zV} {M : zM} {r : List zV} {M2 : zM} (h : zm_X11_feed zLa as M = some (r, M2)) : ∃ v, r = [zI v] := z_ri_me ztl_X11_feed zril_X11_feed h
theorem zrib_X11_tell_44 (Λ : Int → Int) : z_RI (zt_X11_tell_44 Λ) := z_ri_seq (z_ot_al 0) (z_ri_seq (z_ot_getA 11 0 7) (z_ri_seq (z_ot_getA 7 1 0) (z_ri_seq (z_ot_as 2) (z_ri_seq (z_ot_al 0) (z_ri_seq (z_ot_getA 11 0 7) (z_ri_seq (z_ot_al 0) (z_ri_seq (z_ot_getA 11 1 0) (z_ri_seq (z_ot_putA 7 1 0) (z_ri_seq (z_ot_al 0) (z_ri_seq (z_ot_al 2) (z_ri_seq (z_ot_putA 11 1 0) (z_ri_seq (z_ot_al 0) (z_ri_seq (z_ot_getA 11 1 0) (z_ri_seq (z_ot_getI 0 7) (z_ri_iret)))))))))))))))
theorem zrib_X11_tell_42 (Λ : Int → Int) : z_RI (zt_X11_tell_42 Λ) := z_ri_seq (z_ot_ic (-1)) (z_ri_iret)
theorem zrib_X11_tell_21 (Λ : Int → Int) : z_RI (zt_X11_tell_21 Λ) := z_ri_seq (z_ot_al 0) (z_ri_seq (z_ot_getA 11 0 7) (z_ri_seq (z_ot_getA 7 0 10) (z_ri_seq (z_ot_il 1) (z_ri_seq (z_ot_callv _ z_hbV _ _ _) (z_ri_seq (z_ot_al 0) (z_ri_seq (z_ot_getA 11 0 7) (z_ri_seq (z_ot_callv _ z_hbI _ _ _) (z_ri_ifeq (zrib_X11_tell_42 Λ) (zrib_X11_tell_44 Λ)))))))))
theorem zrib_X11_tell_18 (Λ : Int → Int) : z_RI (zt_X11_tell_18 Λ) := z_ri_seq (z_ot_ic (-2)) (z_ri_iret)
theorem zrib_X11_tell_4 (Λ : Int → Int) : z_RI (zt_X11_tell_4 Λ) := z_ri_seq (z_ot_il 1) (z_ri_seq (z_ot_al 0) (z_ri_seq (z_ot_getA 11 0 7) (z_ri_seq (z_ot_getA 7 0 10) (z_ri_seq (z_ot_getI 10 2) (z_ri_icmple (zrib_X11_tell_21 Λ) (zrib_X11_tell_18 Λ))))))
theorem zrib_X11_tell_0 (Λ : Int → Int) : z_RI (zt_X11_tell_0 Λ) := z_ri_seq (z_ot_il 1) (z_ri_iflt (zrib_X11_tell_18 Λ) (zrib_X11_tell_4 Λ))
theorem zril_X11_tell (Λ : Int → Int) (l : Nat) : z_RI (zcd_X11_tell Λ l) := match l with
  | 0 => zrib_X11_tell_0 Λ
  | _ + 1 => z_ri_bad
theorem zsh_X11_tell {as : List zV} {M : zM} {r : List zV} {M2 : zM} (h : zm_X11_tell zLa as M = some (r, M2)) : ∃ v, r = [zI v] := z_ri_me ztl_X11_tell zril_X11_tell h
theorem zrib_X11_fault_44 (Λ : Int → Int) : z_RI (zt_X11_fault_44 Λ) := z_ri_seq (z_ot_ic (-1)) (z_ri_iret)
theorem zrib_X11_fault_36 (Λ : Int → Int) : z_RI (zt_X11_fault_36 Λ) := z_ri_seq (z_ot_al 0) (z_ri_seq (z_ot_getA 11 0 7) (z_ri_seq (z_ot_getI 7 3) (z_ri_iret)))
theorem zrib_X11_fault_28 (Λ : Int → Int) : z_RI (zt_X11_fault_28 Λ) := z_ri_seq (z_ot_al 0) (z_ri_seq (z_ot_getA 11 0 7) (z_ri_seq (z_ot_getI 7 2) (z_ri_iret)))
theorem zrib_X11_fault_0 (Λ : Int → Int) : z_RI (zt_X11_fault_0 Λ) := z_ri_seq (z_ot_il 1) (z_ri_sw (z_ri_c (zrib_X11_fault_28 Λ) (z_ri_c (zrib_X11_fault_36 Λ) (z_ri_n))) (zrib_X11_fault_44 Λ))
theorem zril_X11_fault (Λ : Int → Int) (l : Nat) : z_RI (zcd_X11_fault Λ l) := match l with
  | 0 => zrib_X11_fault_0 Λ
  | _ + 1 => z_ri_bad
theorem zsh_X11_fault {as : List zV} {M : zM} {r : List zV} {M2 : zM} (h : zm_X11_fault zLa as M = some (r, M2)) : ∃ v, r = [zI v] := z_ri_me ztl_X11_fault zril_X11_fault h
theorem zrib_X11_named_52 (Λ : Int → Int) : z_RI (zt_X11_named_52 Λ) := z_ri_seq (z_ot_ic (-1)) (z_ri_iret)
theorem zrib_X11_named_40 (Λ : Int → Int) : z_RI (zt_X11_named_40 Λ) := z_ri_seq (z_ot_al 0) (z_ri_seq (z_ot_getA 11 1 0) (z_ri_seq (z_ot_getA 0 1 8) (z_ri_seq (z_ot_il 2) (z_ri_seq (z_ot_callv _ z_hbI _ _ _) (z_ri_iret)))))
theorem zrib_X11_named_28 (Λ : Int → Int) : z_RI (zt_X11_named_28 Λ) := z_ri_seq (z_ot_al 0) (z_ri_seq (z_ot_getA 11 1 0) (z_ri_seq (z_ot_getA 0 0 9) (z_ri_seq (z_ot_il 2) (z_ri_seq (z_ot_callv _ z_hbI _ _ _) (z_ri_iret)))))
theorem zrib_X11_named_0 (Λ : Int → Int) : z_RI (zt_X11_named_0 Λ) := z_ri_seq (z_ot_il 1) (z_ri_sw (z_ri_c (zrib_X11_named_28 Λ) (z_ri_c (zrib_X11_named_40 Λ) (z_ri_n))) (zrib_X11_named_52 Λ))
theorem zril_X11_named (Λ : Int → Int) (l : Nat) : z_RI (zcd_X11_named Λ l) := match l with
  | 0 => zrib_X11_named_0 Λ
  | _ + 1 => z_ri_bad
theorem zsh_X11_named {as : List zV} {M : zM} {r : List zV} {M2 : zM} (h : zm_X11_named zLa as M = some (r, M2)) : ∃ v, r = [zI v] := z_ri_me ztl_X11_named zril_X11_named h
theorem zrib_X11_teller_76 (Λ : Int → Int) : z_RI (zt_X11_teller_76 Λ) := z_ri_seq (z_ot_ic (-1)) (z_ri_iret)
theorem zrib_X11_teller_69 (Λ : Int → Int) : z_RI (zt_X11_teller_69 Λ) := z_ri_seq (z_ot_al 3) (z_ri_seq (z_ot_getA 8 5 13) (z_ri_seq (z_ot_il 1) (z_ri_seq (z_ot_ald 13 _) (z_ri_iret))))
theorem zrib_X11_teller_62 (Λ : Int → Int) : z_RI (zt_X11_teller_62 Λ) := z_ri_seq (z_ot_al 3) (z_ri_seq (z_ot_getA 8 4 13) (z_ri_seq (z_ot_il 1) (z_ri_seq (z_ot_ald 13 _) (z_ri_iret))))
theorem zrib_X11_teller_55 (Λ : Int → Int) : z_RI (zt_X11_teller_55 Λ) := z_ri_seq (z_ot_al 3) (z_ri_seq (z_ot_getA 8 3 13) (z_ri_seq (z_ot_il 1) (z_ri_seq (z_ot_ald 13 _) (z_ri_iret))))
theorem zrib_X11_teller_48 (Λ : Int → Int) : z_RI (zt_X11_teller_48 Λ) := z_ri_seq (z_ot_al 3) (z_ri_seq (z_ot_getA 8 2 13) (z_ri_seq (z_ot_il 1) (z_ri_seq (z_ot_ald 13 _) (z_ri_iret))))
theorem zrib_X11_teller_18 (Λ : Int → Int) : z_RI (zt_X11_teller_18 Λ) := z_ri_seq (z_ot_il 2) (z_ri_sw (z_ri_c (zrib_X11_teller_48 Λ) (z_ri_c (zrib_X11_teller_55 Λ) (z_ri_c (zrib_X11_teller_62 Λ) (z_ri_c (zrib_X11_teller_69 Λ) (z_ri_n))))) (zrib_X11_teller_76 Λ))
theorem zrib_X11_teller_16 (Λ : Int → Int) : z_RI (zt_X11_teller_16 Λ) := z_ri_seq (z_ot_ic (-1)) (z_ri_iret)
theorem zrib_X11_teller_0 (Λ : Int → Int) : z_RI (zt_X11_teller_0 Λ) := z_ri_seq (z_ot_al 0) (z_ri_seq (z_ot_getA 11 1 0) (z_ri_seq (z_ot_getA 0 1 8) (z_ri_seq (z_ot_as 3) (z_ri_seq (z_ot_al 3) (z_ri_seq (z_ot_il 1) (z_ri_seq (z_ot_callv _ z_hbI _ _ _) (z_ri_ifeq (zrib_X11_teller_16 Λ) (zrib_X11_teller_18 Λ))))))))
theorem zril_X11_teller (Λ : Int → Int) (l : Nat) : z_RI (zcd_X11_teller Λ l) := match l with
  | 0 => zrib_X11_teller_0 Λ
  | _ + 1 => z_ri_bad
theorem zsh_X11_teller {as : List zV} {M : zM} {r : List zV} {M2 : zM} (h : zm_X11_teller zLa as M = some (r, M2)) : ∃ v, r = [zI v] := z_ri_me ztl_X11_teller zril_X11_teller h
theorem zrib_X11_line_99 (Λ : Int → Int) : z_RI (zt_X11_line_99 Λ) := z_ri_seq (z_ot_ic (-2)) (z_ri_iret)
theorem zrib_X11_line_92 (Λ : Int → Int) : z_RI (zt_X11_line_92 Λ) := z_ri_seq (z_ot_al 3) (z_ri_seq (z_ot_getA 3 6 13) (z_ri_seq (z_ot_il 1) (z_ri_seq (z_ot_ald 13 _) (z_ri_iret))))
theorem zrib_X11_line_85 (Λ : Int → Int) : z_RI (zt_X11_line_85 Λ) := z_ri_seq (z_ot_al 3) (z_ri_seq (z_ot_getA 3 5 13) (z_ri_seq (z_ot_il 1) (z_ri_seq (z_ot_ald 13 _) (z_ri_iret))))
theorem zrib_X11_line_78 (Λ : Int → Int) : z_RI (zt_X11_line_78 Λ) := z_ri_seq (z_ot_al 3) (z_ri_seq (z_ot_getA 3 4 13) (z_ri_seq (z_ot_il 1) (z_ri_seq (z_ot_ald 13 _) (z_ri_iret))))
theorem zrib_X11_line_71 (Λ : Int → Int) : z_RI (zt_X11_line_71 Λ) := z_ri_seq (z_ot_al 3) (z_ri_seq (z_ot_getA 3 3 13) (z_ri_seq (z_ot_il 1) (z_ri_seq (z_ot_ald 13 _) (z_ri_iret))))
theorem zrib_X11_line_70 (Λ : Int → Int) : z_RI (zt_X11_line_70 Λ) := z_ri_iret
theorem zrib_X11_line_69 (Λ : Int → Int) : z_RI (zt_X11_line_69 Λ) := z_ri_seq (z_ot_ic 0) (zrib_X11_line_70 Λ)
theorem zrib_X11_line_65 (Λ : Int → Int) : z_RI (zt_X11_line_65 Λ) := z_ri_seq (z_ot_ic 1) (zrib_X11_line_70 Λ)
theorem zrib_X11_line_56 (Λ : Int → Int) : z_RI (zt_X11_line_56 Λ) := z_ri_seq (z_ot_al 3) (z_ri_seq (z_ot_getA 3 2 14) (z_ri_seq (z_ot_il 1) (z_ri_seq (z_ot_ald 14 _) (z_ri_ifeq (zrib_X11_line_69 Λ) (zrib_X11_line_65 Λ)))))
theorem zrib_X11_line_14 (Λ : Int → Int) : z_RI (zt_X11_line_14 Λ) := z_ri_seq (z_ot_al 0) (z_ri_seq (z_ot_getA 11 1 0) (z_ri_seq (z_ot_getA 0 2 3) (z_ri_seq (z_ot_as 3) (z_ri_seq (z_ot_il 2) (z_ri_sw (z_ri_c (zrib_X11_line_56 Λ) (z_ri_c (zrib_X11_line_71 Λ) (z_ri_c (zrib_X11_line_78 Λ) (z_ri_c (zrib_X11_line_85 Λ) (z_ri_c (zrib_X11_line_92 Λ) (z_ri_n)))))) (zrib_X11_line_99 Λ))))))
theorem zrib_X11_line_11 (Λ : Int → Int) : z_RI (zt_X11_line_11 Λ) := z_ri_seq (z_ot_ic (-2)) (z_ri_iret)
theorem zrib_X11_line_0 (Λ : Int → Int) : z_RI (zt_X11_line_0 Λ) := z_ri_seq (z_ot_al 0) (z_ri_seq (z_ot_getA 11 1 0) (z_ri_seq (z_ot_il 1) (z_ri_seq (z_ot_callv _ z_hbI _ _ _) (z_ri_ifeq (zrib_X11_line_11 Λ) (zrib_X11_line_14 Λ)))))
theorem zril_X11_line (Λ : Int → Int) (l : Nat) : z_RI (zcd_X11_line Λ l) := match l with
  | 0 => zrib_X11_line_0 Λ
  | _ + 1 => z_ri_bad
theorem zsh_X11_line {as : List zV} {M : zM} {r : List zV} {M2 : zM} (h : zm_X11_line zLa as M = some (r, M2)) : ∃ v, r = [zI v] := z_ri_me ztl_X11_line zril_X11_line h
theorem zrib_X11_say_19 (Λ : Int → Int) : z_RI (zt_X11_say_19 Λ) := z_ri_seq (z_ot_al 0) (z_ri_seq (z_ot_getA 11 1 0) (z_ri_seq (z_ot_getA 0 2 3) (z_ri_seq (z_ot_il 1) (z_ri_seq (z_ot_il 2) (z_ri_seq (z_ot_il 3) (z_ri_seq (z_ot_il 4) (z_ri_seq (z_ot_il 5) (z_ri_seq (z_ot_callv _ z_hbV _ _ _) (z_ri_seq (z_ot_al 0) (z_ri_seq (z_ot_getA 11 1 0) (z_ri_seq (z_ot_getA 0 2 3) (z_ri_seq (z_ot_getI 3 0) (z_ri_seq (z_ot_ic 1) (z_ri_seq (z_ot_i2 _) (z_ri_iret)))))))))))))))
theorem zrib_X11_say_17 (Λ : Int → Int) : z_RI (zt_X11_say_17 Λ) := z_ri_seq (z_ot_ic (-1)) (z_ri_iret)
theorem zrib_X11_say_0 (Λ : Int → Int) : z_RI (zt_X11_say_0 Λ) := z_ri_seq (z_ot_al 0) (z_ri_seq (z_ot_getA 11 1 0) (z_ri_seq (z_ot_il 1) (z_ri_seq (z_ot_il 2) (z_ri_seq (z_ot_il 3) (z_ri_seq (z_ot_il 4) (z_ri_seq (z_ot_il 5) (z_ri_seq (z_ot_callv _ z_hbI _ _ _) (z_ri_ifeq (zrib_X11_say_17 Λ) (zrib_X11_say_19 Λ)))))))))
theorem zril_X11_say (Λ : Int → Int) (l : Nat) : z_RI (zcd_X11_say Λ l) := match l with
  | 0 => zrib_X11_say_0 Λ
  | _ + 1 => z_ri_bad
theorem zsh_X11_say {as : List zV} {M : zM} {r : List zV} {M2 : zM} (h : zm_X11_say zLa as M = some (r, M2)) : ∃ v, r = [zI v] := z_ri_me ztl_X11_say zril_X11_say h
theorem zrib_X11_undo_0 (Λ : Int → Int) : z_RI (zt_X11_undo_0 Λ) := z_ri_seq (z_ot_al 0) (z_ri_seq (z_ot_getA 11 1 0) (z_ri_seq (z_ot_getA 0 2 3) (z_ri_seq (z_ot_callv _ z_hbI _ _ _) (z_ri_iret))))
theorem zril_X11_undo (Λ : Int → Int) (l : Nat) : z_RI (zcd_X11_undo Λ l) := match l with
  | 0 => zrib_X11_undo_0 Λ
  | _ + 1 => z_ri_bad
theorem zsh_X11_undo {as : List zV} {M : zM} {r : List zV} {M2 : zM} (h : zm_X11_undo zLa as M = some (r, M2)) : ∃ v, r = [zI v] := z_ri_me ztl_X11_undo zril_X11_undo h
theorem zrib_X11_hear_13 (Λ : Int → Int) : z_RI (zt_X11_hear_13 Λ) := z_ri_seq (z_ot_al 0) (z_ri_seq (z_ot_getA 11 1 0) (z_ri_seq (z_ot_il 1) (z_ri_seq (z_ot_putI 0 9) (z_ri_seq (z_ot_al 0) (z_ri_seq (z_ot_getA 11 1 0) (z_ri_seq (z_ot_callv _ z_hbI _ _ _) (z_ri_iret)))))))
theorem zrib_X11_hear_11 (Λ : Int → Int) : z_RI (zt_X11_hear_11 Λ) := z_ri_seq (z_ot_ic (-1)) (z_ri_iret)
theorem zrib_X11_hear_4 (Λ : Int → Int) : z_RI (zt_X11_hear_4 Λ) := z_ri_seq (z_ot_il 1) (z_ri_seq (z_ot_ic 199) (z_ri_icmple (zrib_X11_hear_13 Λ) (zrib_X11_hear_11 Λ)))
theorem zrib_X11_hear_0 (Λ : Int → Int) : z_RI (zt_X11_hear_0 Λ) := z_ri_seq (z_ot_il 1) (z_ri_iflt (zrib_X11_hear_11 Λ) (zrib_X11_hear_4 Λ))
theorem zril_X11_hear (Λ : Int → Int) (l : Nat) : z_RI (zcd_X11_hear Λ l) := match l with
  | 0 => zrib_X11_hear_0 Λ
  | _ + 1 => z_ri_bad
theorem zsh_X11_hear {as : List zV} {M : zM} {r : List zV} {M2 : zM} (h : zm_X11_hear zLa as M = some (r, M2)) : ∃ v, r = [zI v] := z_ri_me ztl_X11_hear zril_X11_hear h
theorem zrib_X11_word_23 (Λ : Int → Int) : z_RI (zt_X11_word_23 Λ) := z_ri_iret
theorem zrib_X11_word_22 (Λ : Int → Int) : z_RI (zt_X11_word_22 Λ) := z_ri_seq (z_ot_ic (-1)) (zrib_X11_word_23 Λ)
theorem zrib_X11_word_11 (Λ : Int → Int) : z_RI (zt_X11_word_11 Λ) := z_ri_seq (z_ot_al 0) (z_ri_seq (z_ot_getA 11 1 0) (z_ri_seq (z_ot_il 1) (z_ri_seq (z_ot_callv _ z_hbI _ _ _) (zrib_X11_word_23 Λ))))
theorem zrib_X11_word_0 (Λ : Int → Int) : z_RI (zt_X11_word_0 Λ) := z_ri_seq (z_ot_al 0) (z_ri_seq (z_ot_getA 11 1 0) (z_ri_seq (z_ot_il 1) (z_ri_seq (z_ot_callv _ z_hbI _ _ _) (z_ri_ifeq (zrib_X11_word_22 Λ) (zrib_X11_word_11 Λ)))))
theorem zril_X11_word (Λ : Int → Int) (l : Nat) : z_RI (zcd_X11_word Λ l) := match l with
  | 0 => zrib_X11_word_0 Λ
  | _ + 1 => z_ri_bad
theorem zsh_X11_word {as : List zV} {M : zM} {r : List zV} {M2 : zM} (h : zm_X11_word zLa as M = some (r, M2)) : ∃ v, r = [zI v] := z_ri_me ztl_X11_word zril_X11_word h
theorem zrib_X11_led_23 (Λ : Int → Int) : z_RI (zt_X11_led_23 Λ) := z_ri_iret
theorem zrib_X11_led_22 (Λ : Int → Int) : z_RI (zt_X11_led_22 Λ) := z_ri_seq (z_ot_ic (-1)) (zrib_X11_led_23 Λ)
theorem zrib_X11_led_11 (Λ : Int → Int) : z_RI (zt_X11_led_11 Λ) := z_ri_seq (z_ot_al 0) (z_ri_seq (z_ot_getA 11 1 0) (z_ri_seq (z_ot_il 1) (z_ri_seq (z_ot_callv _ z_hbI _ _ _) (zrib_X11_led_23 Λ))))
theorem zrib_X11_led_0 (Λ : Int → Int) : z_RI (zt_X11_led_0 Λ) := z_ri_seq (z_ot_al 0) (z_ri_seq (z_ot_getA 11 1 0) (z_ri_seq (z_ot_il 1) (z_ri_seq (z_ot_callv _ z_hbI _ _ _) (z_ri_ifeq (zrib_X11_led_22 Λ) (zrib_X11_led_11 Λ)))))
theorem zril_X11_led (Λ : Int → Int) (l : Nat) : z_RI (zcd_X11_led Λ l) := match l with
  | 0 => zrib_X11_led_0 Λ
  | _ + 1 => z_ri_bad
theorem zsh_X11_led {as : List zV} {M : zM} {r : List zV} {M2 : zM} (h : zm_X11_led zLa as M = some (r, M2)) : ∃ v, r = [zI v] := z_ri_me ztl_X11_led zril_X11_led h
theorem zrib_X11_words_84 (Λ : Int → Int) : z_RI (zt_X11_words_84 Λ) := z_ri_seq (z_ot_il 3) (z_ri_iret)
theorem zrib_X11_words_78 (Λ : Int → Int) : z_RI (zt_X11_words_78 Λ) := z_ri_seq (z_ot_inc 4 1) (z_ri_go 1)
theorem zrib_X11_words_75 (Λ : Int → Int) : z_RI (zt_X11_words_75 Λ) := z_ri_seq (z_ot_inc 3 1) (zrib_X11_words_78 Λ)
theorem zrib_X11_words_60 (Λ : Int → Int) : z_RI (zt_X11_words_60 Λ) := z_ri_seq (z_ot_al 0) (z_ri_seq (z_ot_getA 11 1 0) (z_ri_seq (z_ot_il 4) (z_ri_seq (z_ot_callv _ z_hbI _ _ _) (z_ri_seq (z_ot_il 2) (z_ri_seq (z_ot_i2 _) (z_ri_seq (z_ot_il 2) (z_ri_icmpeq (zrib_X11_words_75 Λ) (zrib_X11_words_78 Λ))))))))
theorem zrib_X11_words_47 (Λ : Int → Int) : z_RI (zt_X11_words_47 Λ) := z_ri_seq (z_ot_al 0) (z_ri_seq (z_ot_getA 11 1 0) (z_ri_seq (z_ot_il 4) (z_ri_seq (z_ot_il 1) (z_ri_seq (z_ot_callv _ z_hbI _ _ _) (z_ri_ifeq (zrib_X11_words_78 Λ) (zrib_X11_words_60 Λ))))))
theorem zrib_X11_words_32 (Λ : Int → Int) : z_RI (zt_X11_words_32 Λ) := z_ri_seq (z_ot_il 4) (z_ri_seq (z_ot_al 0) (z_ri_seq (z_ot_getA 11 1 0) (z_ri_seq (z_ot_getA 0 2 3) (z_ri_seq (z_ot_getI 3 0) (z_ri_icmplt (zrib_X11_words_47 Λ) (zrib_X11_words_84 Λ))))))
theorem zrib_X11_words_27 (Λ : Int → Int) : z_RI (zt_X11_words_27 Λ) := z_ri_seq (z_ot_ic 0) (z_ri_seq (z_ot_is 3) (z_ri_seq (z_ot_ic 0) (z_ri_seq (z_ot_is 4) (z_ri_go 1))))
theorem zrib_X11_words_25 (Λ : Int → Int) : z_RI (zt_X11_words_25 Λ) := z_ri_seq (z_ot_ic (-1)) (z_ri_iret)
theorem zrib_X11_words_19 (Λ : Int → Int) : z_RI (zt_X11_words_19 Λ) := z_ri_seq (z_ot_il 2) (z_ri_seq (z_ot_ic 127) (z_ri_icmple (zrib_X11_words_27 Λ) (zrib_X11_words_25 Λ)))
theorem zrib_X11_words_14 (Λ : Int → Int) : z_RI (zt_X11_words_14 Λ) := z_ri_seq (z_ot_il 2) (z_ri_seq (z_ot_ic 1) (z_ri_icmplt (zrib_X11_words_25 Λ) (zrib_X11_words_19 Λ)))
theorem zrib_X11_words_0 (Λ : Int → Int) : z_RI (zt_X11_words_0 Λ) := z_ri_seq (z_ot_al 0) (z_ri_seq (z_ot_getA 11 1 0) (z_ri_seq (z_ot_getA 0 1 8) (z_ri_seq (z_ot_il 1) (z_ri_seq (z_ot_callv _ z_hbI _ _ _) (z_ri_ifeq (zrib_X11_words_25 Λ) (zrib_X11_words_14 Λ))))))
theorem zril_X11_words (Λ : Int → Int) (l : Nat) : z_RI (zcd_X11_words Λ l) := match l with
  | 0 => zrib_X11_words_0 Λ
  | 1 => zrib_X11_words_32 Λ
  | _ + 2 => z_ri_bad
theorem zsh_X11_words {as : List zV} {M : zM} {r : List zV} {M2 : zM} (h : zm_X11_words zLa as M = some (r, M2)) : ∃ v, r = [zI v] := z_ri_me ztl_X11_words zril_X11_words h
theorem zrib_X11_truth_13 (Λ : Int → Int) : z_RI (zt_X11_truth_13 Λ) := z_ri_seq (z_ot_al 0) (z_ri_seq (z_ot_il 1) (z_ri_seq (z_ot_putI 11 2) (z_ri_seq (z_ot_ic 1) (z_ri_zret))))
theorem zrib_X11_truth_11 (Λ : Int → Int) : z_RI (zt_X11_truth_11 Λ) := z_ri_seq (z_ot_ic 0) (z_ri_zret)
theorem zrib_X11_truth_5 (Λ : Int → Int) : z_RI (zt_X11_truth_5 Λ) := z_ri_seq (z_ot_il 1) (z_ri_seq (z_ot_ic 9) (z_ri_icmple (zrib_X11_truth_13 Λ) (zrib_X11_truth_11 Λ)))
theorem zrib_X11_truth_0 (Λ : Int → Int) : z_RI (zt_X11_truth_0 Λ) := z_ri_seq (z_ot_il 1) (z_ri_seq (z_ot_ic 1) (z_ri_icmplt (zrib_X11_truth_11 Λ) (zrib_X11_truth_5 Λ)))
theorem zril_X11_truth (Λ : Int → Int) (l : Nat) : z_RI (zcd_X11_truth Λ l) := match l with
  | 0 => zrib_X11_truth_0 Λ
  | _ + 1 => z_ri_bad
theorem zsh_X11_truth {as : List zV} {M : zM} {r : List zV} {M2 : zM} (h : zm_X11_truth zLa as M = some (r, M2)) : ∃ v, r = [zI v] := z_ri_me ztl_X11_truth zril_X11_truth h
theorem zrib_X11_begin_24 (Λ : Int → Int) : z_RI (zt_X11_begin_24 Λ) := z_ri_seq (z_ot_al 0) (z_ri_seq (z_ot_il 1) (z_ri_seq (z_ot_putI 11 3) (z_ri_seq (z_ot_al 0) (z_ri_seq (z_ot_il 2) (z_ri_seq (z_ot_putI 11 4) (z_ri_seq (z_ot_ic 1) (z_ri_zret)))))))
theorem zrib_X11_begin_22 (Λ : Int → Int) : z_RI (zt_X11_begin_22 Λ) := z_ri_seq (z_ot_ic 0) (z_ri_zret)
theorem zrib_X11_begin_16 (Λ : Int → Int) : z_RI (zt_X11_begin_16 Λ) := z_ri_seq (z_ot_il 2) (z_ri_seq (z_ot_ic 99) (z_ri_icmple (zrib_X11_begin_24 Λ) (zrib_X11_begin_22 Λ)))
theorem zrib_X11_begin_11 (Λ : Int → Int) : z_RI (zt_X11_begin_11 Λ) := z_ri_seq (z_ot_il 2) (z_ri_seq (z_ot_ic 1) (z_ri_icmplt (zrib_X11_begin_22 Λ) (zrib_X11_begin_16 Λ)))
theorem zrib_X11_begin_5 (Λ : Int → Int) : z_RI (zt_X11_begin_5 Λ) := z_ri_seq (z_ot_il 1) (z_ri_seq (z_ot_ic 99) (z_ri_icmple (zrib_X11_begin_11 Λ) (zrib_X11_begin_22 Λ)))
theorem zrib_X11_begin_0 (Λ : Int → Int) : z_RI (zt_X11_begin_0 Λ) := z_ri_seq (z_ot_il 1) (z_ri_seq (z_ot_ic 1) (z_ri_icmplt (zrib_X11_begin_22 Λ) (zrib_X11_begin_5 Λ)))
theorem zril_X11_begin (Λ : Int → Int) (l : Nat) : z_RI (zcd_X11_begin Λ l) := match l with
  | 0 => zrib_X11_begin_0 Λ
  | _ + 1 => z_ri_bad
theorem zsh_X11_begin {as : List zV} {M : zM} {r : List zV} {M2 : zM} (h : zm_X11_begin zLa as M = some (r, M2)) : ∃ v, r = [zI v] := z_ri_me ztl_X11_begin zril_X11_begin h
theorem zrjb_X11_odds_118 (Λ : Int → Int) : z_RJ (zt_X11_odds_118 Λ) := z_rj_lret
theorem zrjb_X11_odds_111 (Λ : Int → Int) : z_RJ (zt_X11_odds_111 Λ) := z_rj_seq (z_ot_al 0) (z_rj_seq (z_ot_getA 11 5 5) (z_rj_seq (z_ot_getJ 5 1) (zrjb_X11_odds_118 Λ)))
theorem zrjb_X11_odds_101 (Λ : Int → Int) : z_RJ (zt_X11_odds_101 Λ) := z_rj_seq (z_ot_al 0) (z_rj_seq (z_ot_getA 11 5 5) (z_rj_seq (z_ot_getJ 5 0) (zrjb_X11_odds_118 Λ)))
theorem zrjb_X11_odds_97 (Λ : Int → Int) : z_RJ (zt_X11_odds_97 Λ) := z_rj_seq (z_ot_il 3) (z_rj_ifeq (zrjb_X11_odds_101 Λ) (zrjb_X11_odds_111 Λ))
theorem zrjb_X11_odds_94 (Λ : Int → Int) : z_RJ (zt_X11_odds_94 Λ) := z_rj_seq (z_ot_callv _ z_hbV _ _ _) (zrjb_X11_odds_97 Λ)
theorem zrjb_X11_odds_93 (Λ : Int → Int) : z_RJ (zt_X11_odds_93 Λ) := z_rj_seq (z_ot_ic 0) (zrjb_X11_odds_94 Λ)
theorem zrjb_X11_odds_89 (Λ : Int → Int) : z_RJ (zt_X11_odds_89 Λ) := z_rj_seq (z_ot_ic 1) (zrjb_X11_odds_94 Λ)
theorem zrjb_X11_odds_75 (Λ : Int → Int) : z_RJ (zt_X11_odds_75 Λ) := z_rj_seq (z_ot_al 0) (z_rj_seq (z_ot_getA 11 5 5) (z_rj_seq (z_ot_al 0) (z_rj_seq (z_ot_getA 11 1 0) (z_rj_seq (z_ot_il 1) (z_rj_seq (z_ot_il 2) (z_rj_seq (z_ot_ic 1) (z_rj_icmpeq (zrjb_X11_odds_89 Λ) (zrjb_X11_odds_93 Λ))))))))
theorem zrjb_X11_odds_60 (Λ : Int → Int) : z_RJ (zt_X11_odds_60 Λ) := z_rj_seq (z_ot_al 0) (z_rj_seq (z_ot_getA 11 5 5) (z_rj_seq (z_ot_al 0) (z_rj_seq (z_ot_getA 11 1 0) (z_rj_seq (z_ot_il 1) (z_rj_seq (z_ot_callv _ z_hbV _ _ _) (zrjb_X11_odds_97 Λ))))))
theorem zrjb_X11_odds_36 (Λ : Int → Int) : z_RJ (zt_X11_odds_36 Λ) := z_rj_seq (z_ot_al 0) (z_rj_seq (z_ot_getA 11 5 5) (z_rj_seq (z_ot_al 0) (z_rj_seq (z_ot_getI 11 3) (z_rj_seq (z_ot_al 0) (z_rj_seq (z_ot_getI 11 4) (z_rj_seq (z_ot_al 0) (z_rj_seq (z_ot_getI 11 2) (z_rj_seq (z_ot_callv _ z_hbV _ _ _) (z_rj_seq (z_ot_il 2) (z_rj_seq (z_ot_ic 2) (z_rj_icmpeq (zrjb_X11_odds_60 Λ) (zrjb_X11_odds_75 Λ))))))))))))
theorem zrjb_X11_odds_32 (Λ : Int → Int) : z_RJ (zt_X11_odds_32 Λ) := z_rj_seq (z_ot_lc (-1)) (z_rj_lret)
theorem zrjb_X11_odds_27 (Λ : Int → Int) : z_RJ (zt_X11_odds_27 Λ) := z_rj_seq (z_ot_il 3) (z_rj_seq (z_ot_ic 1) (z_rj_icmple (zrjb_X11_odds_36 Λ) (zrjb_X11_odds_32 Λ)))
theorem zrjb_X11_odds_23 (Λ : Int → Int) : z_RJ (zt_X11_odds_23 Λ) := z_rj_seq (z_ot_il 3) (z_rj_iflt (zrjb_X11_odds_32 Λ) (zrjb_X11_odds_27 Λ))
theorem zrjb_X11_odds_18 (Λ : Int → Int) : z_RJ (zt_X11_odds_18 Λ) := z_rj_seq (z_ot_il 2) (z_rj_seq (z_ot_ic 2) (z_rj_icmple (zrjb_X11_odds_23 Λ) (zrjb_X11_odds_32 Λ)))
theorem zrjb_X11_odds_14 (Λ : Int → Int) : z_RJ (zt_X11_odds_14 Λ) := z_rj_seq (z_ot_il 2) (z_rj_iflt (zrjb_X11_odds_32 Λ) (zrjb_X11_odds_18 Λ))
theorem zrjb_X11_odds_0 (Λ : Int → Int) : z_RJ (zt_X11_odds_0 Λ) := z_rj_seq (z_ot_al 0) (z_rj_seq (z_ot_getA 11 1 0) (z_rj_seq (z_ot_getA 0 1 8) (z_rj_seq (z_ot_il 1) (z_rj_seq (z_ot_callv _ z_hbI _ _ _) (z_rj_ifeq (zrjb_X11_odds_32 Λ) (zrjb_X11_odds_14 Λ))))))
theorem zrjl_X11_odds (Λ : Int → Int) (l : Nat) : z_RJ (zcd_X11_odds Λ l) := match l with
  | 0 => zrjb_X11_odds_0 Λ
  | _ + 1 => z_rj_bad
theorem zsh_X11_odds {as : List zV} {M : zM} {r : List zV} {M2 : zM} (h : zm_X11_odds zLa as M = some (r, M2)) : ∃ v, r = [zJ v] := z_rj_me ztl_X11_odds zrjl_X11_odds h
theorem zrib_X11_page_26 (Λ : Int → Int) : z_RI (zt_X11_page_26 Λ) := z_ri_iret
theorem zrib_X11_page_25 (Λ : Int → Int) : z_RI (zt_X11_page_25 Λ) := z_ri_seq (z_ot_ic (-1)) (zrib_X11_page_26 Λ)
theorem zrib_X11_page_14 (Λ : Int → Int) : z_RI (zt_X11_page_14 Λ) := z_ri_seq (z_ot_al 0) (z_ri_seq (z_ot_getA 11 1 0) (z_ri_seq (z_ot_il 1) (z_ri_seq (z_ot_callv _ z_hbI _ _ _) (zrib_X11_page_26 Λ))))
theorem zrib_X11_page_0 (Λ : Int → Int) : z_RI (zt_X11_page_0 Λ) := z_ri_seq (z_ot_al 0) (z_ri_seq (z_ot_getA 11 1 0) (z_ri_seq (z_ot_getA 0 3 6) (z_ri_seq (z_ot_il 1) (z_ri_seq (z_ot_callv _ z_hbI _ _ _) (z_ri_ifeq (zrib_X11_page_25 Λ) (zrib_X11_page_14 Λ))))))
theorem zril_X11_page (Λ : Int → Int) (l : Nat) : z_RI (zcd_X11_page Λ l) := match l with
  | 0 => zrib_X11_page_0 Λ
  | _ + 1 => z_ri_bad
theorem zsh_X11_page {as : List zV} {M : zM} {r : List zV} {M2 : zM} (h : zm_X11_page zLa as M = some (r, M2)) : ∃ v, r = [zI v] := z_ri_me ztl_X11_page zril_X11_page h
theorem zrib_X11_left_26 (Λ : Int → Int) : z_RI (zt_X11_left_26 Λ) := z_ri_iret
theorem zrib_X11_left_25 (Λ : Int → Int) : z_RI (zt_X11_left_25 Λ) := z_ri_seq (z_ot_ic (-1)) (zrib_X11_left_26 Λ)
theorem zrib_X11_left_14 (Λ : Int → Int) : z_RI (zt_X11_left_14 Λ) := z_ri_seq (z_ot_al 0) (z_ri_seq (z_ot_getA 11 1 0) (z_ri_seq (z_ot_il 1) (z_ri_seq (z_ot_callv _ z_hbI _ _ _) (zrib_X11_left_26 Λ))))
theorem zrib_X11_left_0 (Λ : Int → Int) : z_RI (zt_X11_left_0 Λ) := z_ri_seq (z_ot_al 0) (z_ri_seq (z_ot_getA 11 1 0) (z_ri_seq (z_ot_getA 0 1 8) (z_ri_seq (z_ot_il 1) (z_ri_seq (z_ot_callv _ z_hbI _ _ _) (z_ri_ifeq (zrib_X11_left_25 Λ) (zrib_X11_left_14 Λ))))))
theorem zril_X11_left (Λ : Int → Int) (l : Nat) : z_RI (zcd_X11_left Λ l) := match l with
  | 0 => zrib_X11_left_0 Λ
  | _ + 1 => z_ri_bad
theorem zsh_X11_left {as : List zV} {M : zM} {r : List zV} {M2 : zM} (h : zm_X11_left zLa as M = some (r, M2)) : ∃ v, r = [zI v] := z_ri_me ztl_X11_left zril_X11_left h
theorem zrib_X11_moved_33 (Λ : Int → Int) : z_RI (zt_X11_moved_33 Λ) := z_ri_iret
theorem zrib_X11_moved_32 (Λ : Int → Int) : z_RI (zt_X11_moved_32 Λ) := z_ri_seq (z_ot_ic (-1)) (zrib_X11_moved_33 Λ)
theorem zrib_X11_moved_14 (Λ : Int → Int) : z_RI (zt_X11_moved_14 Λ) := z_ri_seq (z_ot_al 0) (z_ri_seq (z_ot_getA 11 1 0) (z_ri_seq (z_ot_getA 0 3 6) (z_ri_seq (z_ot_al 0) (z_ri_seq (z_ot_getA 11 1 0) (z_ri_seq (z_ot_il 1) (z_ri_seq (z_ot_callv _ z_hbI _ _ _) (zrib_X11_moved_33 Λ)))))))
theorem zrib_X11_moved_0 (Λ : Int → Int) : z_RI (zt_X11_moved_0 Λ) := z_ri_seq (z_ot_al 0) (z_ri_seq (z_ot_getA 11 1 0) (z_ri_seq (z_ot_getA 0 1 8) (z_ri_seq (z_ot_il 1) (z_ri_seq (z_ot_callv _ z_hbI _ _ _) (z_ri_ifeq (zrib_X11_moved_32 Λ) (zrib_X11_moved_14 Λ))))))
theorem zril_X11_moved (Λ : Int → Int) (l : Nat) : z_RI (zcd_X11_moved Λ l) := match l with
  | 0 => zrib_X11_moved_0 Λ
  | _ + 1 => z_ri_bad
theorem zsh_X11_moved {as : List zV} {M : zM} {r : List zV} {M2 : zM} (h : zm_X11_moved zLa as M = some (r, M2)) : ∃ v, r = [zI v] := z_ri_me ztl_X11_moved zril_X11_moved h
theorem zrib_X11_story_31 (Λ : Int → Int) : z_RI (zt_X11_story_31 Λ) := z_ri_seq (z_ot_al 0) (z_ri_seq (z_ot_getA 11 1 0) (z_ri_seq (z_ot_il 1) (z_ri_seq (z_ot_il 2) (z_ri_seq (z_ot_callv _ z_hbI _ _ _) (z_ri_iret)))))
theorem zrib_X11_story_28 (Λ : Int → Int) : z_RI (zt_X11_story_28 Λ) := z_ri_seq (z_ot_ic (-2)) (z_ri_iret)
theorem zrib_X11_story_14 (Λ : Int → Int) : z_RI (zt_X11_story_14 Λ) := z_ri_seq (z_ot_al 0) (z_ri_seq (z_ot_getA 11 1 0) (z_ri_seq (z_ot_getA 0 0 9) (z_ri_seq (z_ot_il 2) (z_ri_seq (z_ot_callv _ z_hbI _ _ _) (z_ri_ifeq (zrib_X11_story_28 Λ) (zrib_X11_story_31 Λ))))))
theorem zrib_X11_story_0 (Λ : Int → Int) : z_RI (zt_X11_story_0 Λ) := z_ri_seq (z_ot_al 0) (z_ri_seq (z_ot_getA 11 1 0) (z_ri_seq (z_ot_getA 0 1 8) (z_ri_seq (z_ot_il 1) (z_ri_seq (z_ot_callv _ z_hbI _ _ _) (z_ri_ifeq (zrib_X11_story_28 Λ) (zrib_X11_story_14 Λ))))))
theorem zril_X11_story (Λ : Int → Int) (l : Nat) : z_RI (zcd_X11_story Λ l) := match l with
  | 0 => zrib_X11_story_0 Λ
  | _ + 1 => z_ri_bad
theorem zsh_X11_story {as : List zV} {M : zM} {r : List zV} {M2 : zM} (h : zm_X11_story zLa as M = some (r, M2)) : ∃ v, r = [zI v] := z_ri_me ztl_X11_story zril_X11_story h
theorem zrib_X11_clash_35 (Λ : Int → Int) : z_RI (zt_X11_clash_35 Λ) := z_ri_seq (z_ot_al 0) (z_ri_seq (z_ot_getA 11 1 0) (z_ri_seq (z_ot_il 1) (z_ri_seq (z_ot_il 2) (z_ri_seq (z_ot_callv _ z_hbI _ _ _) (z_ri_iret)))))
theorem zrib_X11_clash_33 (Λ : Int → Int) : z_RI (zt_X11_clash_33 Λ) := z_ri_seq (z_ot_ic (-1)) (z_ri_iret)
theorem zrib_X11_clash_28 (Λ : Int → Int) : z_RI (zt_X11_clash_28 Λ) := z_ri_seq (z_ot_il 1) (z_ri_seq (z_ot_il 2) (z_ri_icmpeq (zrib_X11_clash_33 Λ) (zrib_X11_clash_35 Λ)))
theorem zrib_X11_clash_14 (Λ : Int → Int) : z_RI (zt_X11_clash_14 Λ) := z_ri_seq (z_ot_al 0) (z_ri_seq (z_ot_getA 11 1 0) (z_ri_seq (z_ot_getA 0 1 8) (z_ri_seq (z_ot_il 2) (z_ri_seq (z_ot_callv _ z_hbI _ _ _) (z_ri_ifeq (zrib_X11_clash_33 Λ) (zrib_X11_clash_28 Λ))))))
theorem zrib_X11_clash_0 (Λ : Int → Int) : z_RI (zt_X11_clash_0 Λ) := z_ri_seq (z_ot_al 0) (z_ri_seq (z_ot_getA 11 1 0) (z_ri_seq (z_ot_getA 0 1 8) (z_ri_seq (z_ot_il 1) (z_ri_seq (z_ot_callv _ z_hbI _ _ _) (z_ri_ifeq (zrib_X11_clash_33 Λ) (zrib_X11_clash_14 Λ))))))
theorem zril_X11_clash (Λ : Int → Int) (l : Nat) : z_RI (zcd_X11_clash Λ l) := match l with
  | 0 => zrib_X11_clash_0 Λ
  | _ + 1 => z_ri_bad
theorem zsh_X11_clash {as : List zV} {M : zM} {r : List zV} {M2 : zM} (h : zm_X11_clash zLa as M = some (r, M2)) : ∃ v, r = [zI v] := z_ri_me ztl_X11_clash zril_X11_clash h
theorem zrib_X11_together_59 (Λ : Int → Int) : z_RI (zt_X11_together_59 Λ) := z_ri_seq (z_ot_il 1) (z_ri_iret)
theorem zrib_X11_together_53 (Λ : Int → Int) : z_RI (zt_X11_together_53 Λ) := z_ri_seq (z_ot_inc 3 1) (z_ri_go 1)
theorem zrib_X11_together_51 (Λ : Int → Int) : z_RI (zt_X11_together_51 Λ) := z_ri_seq (z_ot_il 3) (z_ri_seq (z_ot_is 1) (zrib_X11_together_53 Λ))
theorem zrib_X11_together_40 (Λ : Int → Int) : z_RI (zt_X11_together_40 Λ) := z_ri_seq (z_ot_al 0) (z_ri_seq (z_ot_getA 11 1 0) (z_ri_seq (z_ot_il 3) (z_ri_seq (z_ot_callv _ z_hbI _ _ _) (z_ri_ifeq (zrib_X11_together_53 Λ) (zrib_X11_together_51 Λ)))))
theorem zrib_X11_together_29 (Λ : Int → Int) : z_RI (zt_X11_together_29 Λ) := z_ri_seq (z_ot_il 3) (z_ri_seq (z_ot_call _ z_hbI _ _) (z_ri_seq (z_ot_il 1) (z_ri_seq (z_ot_call _ z_hbI _ _) (z_ri_icmple (zrib_X11_together_53 Λ) (zrib_X11_together_40 Λ)))))
theorem zrib_X11_together_24 (Λ : Int → Int) : z_RI (zt_X11_together_24 Λ) := z_ri_seq (z_ot_il 3) (z_ri_seq (z_ot_il 2) (z_ri_icmplt (zrib_X11_together_29 Λ) (zrib_X11_together_59 Λ)))
theorem zrib_X11_together_0 (Λ : Int → Int) : z_RI (zt_X11_together_0 Λ) := z_ri_seq (z_ot_al 0) (z_ri_seq (z_ot_getA 11 1 0) (z_ri_seq (z_ot_callv _ z_hbV _ _ _) (z_ri_seq (z_ot_ic 0) (z_ri_seq (z_ot_is 1) (z_ri_seq (z_ot_ic 1) (z_ri_seq (z_ot_al 0) (z_ri_seq (z_ot_getA 11 1 0) (z_ri_seq (z_ot_getA 0 1 8) (z_ri_seq (z_ot_getI 8 0) (z_ri_seq (z_ot_i2 _) (z_ri_seq (z_ot_is 2) (z_ri_seq (z_ot_ic 1) (z_ri_seq (z_ot_is 3) (z_ri_go 1))))))))))))))
theorem zril_X11_together (Λ : Int → Int) (l : Nat) : z_RI (zcd_X11_together Λ l) := match l with
  | 0 => zrib_X11_together_0 Λ
  | 1 => zrib_X11_together_24 Λ
  | _ + 2 => z_ri_bad
theorem zsh_X11_together {as : List zV} {M : zM} {r : List zV} {M2 : zM} (h : zm_X11_together zLa as M = some (r, M2)) : ∃ v, r = [zI v] := z_ri_me ztl_X11_together zril_X11_together h
theorem zrib_X11_lies_52 (Λ : Int → Int) : z_RI (zt_X11_lies_52 Λ) := z_ri_seq (z_ot_il 2) (z_ri_iret)
theorem zrib_X11_lies_34 (Λ : Int → Int) : z_RI (zt_X11_lies_34 Λ) := z_ri_seq (z_ot_il 2) (z_ri_seq (z_ot_al 0) (z_ri_seq (z_ot_getA 11 1 0) (z_ri_seq (z_ot_il 1) (z_ri_seq (z_ot_il 3) (z_ri_seq (z_ot_callv _ z_hbI _ _ _) (z_ri_seq (z_ot_i2 _) (z_ri_seq (z_ot_is 2) (z_ri_seq (z_ot_inc 3 1) (z_ri_go 1)))))))))
theorem zrib_X11_lies_20 (Λ : Int → Int) : z_RI (zt_X11_lies_20 Λ) := z_ri_seq (z_ot_il 3) (z_ri_seq (z_ot_al 0) (z_ri_seq (z_ot_getA 11 1 0) (z_ri_seq (z_ot_getA 0 0 9) (z_ri_seq (z_ot_getI 9 0) (z_ri_icmplt (zrib_X11_lies_34 Λ) (zrib_X11_lies_52 Λ))))))
theorem zrib_X11_lies_16 (Λ : Int → Int) : z_RI (zt_X11_lies_16 Λ) := z_ri_seq (z_ot_ic 0) (z_ri_seq (z_ot_is 2) (z_ri_seq (z_ot_ic 0) (z_ri_seq (z_ot_is 3) (z_ri_go 1))))
theorem zrib_X11_lies_14 (Λ : Int → Int) : z_RI (zt_X11_lies_14 Λ) := z_ri_seq (z_ot_ic (-1)) (z_ri_iret)
theorem zrib_X11_lies_0 (Λ : Int → Int) : z_RI (zt_X11_lies_0 Λ) := z_ri_seq (z_ot_al 0) (z_ri_seq (z_ot_getA 11 1 0) (z_ri_seq (z_ot_getA 0 1 8) (z_ri_seq (z_ot_il 1) (z_ri_seq (z_ot_callv _ z_hbI _ _ _) (z_ri_ifeq (zrib_X11_lies_14 Λ) (zrib_X11_lies_16 Λ))))))
theorem zril_X11_lies (Λ : Int → Int) (l : Nat) : z_RI (zcd_X11_lies Λ l) := match l with
  | 0 => zrib_X11_lies_0 Λ
  | 1 => zrib_X11_lies_20 Λ
  | _ + 2 => z_ri_bad
theorem zsh_X11_lies {as : List zV} {M : zM} {r : List zV} {M2 : zM} (h : zm_X11_lies zLa as M = some (r, M2)) : ∃ v, r = [zI v] := z_ri_me ztl_X11_lies zril_X11_lies h
theorem zrib_X11_supposed_80 (Λ : Int → Int) : z_RI (zt_X11_supposed_80 Λ) := z_ri_seq (z_ot_il 2) (z_ri_iret)
theorem zrib_X11_supposed_74 (Λ : Int → Int) : z_RI (zt_X11_supposed_74 Λ) := z_ri_seq (z_ot_inc 3 1) (z_ri_go 1)
theorem zrib_X11_supposed_57 (Λ : Int → Int) : z_RI (zt_X11_supposed_57 Λ) := z_ri_seq (z_ot_il 2) (z_ri_seq (z_ot_ic 1) (z_ri_seq (z_ot_al 0) (z_ri_seq (z_ot_getA 11 1 0) (z_ri_seq (z_ot_getA 0 2 3) (z_ri_seq (z_ot_getA 3 5 13) (z_ri_seq (z_ot_il 3) (z_ri_seq (z_ot_ald 13 _) (z_ri_seq (z_ot_i2 _) (z_ri_seq (z_ot_i2 _) (z_ri_seq (z_ot_is 2) (zrib_X11_supposed_74 Λ)))))))))))
theorem zrib_X11_supposed_46 (Λ : Int → Int) : z_RI (zt_X11_supposed_46 Λ) := z_ri_seq (z_ot_al 0) (z_ri_seq (z_ot_getA 11 1 0) (z_ri_seq (z_ot_il 3) (z_ri_seq (z_ot_callv _ z_hbI _ _ _) (z_ri_ifeq (zrib_X11_supposed_74 Λ) (zrib_X11_supposed_57 Λ)))))
theorem zrib_X11_supposed_34 (Λ : Int → Int) : z_RI (zt_X11_supposed_34 Λ) := z_ri_seq (z_ot_al 0) (z_ri_seq (z_ot_getA 11 1 0) (z_ri_seq (z_ot_il 3) (z_ri_seq (z_ot_il 1) (z_ri_seq (z_ot_callv _ z_hbI _ _ _) (z_ri_ifeq (zrib_X11_supposed_74 Λ) (zrib_X11_supposed_46 Λ))))))
theorem zrib_X11_supposed_20 (Λ : Int → Int) : z_RI (zt_X11_supposed_20 Λ) := z_ri_seq (z_ot_il 3) (z_ri_seq (z_ot_al 0) (z_ri_seq (z_ot_getA 11 1 0) (z_ri_seq (z_ot_getA 0 2 3) (z_ri_seq (z_ot_getI 3 0) (z_ri_icmplt (zrib_X11_supposed_34 Λ) (zrib_X11_supposed_80 Λ))))))
theorem zrib_X11_supposed_16 (Λ : Int → Int) : z_RI (zt_X11_supposed_16 Λ) := z_ri_seq (z_ot_ic 0) (z_ri_seq (z_ot_is 2) (z_ri_seq (z_ot_ic 0) (z_ri_seq (z_ot_is 3) (z_ri_go 1))))
theorem zrib_X11_supposed_14 (Λ : Int → Int) : z_RI (zt_X11_supposed_14 Λ) := z_ri_seq (z_ot_ic (-1)) (z_ri_iret)
theorem zrib_X11_supposed_0 (Λ : Int → Int) : z_RI (zt_X11_supposed_0 Λ) := z_ri_seq (z_ot_al 0) (z_ri_seq (z_ot_getA 11 1 0) (z_ri_seq (z_ot_getA 0 1 8) (z_ri_seq (z_ot_il 1) (z_ri_seq (z_ot_callv _ z_hbI _ _ _) (z_ri_ifeq (zrib_X11_supposed_14 Λ) (zrib_X11_supposed_16 Λ))))))
theorem zril_X11_supposed (Λ : Int → Int) (l : Nat) : z_RI (zcd_X11_supposed Λ l) := match l with
  | 0 => zrib_X11_supposed_0 Λ
  | 1 => zrib_X11_supposed_20 Λ
  | _ + 2 => z_ri_bad
theorem zsh_X11_supposed {as : List zV} {M : zM} {r : List zV} {M2 : zM} (h : zm_X11_supposed zLa as M = some (r, M2)) : ∃ v, r = [zI v] := z_ri_me ztl_X11_supposed zril_X11_supposed h
theorem zrib_X11_law_27 (Λ : Int → Int) : z_RI (zt_X11_law_27 Λ) := z_ri_iret
theorem zrib_X11_law_26 (Λ : Int → Int) : z_RI (zt_X11_law_26 Λ) := z_ri_seq (z_ot_ic (-1)) (zrib_X11_law_27 Λ)
theorem zrib_X11_law_11 (Λ : Int → Int) : z_RI (zt_X11_law_11 Λ) := z_ri_seq (z_ot_al 0) (z_ri_seq (z_ot_getA 11 6 4) (z_ri_seq (z_ot_al 0) (z_ri_seq (z_ot_getA 11 1 0) (z_ri_seq (z_ot_il 1) (z_ri_seq (z_ot_callv _ z_hbI _ _ _) (zrib_X11_law_27 Λ))))))
theorem zrib_X11_law_0 (Λ : Int → Int) : z_RI (zt_X11_law_0 Λ) := z_ri_seq (z_ot_al 0) (z_ri_seq (z_ot_getA 11 1 0) (z_ri_seq (z_ot_il 1) (z_ri_seq (z_ot_callv _ z_hbI _ _ _) (z_ri_ifeq (zrib_X11_law_26 Λ) (zrib_X11_law_11 Λ)))))
theorem zril_X11_law (Λ : Int → Int) (l : Nat) : z_RI (zcd_X11_law Λ l) := match l with
  | 0 => zrib_X11_law_0 Λ
  | _ + 1 => z_ri_bad
theorem zsh_X11_law {as : List zV} {M : zM} {r : List zV} {M2 : zM} (h : zm_X11_law zLa as M = some (r, M2)) : ∃ v, r = [zI v] := z_ri_me ztl_X11_law zril_X11_law h
theorem zrib_X11_draws_31 (Λ : Int → Int) : z_RI (zt_X11_draws_31 Λ) := z_ri_seq (z_ot_al 0) (z_ri_seq (z_ot_getA 11 7 1) (z_ri_seq (z_ot_al 0) (z_ri_seq (z_ot_getA 11 1 0) (z_ri_seq (z_ot_il 1) (z_ri_seq (z_ot_al 0) (z_ri_seq (z_ot_getA 11 6 4) (z_ri_seq (z_ot_callv _ z_hbV _ _ _) (z_ri_seq (z_ot_al 0) (z_ri_seq (z_ot_getA 11 7 1) (z_ri_seq (z_ot_il 2) (z_ri_seq (z_ot_il 3) (z_ri_seq (z_ot_callv _ z_hbI _ _ _) (z_ri_iret)))))))))))))
theorem zrib_X11_draws_29 (Λ : Int → Int) : z_RI (zt_X11_draws_29 Λ) := z_ri_seq (z_ot_ic (-1)) (z_ri_iret)
theorem zrib_X11_draws_23 (Λ : Int → Int) : z_RI (zt_X11_draws_23 Λ) := z_ri_seq (z_ot_il 3) (z_ri_seq (z_ot_ic 99) (z_ri_icmple (zrib_X11_draws_31 Λ) (zrib_X11_draws_29 Λ)))
theorem zrib_X11_draws_18 (Λ : Int → Int) : z_RI (zt_X11_draws_18 Λ) := z_ri_seq (z_ot_il 3) (z_ri_seq (z_ot_ic 1) (z_ri_icmplt (zrib_X11_draws_29 Λ) (zrib_X11_draws_23 Λ)))
theorem zrib_X11_draws_14 (Λ : Int → Int) : z_RI (zt_X11_draws_14 Λ) := z_ri_seq (z_ot_il 2) (z_ri_iflt (zrib_X11_draws_29 Λ) (zrib_X11_draws_18 Λ))
theorem zrib_X11_draws_0 (Λ : Int → Int) : z_RI (zt_X11_draws_0 Λ) := z_ri_seq (z_ot_al 0) (z_ri_seq (z_ot_getA 11 1 0) (z_ri_seq (z_ot_getA 0 1 8) (z_ri_seq (z_ot_il 1) (z_ri_seq (z_ot_callv _ z_hbI _ _ _) (z_ri_ifeq (zrib_X11_draws_29 Λ) (zrib_X11_draws_14 Λ))))))
theorem zril_X11_draws (Λ : Int → Int) (l : Nat) : z_RI (zcd_X11_draws Λ l) := match l with
  | 0 => zrib_X11_draws_0 Λ
  | _ + 1 => z_ri_bad
theorem zsh_X11_draws {as : List zV} {M : zM} {r : List zV} {M2 : zM} (h : zm_X11_draws zLa as M = some (r, M2)) : ∃ v, r = [zI v] := z_ri_me ztl_X11_draws zril_X11_draws h
theorem zrib_X11_barred_36 (Λ : Int → Int) : z_RI (zt_X11_barred_36 Λ) := z_ri_iret
theorem zrib_X11_barred_35 (Λ : Int → Int) : z_RI (zt_X11_barred_35 Λ) := z_ri_seq (z_ot_ic 0) (zrib_X11_barred_36 Λ)
theorem zrib_X11_barred_31 (Λ : Int → Int) : z_RI (zt_X11_barred_31 Λ) := z_ri_seq (z_ot_ic 1) (zrib_X11_barred_36 Λ)
theorem zrib_X11_barred_16 (Λ : Int → Int) : z_RI (zt_X11_barred_16 Λ) := z_ri_seq (z_ot_al 0) (z_ri_seq (z_ot_getA 11 6 4) (z_ri_seq (z_ot_al 0) (z_ri_seq (z_ot_getA 11 1 0) (z_ri_seq (z_ot_il 1) (z_ri_seq (z_ot_callv _ z_hbI _ _ _) (z_ri_ifeq (zrib_X11_barred_35 Λ) (zrib_X11_barred_31 Λ)))))))
theorem zrib_X11_barred_14 (Λ : Int → Int) : z_RI (zt_X11_barred_14 Λ) := z_ri_seq (z_ot_ic (-1)) (z_ri_iret)
theorem zrib_X11_barred_0 (Λ : Int → Int) : z_RI (zt_X11_barred_0 Λ) := z_ri_seq (z_ot_al 0) (z_ri_seq (z_ot_getA 11 1 0) (z_ri_seq (z_ot_getA 0 1 8) (z_ri_seq (z_ot_il 1) (z_ri_seq (z_ot_callv _ z_hbI _ _ _) (z_ri_ifeq (zrib_X11_barred_14 Λ) (zrib_X11_barred_16 Λ))))))
theorem zril_X11_barred (Λ : Int → Int) (l : Nat) : z_RI (zcd_X11_barred Λ l) := match l with
  | 0 => zrib_X11_barred_0 Λ
  | _ + 1 => z_ri_bad
theorem zsh_X11_barred {as : List zV} {M : zM} {r : List zV} {M2 : zM} (h : zm_X11_barred zLa as M = some (r, M2)) : ∃ v, r = [zI v] := z_ri_me ztl_X11_barred zril_X11_barred h
theorem zrib_X11_jury_46 (Λ : Int → Int) : z_RI (zt_X11_jury_46 Λ) := z_ri_iret
theorem zrib_X11_jury_45 (Λ : Int → Int) : z_RI (zt_X11_jury_45 Λ) := z_ri_seq (z_ot_ic 0) (zrib_X11_jury_46 Λ)
theorem zrib_X11_jury_41 (Λ : Int → Int) : z_RI (zt_X11_jury_41 Λ) := z_ri_seq (z_ot_ic 1) (zrib_X11_jury_46 Λ)
theorem zrib_X11_jury_25 (Λ : Int → Int) : z_RI (zt_X11_jury_25 Λ) := z_ri_seq (z_ot_al 0) (z_ri_seq (z_ot_getA 11 6 4) (z_ri_seq (z_ot_al 0) (z_ri_seq (z_ot_getA 11 1 0) (z_ri_seq (z_ot_il 1) (z_ri_seq (z_ot_il 2) (z_ri_seq (z_ot_callv _ z_hbI _ _ _) (z_ri_ifeq (zrib_X11_jury_45 Λ) (zrib_X11_jury_41 Λ))))))))
theorem zrib_X11_jury_23 (Λ : Int → Int) : z_RI (zt_X11_jury_23 Λ) := z_ri_seq (z_ot_ic (-1)) (z_ri_iret)
theorem zrib_X11_jury_18 (Λ : Int → Int) : z_RI (zt_X11_jury_18 Λ) := z_ri_seq (z_ot_il 2) (z_ri_seq (z_ot_ic 2) (z_ri_icmple (zrib_X11_jury_25 Λ) (zrib_X11_jury_23 Λ)))
theorem zrib_X11_jury_14 (Λ : Int → Int) : z_RI (zt_X11_jury_14 Λ) := z_ri_seq (z_ot_il 2) (z_ri_iflt (zrib_X11_jury_23 Λ) (zrib_X11_jury_18 Λ))
theorem zrib_X11_jury_0 (Λ : Int → Int) : z_RI (zt_X11_jury_0 Λ) := z_ri_seq (z_ot_al 0) (z_ri_seq (z_ot_getA 11 1 0) (z_ri_seq (z_ot_getA 0 1 8) (z_ri_seq (z_ot_il 1) (z_ri_seq (z_ot_callv _ z_hbI _ _ _) (z_ri_ifeq (zrib_X11_jury_23 Λ) (zrib_X11_jury_14 Λ))))))
theorem zril_X11_jury (Λ : Int → Int) (l : Nat) : z_RI (zcd_X11_jury Λ l) := match l with
  | 0 => zrib_X11_jury_0 Λ
  | _ + 1 => z_ri_bad
theorem zsh_X11_jury {as : List zV} {M : zM} {r : List zV} {M2 : zM} (h : zm_X11_jury zLa as M = some (r, M2)) : ∃ v, r = [zI v] := z_ri_me ztl_X11_jury zril_X11_jury h
theorem zrib_X11_there_16 (Λ : Int → Int) : z_RI (zt_X11_there_16 Λ) := z_ri_seq (z_ot_al 0) (z_ri_seq (z_ot_getA 11 1 0) (z_ri_seq (z_ot_il 1) (z_ri_seq (z_ot_putI 0 10) (z_ri_seq (z_ot_il 1) (z_ri_seq (z_ot_call _ z_hbI _ _) (z_ri_iret))))))
theorem zrib_X11_there_14 (Λ : Int → Int) : z_RI (zt_X11_there_14 Λ) := z_ri_seq (z_ot_ic (-1)) (z_ri_iret)
theorem zrib_X11_there_0 (Λ : Int → Int) : z_RI (zt_X11_there_0 Λ) := z_ri_seq (z_ot_al 0) (z_ri_seq (z_ot_getA 11 1 0) (z_ri_seq (z_ot_getA 0 1 8) (z_ri_seq (z_ot_il 1) (z_ri_seq (z_ot_callv _ z_hbI _ _ _) (z_ri_ifeq (zrib_X11_there_14 Λ) (zrib_X11_there_16 Λ))))))
theorem zril_X11_there (Λ : Int → Int) (l : Nat) : z_RI (zcd_X11_there Λ l) := match l with
  | 0 => zrib_X11_there_0 Λ
  | _ + 1 => z_ri_bad
theorem zsh_X11_there {as : List zV} {M : zM} {r : List zV} {M2 : zM} (h : zm_X11_there zLa as M = some (r, M2)) : ∃ v, r = [zI v] := z_ri_me ztl_X11_there zril_X11_there h
theorem zrib_X11_found_115 (Λ : Int → Int) : z_RI (zt_X11_found_115 Λ) := z_ri_iret
theorem zrib_X11_found_104 (Λ : Int → Int) : z_RI (zt_X11_found_104 Λ) := z_ri_seq (z_ot_al 0) (z_ri_seq (z_ot_getA 11 1 0) (z_ri_seq (z_ot_getI 0 10) (z_ri_seq (z_ot_il 3) (z_ri_seq (z_ot_ic (-1)) (z_ri_seq (z_ot_i2 _) (z_ri_seq (z_ot_i2 _) (zrib_X11_found_115 Λ)))))))
theorem zrib_X11_found_90 (Λ : Int → Int) : z_RI (zt_X11_found_90 Λ) := z_ri_seq (z_ot_il 3) (z_ri_seq (z_ot_al 0) (z_ri_seq (z_ot_getA 11 1 0) (z_ri_seq (z_ot_getI 0 10) (z_ri_seq (z_ot_ic (-1)) (z_ri_seq (z_ot_i2 _) (z_ri_seq (z_ot_i2 _) (zrib_X11_found_115 Λ)))))))
theorem zrib_X11_found_86 (Λ : Int → Int) : z_RI (zt_X11_found_86 Λ) := z_ri_seq (z_ot_il 2) (z_ri_ifeq (zrib_X11_found_90 Λ) (zrib_X11_found_104 Λ))
theorem zrib_X11_found_80 (Λ : Int → Int) : z_RI (zt_X11_found_80 Λ) := z_ri_seq (z_ot_inc 4 1) (z_ri_go 1)
theorem zrib_X11_found_73 (Λ : Int → Int) : z_RI (zt_X11_found_73 Λ) := z_ri_seq (z_ot_il 3) (z_ri_seq (z_ot_ic 1) (z_ri_seq (z_ot_il 4) (z_ri_seq (z_ot_i2 _) (z_ri_seq (z_ot_i2 _) (z_ri_seq (z_ot_is 3) (zrib_X11_found_80 Λ))))))
theorem zrib_X11_found_57 (Λ : Int → Int) : z_RI (zt_X11_found_57 Λ) := z_ri_seq (z_ot_al 0) (z_ri_seq (z_ot_getA 11 6 4) (z_ri_seq (z_ot_al 0) (z_ri_seq (z_ot_getA 11 1 0) (z_ri_seq (z_ot_il 4) (z_ri_seq (z_ot_callv _ z_hbI _ _ _) (z_ri_ifeq (zrib_X11_found_73 Λ) (zrib_X11_found_80 Λ)))))))
theorem zrib_X11_found_40 (Λ : Int → Int) : z_RI (zt_X11_found_40 Λ) := z_ri_seq (z_ot_al 0) (z_ri_seq (z_ot_getA 11 6 4) (z_ri_seq (z_ot_al 0) (z_ri_seq (z_ot_getA 11 1 0) (z_ri_seq (z_ot_il 4) (z_ri_seq (z_ot_il 1) (z_ri_seq (z_ot_callv _ z_hbI _ _ _) (z_ri_ifeq (zrib_X11_found_80 Λ) (zrib_X11_found_57 Λ))))))))
theorem zrib_X11_found_25 (Λ : Int → Int) : z_RI (zt_X11_found_25 Λ) := z_ri_seq (z_ot_il 4) (z_ri_seq (z_ot_al 0) (z_ri_seq (z_ot_getA 11 1 0) (z_ri_seq (z_ot_getA 0 1 8) (z_ri_seq (z_ot_getI 8 0) (z_ri_icmplt (zrib_X11_found_40 Λ) (zrib_X11_found_86 Λ))))))
theorem zrib_X11_found_20 (Λ : Int → Int) : z_RI (zt_X11_found_20 Λ) := z_ri_seq (z_ot_ic 0) (z_ri_seq (z_ot_is 3) (z_ri_seq (z_ot_ic 0) (z_ri_seq (z_ot_is 4) (z_ri_go 1))))
theorem zrib_X11_found_18 (Λ : Int → Int) : z_RI (zt_X11_found_18 Λ) := z_ri_seq (z_ot_ic (-1)) (z_ri_iret)
theorem zrib_X11_found_13 (Λ : Int → Int) : z_RI (zt_X11_found_13 Λ) := z_ri_seq (z_ot_il 2) (z_ri_seq (z_ot_ic 1) (z_ri_icmple (zrib_X11_found_20 Λ) (zrib_X11_found_18 Λ)))
theorem zrib_X11_found_9 (Λ : Int → Int) : z_RI (zt_X11_found_9 Λ) := z_ri_seq (z_ot_il 2) (z_ri_iflt (zrib_X11_found_18 Λ) (zrib_X11_found_13 Λ))
theorem zrib_X11_found_4 (Λ : Int → Int) : z_RI (zt_X11_found_4 Λ) := z_ri_seq (z_ot_il 1) (z_ri_seq (z_ot_ic 2) (z_ri_icmple (zrib_X11_found_9 Λ) (zrib_X11_found_18 Λ)))
theorem zrib_X11_found_0 (Λ : Int → Int) : z_RI (zt_X11_found_0 Λ) := z_ri_seq (z_ot_il 1) (z_ri_iflt (zrib_X11_found_18 Λ) (zrib_X11_found_4 Λ))
theorem zril_X11_found (Λ : Int → Int) (l : Nat) : z_RI (zcd_X11_found Λ l) := match l with
  | 0 => zrib_X11_found_0 Λ
  | 1 => zrib_X11_found_25 Λ
  | _ + 2 => z_ri_bad
theorem zsh_X11_found {as : List zV} {M : zM} {r : List zV} {M2 : zM} (h : zm_X11_found zLa as M = some (r, M2)) : ∃ v, r = [zI v] := z_ri_me ztl_X11_found zril_X11_found h
theorem zrib_X11_count_138 (Λ : Int → Int) : z_RI (zt_X11_count_138 Λ) := z_ri_seq (z_ot_ic (-1)) (z_ri_iret)
theorem zrib_X11_count_116 (Λ : Int → Int) : z_RI (zt_X11_count_116 Λ) := z_ri_seq (z_ot_al 0) (z_ri_seq (z_ot_getA 11 1 0) (z_ri_seq (z_ot_getA 0 2 3) (z_ri_seq (z_ot_getI 3 0) (z_ri_seq (z_ot_al 0) (z_ri_seq (z_ot_getA 11 1 0) (z_ri_seq (z_ot_getA 0 2 3) (z_ri_seq (z_ot_getI 3 1) (z_ri_seq (z_ot_i2 _) (z_ri_iret)))))))))
theorem zrib_X11_count_108 (Λ : Int → Int) : z_RI (zt_X11_count_108 Λ) := z_ri_seq (z_ot_al 0) (z_ri_seq (z_ot_getA 11 1 0) (z_ri_seq (z_ot_getI 0 9) (z_ri_iret)))
theorem zrib_X11_count_100 (Λ : Int → Int) : z_RI (zt_X11_count_100 Λ) := z_ri_seq (z_ot_al 0) (z_ri_seq (z_ot_getA 11 1 0) (z_ri_seq (z_ot_getI 0 8) (z_ri_iret)))
theorem zrib_X11_count_89 (Λ : Int → Int) : z_RI (zt_X11_count_89 Λ) := z_ri_seq (z_ot_al 0) (z_ri_seq (z_ot_getA 11 1 0) (z_ri_seq (z_ot_getA 0 3 6) (z_ri_seq (z_ot_getI 6 0) (z_ri_iret))))
theorem zrib_X11_count_81 (Λ : Int → Int) : z_RI (zt_X11_count_81 Λ) := z_ri_seq (z_ot_al 0) (z_ri_seq (z_ot_getA 11 1 0) (z_ri_seq (z_ot_callv _ z_hbI _ _ _) (z_ri_iret)))
theorem zrib_X11_count_70 (Λ : Int → Int) : z_RI (zt_X11_count_70 Λ) := z_ri_seq (z_ot_al 0) (z_ri_seq (z_ot_getA 11 1 0) (z_ri_seq (z_ot_getA 0 2 3) (z_ri_seq (z_ot_getI 3 0) (z_ri_iret))))
theorem zrib_X11_count_59 (Λ : Int → Int) : z_RI (zt_X11_count_59 Λ) := z_ri_seq (z_ot_al 0) (z_ri_seq (z_ot_getA 11 1 0) (z_ri_seq (z_ot_getA 0 1 8) (z_ri_seq (z_ot_getI 8 0) (z_ri_iret))))
theorem zrib_X11_count_48 (Λ : Int → Int) : z_RI (zt_X11_count_48 Λ) := z_ri_seq (z_ot_al 0) (z_ri_seq (z_ot_getA 11 1 0) (z_ri_seq (z_ot_getA 0 0 9) (z_ri_seq (z_ot_getI 9 0) (z_ri_iret))))
theorem zrib_X11_count_0 (Λ : Int → Int) : z_RI (zt_X11_count_0 Λ) := z_ri_seq (z_ot_il 1) (z_ri_sw (z_ri_c (zrib_X11_count_48 Λ) (z_ri_c (zrib_X11_count_59 Λ) (z_ri_c (zrib_X11_count_70 Λ) (z_ri_c (zrib_X11_count_81 Λ) (z_ri_c (zrib_X11_count_89 Λ) (z_ri_c (zrib_X11_count_100 Λ) (z_ri_c (zrib_X11_count_108 Λ) (z_ri_c (zrib_X11_count_116 Λ) (z_ri_n))))))))) (zrib_X11_count_138 Λ))
theorem zril_X11_count (Λ : Int → Int) (l : Nat) : z_RI (zcd_X11_count Λ l) := match l with
  | 0 => zrib_X11_count_0 Λ
  | _ + 1 => z_ri_bad
theorem zsh_X11_count {as : List zV} {M : zM} {r : List zV} {M2 : zM} (h : zm_X11_count zLa as M = some (r, M2)) : ∃ v, r = [zI v] := z_ri_me ztl_X11_count zril_X11_count h
theorem zrib_X12_feed_113 (Λ : Int → Int) : z_RI (zt_X12_feed_113 Λ) := z_ri_seq (z_ot_al 0) (z_ri_seq (z_ot_dup) (z_ri_seq (z_ot_getI 12 1) (z_ri_seq (z_ot_ic 20) (z_ri_seq (z_ot_i2 _) (z_ri_seq (z_ot_putI 12 1) (z_ri_seq (z_ot_al 0) (z_ri_seq (z_ot_getI 12 1) (z_ri_iret))))))))
theorem zrib_X12_feed_76 (Λ : Int → Int) : z_RI (zt_X12_feed_76 Λ) := z_ri_seq (z_ot_is 7) (z_ri_seq (z_ot_al 0) (z_ri_seq (z_ot_getA 12 0 13) (z_ri_seq (z_ot_al 0) (z_ri_seq (z_ot_getI 12 1) (z_ri_seq (z_ot_il 6) (z_ri_seq (z_ot_i2 _) (z_ri_seq (z_ot_il 7) (z_ri_seq (z_ot_ic 24) (z_ri_seq (z_ot_ic 8) (z_ri_seq (z_ot_il 6) (z_ri_seq (z_ot_ic 4) (z_ri_seq (z_ot_i2d _) (z_ri_seq (z_ot_i2 _) (z_ri_seq (z_ot_i2 _) (z_ri_seq (z_ot_i2 _) (z_ri_seq (z_ot_ic 255) (z_ri_seq (z_ot_i2 _) (z_ri_seq (z_ot_ast _) (z_ri_seq (z_ot_inc 6 1) (z_ri_go 1))))))))))))))))))))
theorem zrib_X12_feed_74 (Λ : Int → Int) : z_RI (zt_X12_feed_74 Λ) := z_ri_seq (z_ot_il 5) (z_ri_go 2)
theorem zrib_X12_feed_69 (Λ : Int → Int) : z_RI (zt_X12_feed_69 Λ) := z_ri_seq (z_ot_il 4) (z_ri_go 2)
theorem zrib_X12_feed_62 (Λ : Int → Int) : z_RI (zt_X12_feed_62 Λ) := z_ri_seq (z_ot_il 6) (z_ri_seq (z_ot_ic 16) (z_ri_icmplt (zrib_X12_feed_69 Λ) (zrib_X12_feed_74 Λ)))
theorem zrib_X12_feed_58 (Λ : Int → Int) : z_RI (zt_X12_feed_58 Λ) := z_ri_seq (z_ot_il 3) (z_ri_go 2)
theorem zrib_X12_feed_51 (Λ : Int → Int) : z_RI (zt_X12_feed_51 Λ) := z_ri_seq (z_ot_il 6) (z_ri_seq (z_ot_ic 12) (z_ri_icmplt (zrib_X12_feed_58 Λ) (zrib_X12_feed_62 Λ)))
theorem zrib_X12_feed_47 (Λ : Int → Int) : z_RI (zt_X12_feed_47 Λ) := z_ri_seq (z_ot_il 2) (z_ri_go 2)
theorem zrib_X12_feed_40 (Λ : Int → Int) : z_RI (zt_X12_feed_40 Λ) := z_ri_seq (z_ot_il 6) (z_ri_seq (z_ot_ic 8) (z_ri_icmplt (zrib_X12_feed_47 Λ) (zrib_X12_feed_51 Λ)))
theorem zrib_X12_feed_36 (Λ : Int → Int) : z_RI (zt_X12_feed_36 Λ) := z_ri_seq (z_ot_il 1) (z_ri_go 2)
theorem zrib_X12_feed_30 (Λ : Int → Int) : z_RI (zt_X12_feed_30 Λ) := z_ri_seq (z_ot_il 6) (z_ri_seq (z_ot_ic 4) (z_ri_icmplt (zrib_X12_feed_36 Λ) (zrib_X12_feed_40 Λ)))
theorem zrib_X12_feed_23 (Λ : Int → Int) : z_RI (zt_X12_feed_23 Λ) := z_ri_seq (z_ot_il 6) (z_ri_seq (z_ot_ic 20) (z_ri_icmplt (zrib_X12_feed_30 Λ) (zrib_X12_feed_113 Λ)))
theorem zrib_X12_feed_20 (Λ : Int → Int) : z_RI (zt_X12_feed_20 Λ) := z_ri_seq (z_ot_ic 0) (z_ri_seq (z_ot_is 6) (z_ri_go 1))
theorem zrib_X12_feed_18 (Λ : Int → Int) : z_RI (zt_X12_feed_18 Λ) := z_ri_seq (z_ot_ic (-1)) (z_ri_iret)
theorem zrib_X12_feed_0 (Λ : Int → Int) : z_RI (zt_X12_feed_0 Λ) := z_ri_seq (z_ot_al 0) (z_ri_seq (z_ot_ic 0) (z_ri_seq (z_ot_putI 12 2) (z_ri_seq (z_ot_al 0) (z_ri_seq (z_ot_getI 12 1) (z_ri_seq (z_ot_ic 20) (z_ri_seq (z_ot_i2 _) (z_ri_seq (z_ot_ic 800) (z_ri_icmple (zrib_X12_feed_20 Λ) (zrib_X12_feed_18 Λ)))))))))
theorem zril_X12_feed (Λ : Int → Int) (l : Nat) : z_RI (zcd_X12_feed Λ l) := match l with
  | 0 => zrib_X12_feed_0 Λ
  | 1 => zrib_X12_feed_23 Λ
  | 2 => zrib_X12_feed_76 Λ
  | _ + 3 => z_ri_bad
theorem zsh_X12_feed {as : List zV} {M : zM} {r : List zV} {M2 : zM} (h : zm_X12_feed zLa as M = some (r, M2)) : ∃ v, r = [zI v] := z_ri_me ztl_X12_feed zril_X12_feed h
theorem zrib_X12_tell_77 (Λ : Int → Int) : z_RI (zt_X12_tell_77 Λ) := z_ri_seq (z_ot_al 0) (z_ri_seq (z_ot_callv _ z_hbV _ _ _) (z_ri_seq (z_ot_il 2) (z_ri_iret)))
theorem zrib_X12_tell_71 (Λ : Int → Int) : z_RI (zt_X12_tell_71 Λ) := z_ri_seq (z_ot_inc 2 1) (z_ri_go 1)
theorem zrib_X12_tell_69 (Λ : Int → Int) : z_RI (zt_X12_tell_69 Λ) := z_ri_seq (z_ot_ic (-1)) (z_ri_iret)
theorem zrib_X12_tell_62 (Λ : Int → Int) : z_RI (zt_X12_tell_62 Λ) := z_ri_seq (z_ot_al 0) (z_ri_seq (z_ot_callv _ z_hbI _ _ _) (z_ri_ifeq (zrib_X12_tell_69 Λ) (zrib_X12_tell_71 Λ)))
theorem zrib_X12_tell_55 (Λ : Int → Int) : z_RI (zt_X12_tell_55 Λ) := z_ri_seq (z_ot_al 0) (z_ri_seq (z_ot_getI 12 8) (z_ri_ifeq (zrib_X12_tell_77 Λ) (zrib_X12_tell_62 Λ)))
theorem zrib_X12_tell_20 (Λ : Int → Int) : z_RI (zt_X12_tell_20 Λ) := z_ri_seq (z_ot_al 0) (z_ri_seq (z_ot_il 1) (z_ri_seq (z_ot_putI 12 6) (z_ri_seq (z_ot_al 0) (z_ri_seq (z_ot_ic 0) (z_ri_seq (z_ot_putI 12 1) (z_ri_seq (z_ot_al 0) (z_ri_seq (z_ot_ic 0) (z_ri_seq (z_ot_putI 12 4) (z_ri_seq (z_ot_al 0) (z_ri_seq (z_ot_ic (-1)) (z_ri_seq (z_ot_putI 12 5) (z_ri_seq (z_ot_al 0) (z_ri_seq (z_ot_ic 0) (z_ri_seq (z_ot_putI 12 7) (z_ri_seq (z_ot_al 0) (z_ri_seq (z_ot_callv _ z_hbV _ _ _) (z_ri_seq (z_ot_al 0) (z_ri_seq (z_ot_callv _ z_hbV _ _ _) (z_ri_seq (z_ot_ic 0) (z_ri_seq (z_ot_is 2) (z_ri_go 1)))))))))))))))))))))
theorem zrib_X12_tell_17 (Λ : Int → Int) : z_RI (zt_X12_tell_17 Λ) := z_ri_seq (z_ot_ic (-2)) (z_ri_iret)
theorem zrib_X12_tell_9 (Λ : Int → Int) : z_RI (zt_X12_tell_9 Λ) := z_ri_seq (z_ot_il 1) (z_ri_seq (z_ot_al 0) (z_ri_seq (z_ot_getI 12 1) (z_ri_icmple (zrib_X12_tell_20 Λ) (zrib_X12_tell_17 Λ))))
theorem zrib_X12_tell_0 (Λ : Int → Int) : z_RI (zt_X12_tell_0 Λ) := z_ri_seq (z_ot_al 0) (z_ri_seq (z_ot_ic 0) (z_ri_seq (z_ot_putI 12 2) (z_ri_seq (z_ot_il 1) (z_ri_iflt (zrib_X12_tell_17 Λ) (zrib_X12_tell_9 Λ)))))
theorem zril_X12_tell (Λ : Int → Int) (l : Nat) : z_RI (zcd_X12_tell Λ l) := match l with
  | 0 => zrib_X12_tell_0 Λ
  | 1 => zrib_X12_tell_55 Λ
  | _ + 2 => z_ri_bad
theorem zsh_X12_tell {as : List zV} {M : zM} {r : List zV} {M2 : zM} (h : zm_X12_tell zLa as M = some (r, M2)) : ∃ v, r = [zI v] := z_ri_me ztl_X12_tell zril_X12_tell h
theorem zrib_X12_fault_29 (Λ : Int → Int) : z_RI (zt_X12_fault_29 Λ) := z_ri_iret
theorem zrib_X12_fault_28 (Λ : Int → Int) : z_RI (zt_X12_fault_28 Λ) := z_ri_seq (z_ot_ic (-1)) (zrib_X12_fault_29 Λ)
theorem zrib_X12_fault_21 (Λ : Int → Int) : z_RI (zt_X12_fault_21 Λ) := z_ri_seq (z_ot_al 0) (z_ri_seq (z_ot_getI 12 5) (zrib_X12_fault_29 Λ))
theorem zrib_X12_fault_16 (Λ : Int → Int) : z_RI (zt_X12_fault_16 Λ) := z_ri_seq (z_ot_il 1) (z_ri_seq (z_ot_ic 1) (z_ri_icmpeq (zrib_X12_fault_21 Λ) (zrib_X12_fault_28 Λ)))
theorem zrib_X12_fault_9 (Λ : Int → Int) : z_RI (zt_X12_fault_9 Λ) := z_ri_seq (z_ot_al 0) (z_ri_seq (z_ot_getI 12 4) (zrib_X12_fault_29 Λ))
theorem zrib_X12_fault_0 (Λ : Int → Int) : z_RI (zt_X12_fault_0 Λ) := z_ri_seq (z_ot_al 0) (z_ri_seq (z_ot_ic 0) (z_ri_seq (z_ot_putI 12 2) (z_ri_seq (z_ot_il 1) (z_ri_ifeq (zrib_X12_fault_9 Λ) (zrib_X12_fault_16 Λ)))))
theorem zril_X12_fault (Λ : Int → Int) (l : Nat) : z_RI (zcd_X12_fault Λ l) := match l with
  | 0 => zrib_X12_fault_0 Λ
  | _ + 1 => z_ri_bad
theorem zsh_X12_fault {as : List zV} {M : zM} {r : List zV} {M2 : zM} (h : zm_X12_fault zLa as M = some (r, M2)) : ∃ v, r = [zI v] := z_ri_me ztl_X12_fault zril_X12_fault h
theorem zrib_X12_named_49 (Λ : Int → Int) : z_RI (zt_X12_named_49 Λ) := z_ri_iret
theorem zrib_X12_named_48 (Λ : Int → Int) : z_RI (zt_X12_named_48 Λ) := z_ri_seq (z_ot_ic (-1)) (zrib_X12_named_49 Λ)
theorem zrib_X12_named_31 (Λ : Int → Int) : z_RI (zt_X12_named_31 Λ) := z_ri_seq (z_ot_al 0) (z_ri_seq (z_ot_al 0) (z_ri_seq (z_ot_getA 12 26 13) (z_ri_seq (z_ot_ic 0) (z_ri_seq (z_ot_al 0) (z_ri_seq (z_ot_getI 12 12) (z_ri_seq (z_ot_il 2) (z_ri_seq (z_ot_callv _ z_hbI _ _ _) (zrib_X12_named_49 Λ))))))))
theorem zrib_X12_named_26 (Λ : Int → Int) : z_RI (zt_X12_named_26 Λ) := z_ri_seq (z_ot_il 1) (z_ri_seq (z_ot_ic 1) (z_ri_icmpeq (zrib_X12_named_31 Λ) (zrib_X12_named_48 Λ)))
theorem zrib_X12_named_9 (Λ : Int → Int) : z_RI (zt_X12_named_9 Λ) := z_ri_seq (z_ot_al 0) (z_ri_seq (z_ot_al 0) (z_ri_seq (z_ot_getA 12 21 13) (z_ri_seq (z_ot_ic 0) (z_ri_seq (z_ot_al 0) (z_ri_seq (z_ot_getI 12 11) (z_ri_seq (z_ot_il 2) (z_ri_seq (z_ot_callv _ z_hbI _ _ _) (zrib_X12_named_49 Λ))))))))
theorem zrib_X12_named_0 (Λ : Int → Int) : z_RI (zt_X12_named_0 Λ) := z_ri_seq (z_ot_al 0) (z_ri_seq (z_ot_ic 0) (z_ri_seq (z_ot_putI 12 2) (z_ri_seq (z_ot_il 1) (z_ri_ifeq (zrib_X12_named_9 Λ) (zrib_X12_named_26 Λ)))))
theorem zril_X12_named (Λ : Int → Int) (l : Nat) : z_RI (zcd_X12_named Λ l) := match l with
  | 0 => zrib_X12_named_0 Λ
  | _ + 1 => z_ri_bad
theorem zsh_X12_named {as : List zV} {M : zM} {r : List zV} {M2 : zM} (h : zm_X12_named zLa as M = some (r, M2)) : ∃ v, r = [zI v] := z_ri_me ztl_X12_named zril_X12_named h
theorem zrib_X12_teller_76 (Λ : Int → Int) : z_RI (zt_X12_teller_76 Λ) := z_ri_seq (z_ot_ic (-1)) (z_ri_iret)
theorem zrib_X12_teller_69 (Λ : Int → Int) : z_RI (zt_X12_teller_69 Λ) := z_ri_seq (z_ot_al 0) (z_ri_seq (z_ot_getA 12 30 13) (z_ri_seq (z_ot_il 1) (z_ri_seq (z_ot_ald 13 _) (z_ri_iret))))
theorem zrib_X12_teller_62 (Λ : Int → Int) : z_RI (zt_X12_teller_62 Λ) := z_ri_seq (z_ot_al 0) (z_ri_seq (z_ot_getA 12 29 13) (z_ri_seq (z_ot_il 1) (z_ri_seq (z_ot_ald 13 _) (z_ri_iret))))
theorem zrib_X12_teller_55 (Λ : Int → Int) : z_RI (zt_X12_teller_55 Λ) := z_ri_seq (z_ot_al 0) (z_ri_seq (z_ot_getA 12 28 13) (z_ri_seq (z_ot_il 1) (z_ri_seq (z_ot_ald 13 _) (z_ri_iret))))
theorem zrib_X12_teller_48 (Λ : Int → Int) : z_RI (zt_X12_teller_48 Λ) := z_ri_seq (z_ot_al 0) (z_ri_seq (z_ot_getA 12 27 13) (z_ri_seq (z_ot_il 1) (z_ri_seq (z_ot_ald 13 _) (z_ri_iret))))
theorem zrib_X12_teller_15 (Λ : Int → Int) : z_RI (zt_X12_teller_15 Λ) := z_ri_seq (z_ot_il 2) (z_ri_sw (z_ri_c (zrib_X12_teller_48 Λ) (z_ri_c (zrib_X12_teller_55 Λ) (z_ri_c (zrib_X12_teller_62 Λ) (z_ri_c (zrib_X12_teller_69 Λ) (z_ri_n))))) (zrib_X12_teller_76 Λ))
theorem zrib_X12_teller_13 (Λ : Int → Int) : z_RI (zt_X12_teller_13 Λ) := z_ri_seq (z_ot_ic (-1)) (z_ri_iret)
theorem zrib_X12_teller_0 (Λ : Int → Int) : z_RI (zt_X12_teller_0 Λ) := z_ri_seq (z_ot_al 0) (z_ri_seq (z_ot_ic 0) (z_ri_seq (z_ot_putI 12 2) (z_ri_seq (z_ot_al 0) (z_ri_seq (z_ot_il 1) (z_ri_seq (z_ot_callv _ z_hbI _ _ _) (z_ri_ifeq (zrib_X12_teller_13 Λ) (zrib_X12_teller_15 Λ)))))))
theorem zril_X12_teller (Λ : Int → Int) (l : Nat) : z_RI (zcd_X12_teller Λ l) := match l with
  | 0 => zrib_X12_teller_0 Λ
  | _ + 1 => z_ri_bad
theorem zsh_X12_teller {as : List zV} {M : zM} {r : List zV} {M2 : zM} (h : zm_X12_teller zLa as M = some (r, M2)) : ∃ v, r = [zI v] := z_ri_me ztl_X12_teller zril_X12_teller h
theorem zrib_X12_line_95 (Λ : Int → Int) : z_RI (zt_X12_line_95 Λ) := z_ri_seq (z_ot_ic (-2)) (z_ri_iret)
theorem zrib_X12_line_88 (Λ : Int → Int) : z_RI (zt_X12_line_88 Λ) := z_ri_seq (z_ot_al 0) (z_ri_seq (z_ot_getA 12 35 13) (z_ri_seq (z_ot_il 1) (z_ri_seq (z_ot_ald 13 _) (z_ri_iret))))
theorem zrib_X12_line_81 (Λ : Int → Int) : z_RI (zt_X12_line_81 Λ) := z_ri_seq (z_ot_al 0) (z_ri_seq (z_ot_getA 12 34 13) (z_ri_seq (z_ot_il 1) (z_ri_seq (z_ot_ald 13 _) (z_ri_iret))))
theorem zrib_X12_line_74 (Λ : Int → Int) : z_RI (zt_X12_line_74 Λ) := z_ri_seq (z_ot_al 0) (z_ri_seq (z_ot_getA 12 33 13) (z_ri_seq (z_ot_il 1) (z_ri_seq (z_ot_ald 13 _) (z_ri_iret))))
theorem zrib_X12_line_67 (Λ : Int → Int) : z_RI (zt_X12_line_67 Λ) := z_ri_seq (z_ot_al 0) (z_ri_seq (z_ot_getA 12 32 13) (z_ri_seq (z_ot_il 1) (z_ri_seq (z_ot_ald 13 _) (z_ri_iret))))
theorem zrib_X12_line_66 (Λ : Int → Int) : z_RI (zt_X12_line_66 Λ) := z_ri_iret
theorem zrib_X12_line_65 (Λ : Int → Int) : z_RI (zt_X12_line_65 Λ) := z_ri_seq (z_ot_ic 0) (zrib_X12_line_66 Λ)
theorem zrib_X12_line_61 (Λ : Int → Int) : z_RI (zt_X12_line_61 Λ) := z_ri_seq (z_ot_ic 1) (zrib_X12_line_66 Λ)
theorem zrib_X12_line_52 (Λ : Int → Int) : z_RI (zt_X12_line_52 Λ) := z_ri_seq (z_ot_al 0) (z_ri_seq (z_ot_getA 12 31 14) (z_ri_seq (z_ot_il 1) (z_ri_seq (z_ot_ald 14 _) (z_ri_ifeq (zrib_X12_line_65 Λ) (zrib_X12_line_61 Λ)))))
theorem zrib_X12_line_16 (Λ : Int → Int) : z_RI (zt_X12_line_16 Λ) := z_ri_seq (z_ot_il 2) (z_ri_sw (z_ri_c (zrib_X12_line_52 Λ) (z_ri_c (zrib_X12_line_67 Λ) (z_ri_c (zrib_X12_line_74 Λ) (z_ri_c (zrib_X12_line_81 Λ) (z_ri_c (zrib_X12_line_88 Λ) (z_ri_n)))))) (zrib_X12_line_95 Λ))
theorem zrib_X12_line_13 (Λ : Int → Int) : z_RI (zt_X12_line_13 Λ) := z_ri_seq (z_ot_ic (-2)) (z_ri_iret)
theorem zrib_X12_line_0 (Λ : Int → Int) : z_RI (zt_X12_line_0 Λ) := z_ri_seq (z_ot_al 0) (z_ri_seq (z_ot_ic 0) (z_ri_seq (z_ot_putI 12 2) (z_ri_seq (z_ot_al 0) (z_ri_seq (z_ot_il 1) (z_ri_seq (z_ot_callv _ z_hbI _ _ _) (z_ri_ifeq (zrib_X12_line_13 Λ) (zrib_X12_line_16 Λ)))))))
theorem zril_X12_line (Λ : Int → Int) (l : Nat) : z_RI (zcd_X12_line Λ l) := match l with
  | 0 => zrib_X12_line_0 Λ
  | _ + 1 => z_ri_bad
theorem zsh_X12_line {as : List zV} {M : zM} {r : List zV} {M2 : zM} (h : zm_X12_line zLa as M = some (r, M2)) : ∃ v, r = [zI v] := z_ri_me ztl_X12_line zril_X12_line h
theorem zrib_X12_say_95 (Λ : Int → Int) : z_RI (zt_X12_say_95 Λ) := z_ri_seq (z_ot_al 0) (z_ri_seq (z_ot_getA 12 31 14) (z_ri_seq (z_ot_al 0) (z_ri_seq (z_ot_getI 12 13) (z_ri_seq (z_ot_il 1) (z_ri_seq (z_ot_zst _) (z_ri_seq (z_ot_al 0) (z_ri_seq (z_ot_getA 12 32 13) (z_ri_seq (z_ot_al 0) (z_ri_seq (z_ot_getI 12 13) (z_ri_seq (z_ot_il 2) (z_ri_seq (z_ot_ast _) (z_ri_seq (z_ot_al 0) (z_ri_seq (z_ot_getA 12 33 13) (z_ri_seq (z_ot_al 0) (z_ri_seq (z_ot_getI 12 13) (z_ri_seq (z_ot_il 3) (z_ri_seq (z_ot_ast _) (z_ri_seq (z_ot_al 0) (z_ri_seq (z_ot_getA 12 34 13) (z_ri_seq (z_ot_al 0) (z_ri_seq (z_ot_getI 12 13) (z_ri_seq (z_ot_il 4) (z_ri_seq (z_ot_ast _) (z_ri_seq (z_ot_al 0) (z_ri_seq (z_ot_getA 12 35 13) (z_ri_seq (z_ot_al 0) (z_ri_seq (z_ot_getI 12 13) (z_ri_seq (z_ot_il 5) (z_ri_seq (z_ot_ast _) (z_ri_seq (z_ot_al 0) (z_ri_seq (z_ot_dup) (z_ri_seq (z_ot_getI 12 13) (z_ri_seq (z_ot_ic 1) (z_ri_seq (z_ot_i2 _) (z_ri_seq (z_ot_putI 12 13) (z_ri_seq (z_ot_al 0) (z_ri_seq (z_ot_dup) (z_ri_seq (z_ot_getI 12 44) (z_ri_seq (z_ot_ic 1) (z_ri_seq (z_ot_i2 _) (z_ri_seq (z_ot_putI 12 44) (z_ri_seq (z_ot_al 0) (z_ri_seq (z_ot_getI 12 13) (z_ri_seq (z_ot_ic 1) (z_ri_seq (z_ot_i2 _) (z_ri_iret))))))))))))))))))))))))))))))))))))))))))))))
theorem zrib_X12_say_93 (Λ : Int → Int) : z_RI (zt_X12_say_93 Λ) := z_ri_seq (z_ot_ic (-1)) (z_ri_iret)
theorem zrib_X12_say_90 (Λ : Int → Int) : z_RI (zt_X12_say_90 Λ) := z_ri_icmplt (zrib_X12_say_93 Λ) (zrib_X12_say_95 Λ)
theorem zrib_X12_say_89 (Λ : Int → Int) : z_RI (zt_X12_say_89 Λ) := z_ri_seq (z_ot_ic (-1)) (z_ri_go 1)
theorem zrib_X12_say_85 (Λ : Int → Int) : z_RI (zt_X12_say_85 Λ) := z_ri_seq (z_ot_ic 0) (z_ri_go 1)
theorem zrib_X12_say_79 (Λ : Int → Int) : z_RI (zt_X12_say_79 Λ) := z_ri_seq (z_ot_il 5) (z_ri_seq (z_ot_il 1) (z_ri_ifeq (zrib_X12_say_89 Λ) (zrib_X12_say_85 Λ)))
theorem zrib_X12_say_67 (Λ : Int → Int) : z_RI (zt_X12_say_67 Λ) := z_ri_seq (z_ot_il 5) (z_ri_seq (z_ot_al 0) (z_ri_seq (z_ot_getA 12 22 13) (z_ri_seq (z_ot_il 4) (z_ri_seq (z_ot_ald 13 _) (z_ri_icmplt (zrib_X12_say_79 Λ) (zrib_X12_say_93 Λ))))))
theorem zrib_X12_say_65 (Λ : Int → Int) : z_RI (zt_X12_say_65 Λ) := z_ri_seq (z_ot_ic (-1)) (z_ri_iret)
theorem zrib_X12_say_51 (Λ : Int → Int) : z_RI (zt_X12_say_51 Λ) := z_ri_seq (z_ot_il 3) (z_ri_seq (z_ot_al 0) (z_ri_seq (z_ot_ic 0) (z_ri_seq (z_ot_al 0) (z_ri_seq (z_ot_getI 12 13) (z_ri_seq (z_ot_il 2) (z_ri_seq (z_ot_callv _ z_hbI _ _ _) (z_ri_icmplt (zrib_X12_say_65 Λ) (zrib_X12_say_67 Λ))))))))
theorem zrib_X12_say_41 (Λ : Int → Int) : z_RI (zt_X12_say_41 Λ) := z_ri_seq (z_ot_il 3) (z_ri_seq (z_ot_al 0) (z_ri_seq (z_ot_getA 12 29 13) (z_ri_seq (z_ot_il 2) (z_ri_seq (z_ot_ald 13 _) (z_ri_icmple (zrib_X12_say_51 Λ) (zrib_X12_say_65 Λ))))))
theorem zrib_X12_say_31 (Λ : Int → Int) : z_RI (zt_X12_say_31 Λ) := z_ri_seq (z_ot_il 3) (z_ri_seq (z_ot_al 0) (z_ri_seq (z_ot_getA 12 28 13) (z_ri_seq (z_ot_il 2) (z_ri_seq (z_ot_ald 13 _) (z_ri_icmplt (zrib_X12_say_65 Λ) (zrib_X12_say_41 Λ))))))
theorem zrib_X12_say_22 (Λ : Int → Int) : z_RI (zt_X12_say_22 Λ) := z_ri_seq (z_ot_al 0) (z_ri_seq (z_ot_il 4) (z_ri_seq (z_ot_callv _ z_hbI _ _ _) (z_ri_ifeq (zrib_X12_say_65 Λ) (zrib_X12_say_31 Λ))))
theorem zrib_X12_say_14 (Λ : Int → Int) : z_RI (zt_X12_say_14 Λ) := z_ri_seq (z_ot_al 0) (z_ri_seq (z_ot_il 2) (z_ri_seq (z_ot_callv _ z_hbI _ _ _) (z_ri_ifeq (zrib_X12_say_65 Λ) (zrib_X12_say_22 Λ))))
theorem zrib_X12_say_0 (Λ : Int → Int) : z_RI (zt_X12_say_0 Λ) := z_ri_seq (z_ot_al 0) (z_ri_seq (z_ot_ic 0) (z_ri_seq (z_ot_putI 12 2) (z_ri_seq (z_ot_al 0) (z_ri_seq (z_ot_getI 12 13) (z_ri_seq (z_ot_ic 60) (z_ri_icmpeq (zrib_X12_say_65 Λ) (zrib_X12_say_14 Λ)))))))
theorem zril_X12_say (Λ : Int → Int) (l : Nat) : z_RI (zcd_X12_say Λ l) := match l with
  | 0 => zrib_X12_say_0 Λ
  | 1 => zrib_X12_say_90 Λ
  | _ + 2 => z_ri_bad
theorem zsh_X12_say {as : List zV} {M : zM} {r : List zV} {M2 : zM} (h : zm_X12_say zLa as M = some (r, M2)) : ∃ v, r = [zI v] := z_ri_me ztl_X12_say zril_X12_say h
theorem zrib_X12_undo_14 (Λ : Int → Int) : z_RI (zt_X12_undo_14 Λ) := z_ri_seq (z_ot_al 0) (z_ri_seq (z_ot_dup) (z_ri_seq (z_ot_getI 12 44) (z_ri_seq (z_ot_ic 1) (z_ri_seq (z_ot_i2 _) (z_ri_seq (z_ot_putI 12 44) (z_ri_seq (z_ot_al 0) (z_ri_seq (z_ot_dup) (z_ri_seq (z_ot_getI 12 13) (z_ri_seq (z_ot_ic 1) (z_ri_seq (z_ot_i2 _) (z_ri_seq (z_ot_putI 12 13) (z_ri_seq (z_ot_al 0) (z_ri_seq (z_ot_getI 12 44) (z_ri_iret))))))))))))))
theorem zrib_X12_undo_12 (Λ : Int → Int) : z_RI (zt_X12_undo_12 Λ) := z_ri_seq (z_ot_ic (-1)) (z_ri_iret)
theorem zrib_X12_undo_0 (Λ : Int → Int) : z_RI (zt_X12_undo_0 Λ) := z_ri_seq (z_ot_al 0) (z_ri_seq (z_ot_ic 0) (z_ri_seq (z_ot_putI 12 2) (z_ri_seq (z_ot_al 0) (z_ri_seq (z_ot_getI 12 44) (z_ri_ifeq (zrib_X12_undo_12 Λ) (zrib_X12_undo_14 Λ))))))
theorem zril_X12_undo (Λ : Int → Int) (l : Nat) : z_RI (zcd_X12_undo Λ l) := match l with
  | 0 => zrib_X12_undo_0 Λ
  | _ + 1 => z_ri_bad
theorem zsh_X12_undo {as : List zV} {M : zM} {r : List zV} {M2 : zM} (h : zm_X12_undo zLa as M = some (r, M2)) : ∃ v, r = [zI v] := z_ri_me ztl_X12_undo zril_X12_undo h
theorem zrib_X12_hear_18 (Λ : Int → Int) : z_RI (zt_X12_hear_18 Λ) := z_ri_seq (z_ot_al 0) (z_ri_seq (z_ot_il 1) (z_ri_seq (z_ot_putI 12 45) (z_ri_seq (z_ot_al 0) (z_ri_seq (z_ot_callv _ z_hbI _ _ _) (z_ri_iret)))))
theorem zrib_X12_hear_16 (Λ : Int → Int) : z_RI (zt_X12_hear_16 Λ) := z_ri_seq (z_ot_ic (-1)) (z_ri_iret)
theorem zrib_X12_hear_0 (Λ : Int → Int) : z_RI (zt_X12_hear_0 Λ) := z_ri_seq (z_ot_al 0) (z_ri_seq (z_ot_ic 0) (z_ri_seq (z_ot_putI 12 2) (z_ri_seq (z_ot_il 1) (z_ri_seq (z_ot_ic 0) (z_ri_seq (z_ot_ic 199) (z_ri_seq (z_ot_call _ z_hbI _ _) (z_ri_ifeq (zrib_X12_hear_16 Λ) (zrib_X12_hear_18 Λ))))))))
theorem zril_X12_hear (Λ : Int → Int) (l : Nat) : z_RI (zcd_X12_hear Λ l) := match l with
  | 0 => zrib_X12_hear_0 Λ
  | _ + 1 => z_ri_bad
theorem zsh_X12_hear {as : List zV} {M : zM} {r : List zV} {M2 : zM} (h : zm_X12_hear zLa as M = some (r, M2)) : ∃ v, r = [zI v] := z_ri_me ztl_X12_hear zril_X12_hear h
theorem zrib_X12_word_22 (Λ : Int → Int) : z_RI (zt_X12_word_22 Λ) := z_ri_iret
theorem zrib_X12_word_21 (Λ : Int → Int) : z_RI (zt_X12_word_21 Λ) := z_ri_seq (z_ot_ic (-1)) (zrib_X12_word_22 Λ)
theorem zrib_X12_word_13 (Λ : Int → Int) : z_RI (zt_X12_word_13 Λ) := z_ri_seq (z_ot_al 0) (z_ri_seq (z_ot_il 1) (z_ri_seq (z_ot_callv _ z_hbI _ _ _) (zrib_X12_word_22 Λ)))
theorem zrib_X12_word_0 (Λ : Int → Int) : z_RI (zt_X12_word_0 Λ) := z_ri_seq (z_ot_al 0) (z_ri_seq (z_ot_ic 0) (z_ri_seq (z_ot_putI 12 2) (z_ri_seq (z_ot_al 0) (z_ri_seq (z_ot_il 1) (z_ri_seq (z_ot_callv _ z_hbI _ _ _) (z_ri_ifeq (zrib_X12_word_21 Λ) (zrib_X12_word_13 Λ)))))))
theorem zril_X12_word (Λ : Int → Int) (l : Nat) : z_RI (zcd_X12_word Λ l) := match l with
  | 0 => zrib_X12_word_0 Λ
  | _ + 1 => z_ri_bad
theorem zsh_X12_word {as : List zV} {M : zM} {r : List zV} {M2 : zM} (h : zm_X12_word zLa as M = some (r, M2)) : ∃ v, r = [zI v] := z_ri_me ztl_X12_word zril_X12_word h
theorem zrib_X12_led_22 (Λ : Int → Int) : z_RI (zt_X12_led_22 Λ) := z_ri_iret
theorem zrib_X12_led_21 (Λ : Int → Int) : z_RI (zt_X12_led_21 Λ) := z_ri_seq (z_ot_ic (-1)) (zrib_X12_led_22 Λ)
theorem zrib_X12_led_13 (Λ : Int → Int) : z_RI (zt_X12_led_13 Λ) := z_ri_seq (z_ot_al 0) (z_ri_seq (z_ot_il 1) (z_ri_seq (z_ot_callv _ z_hbI _ _ _) (zrib_X12_led_22 Λ)))
theorem zrib_X12_led_0 (Λ : Int → Int) : z_RI (zt_X12_led_0 Λ) := z_ri_seq (z_ot_al 0) (z_ri_seq (z_ot_ic 0) (z_ri_seq (z_ot_putI 12 2) (z_ri_seq (z_ot_al 0) (z_ri_seq (z_ot_il 1) (z_ri_seq (z_ot_callv _ z_hbI _ _ _) (z_ri_ifeq (zrib_X12_led_21 Λ) (zrib_X12_led_13 Λ)))))))
theorem zril_X12_led (Λ : Int → Int) (l : Nat) : z_RI (zcd_X12_led Λ l) := match l with
  | 0 => zrib_X12_led_0 Λ
  | _ + 1 => z_ri_bad
theorem zsh_X12_led {as : List zV} {M : zM} {r : List zV} {M2 : zM} (h : zm_X12_led zLa as M = some (r, M2)) : ∃ v, r = [zI v] := z_ri_me ztl_X12_led zril_X12_led h
theorem zrib_X12_words_85 (Λ : Int → Int) : z_RI (zt_X12_words_85 Λ) := z_ri_seq (z_ot_il 3) (z_ri_iret)
theorem zrib_X12_words_77 (Λ : Int → Int) : z_RI (zt_X12_words_77 Λ) := z_ri_seq (z_ot_i2 _) (z_ri_seq (z_ot_is 3) (z_ri_seq (z_ot_inc 4 1) (z_ri_go 1)))
theorem zrib_X12_words_76 (Λ : Int → Int) : z_RI (zt_X12_words_76 Λ) := z_ri_seq (z_ot_ic 0) (zrib_X12_words_77 Λ)
theorem zrib_X12_words_72 (Λ : Int → Int) : z_RI (zt_X12_words_72 Λ) := z_ri_seq (z_ot_ic 1) (zrib_X12_words_77 Λ)
theorem zrib_X12_words_60 (Λ : Int → Int) : z_RI (zt_X12_words_60 Λ) := z_ri_seq (z_ot_al 0) (z_ri_seq (z_ot_il 4) (z_ri_seq (z_ot_callv _ z_hbI _ _ _) (z_ri_seq (z_ot_il 2) (z_ri_seq (z_ot_i2 _) (z_ri_seq (z_ot_il 2) (z_ri_icmpeq (zrib_X12_words_72 Λ) (zrib_X12_words_76 Λ)))))))
theorem zrib_X12_words_49 (Λ : Int → Int) : z_RI (zt_X12_words_49 Λ) := z_ri_seq (z_ot_al 0) (z_ri_seq (z_ot_getA 12 32 13) (z_ri_seq (z_ot_il 4) (z_ri_seq (z_ot_ald 13 _) (z_ri_seq (z_ot_il 1) (z_ri_icmpeq (zrib_X12_words_60 Λ) (zrib_X12_words_76 Λ))))))
theorem zrib_X12_words_39 (Λ : Int → Int) : z_RI (zt_X12_words_39 Λ) := z_ri_seq (z_ot_il 3) (z_ri_seq (z_ot_al 0) (z_ri_seq (z_ot_il 4) (z_ri_seq (z_ot_callv _ z_hbI _ _ _) (z_ri_ifeq (zrib_X12_words_76 Λ) (zrib_X12_words_49 Λ)))))
theorem zrib_X12_words_30 (Λ : Int → Int) : z_RI (zt_X12_words_30 Λ) := z_ri_seq (z_ot_il 4) (z_ri_seq (z_ot_al 0) (z_ri_seq (z_ot_getI 12 13) (z_ri_icmplt (zrib_X12_words_39 Λ) (zrib_X12_words_85 Λ))))
theorem zrib_X12_words_25 (Λ : Int → Int) : z_RI (zt_X12_words_25 Λ) := z_ri_seq (z_ot_ic 0) (z_ri_seq (z_ot_is 3) (z_ri_seq (z_ot_ic 0) (z_ri_seq (z_ot_is 4) (z_ri_go 1))))
theorem zrib_X12_words_23 (Λ : Int → Int) : z_RI (zt_X12_words_23 Λ) := z_ri_seq (z_ot_ic (-1)) (z_ri_iret)
theorem zrib_X12_words_13 (Λ : Int → Int) : z_RI (zt_X12_words_13 Λ) := z_ri_seq (z_ot_il 2) (z_ri_seq (z_ot_ic 1) (z_ri_seq (z_ot_ic 127) (z_ri_seq (z_ot_call _ z_hbI _ _) (z_ri_ifeq (zrib_X12_words_23 Λ) (zrib_X12_words_25 Λ)))))
theorem zrib_X12_words_0 (Λ : Int → Int) : z_RI (zt_X12_words_0 Λ) := z_ri_seq (z_ot_al 0) (z_ri_seq (z_ot_ic 0) (z_ri_seq (z_ot_putI 12 2) (z_ri_seq (z_ot_al 0) (z_ri_seq (z_ot_il 1) (z_ri_seq (z_ot_callv _ z_hbI _ _ _) (z_ri_ifeq (zrib_X12_words_23 Λ) (zrib_X12_words_13 Λ)))))))
theorem zril_X12_words (Λ : Int → Int) (l : Nat) : z_RI (zcd_X12_words Λ l) := match l with
  | 0 => zrib_X12_words_0 Λ
  | 1 => zrib_X12_words_30 Λ
  | _ + 2 => z_ri_bad
theorem zsh_X12_words {as : List zV} {M : zM} {r : List zV} {M2 : zM} (h : zm_X12_words zLa as M = some (r, M2)) : ∃ v, r = [zI v] := z_ri_me ztl_X12_words zril_X12_words h
theorem zrib_X12_truth_17 (Λ : Int → Int) : z_RI (zt_X12_truth_17 Λ) := z_ri_seq (z_ot_al 0) (z_ri_seq (z_ot_il 1) (z_ri_seq (z_ot_putI 12 47) (z_ri_seq (z_ot_ic 1) (z_ri_zret))))
theorem zrib_X12_truth_15 (Λ : Int → Int) : z_RI (zt_X12_truth_15 Λ) := z_ri_seq (z_ot_ic 0) (z_ri_zret)
theorem zrib_X12_truth_0 (Λ : Int → Int) : z_RI (zt_X12_truth_0 Λ) := z_ri_seq (z_ot_al 0) (z_ri_seq (z_ot_ic 0) (z_ri_seq (z_ot_putI 12 2) (z_ri_seq (z_ot_il 1) (z_ri_seq (z_ot_ic 1) (z_ri_seq (z_ot_ic 9) (z_ri_seq (z_ot_call _ z_hbI _ _) (z_ri_ifeq (zrib_X12_truth_15 Λ) (zrib_X12_truth_17 Λ))))))))
theorem zril_X12_truth (Λ : Int → Int) (l : Nat) : z_RI (zcd_X12_truth Λ l) := match l with
  | 0 => zrib_X12_truth_0 Λ
  | _ + 1 => z_ri_bad
theorem zsh_X12_truth {as : List zV} {M : zM} {r : List zV} {M2 : zM} (h : zm_X12_truth zLa as M = some (r, M2)) : ∃ v, r = [zI v] := z_ri_me ztl_X12_truth zril_X12_truth h
theorem zrib_X12_begin_27 (Λ : Int → Int) : z_RI (zt_X12_begin_27 Λ) := z_ri_seq (z_ot_al 0) (z_ri_seq (z_ot_il 1) (z_ri_seq (z_ot_putI 12 48) (z_ri_seq (z_ot_al 0) (z_ri_seq (z_ot_il 2) (z_ri_seq (z_ot_putI 12 49) (z_ri_seq (z_ot_ic 1) (z_ri_zret)))))))
theorem zrib_X12_begin_25 (Λ : Int → Int) : z_RI (zt_X12_begin_25 Λ) := z_ri_seq (z_ot_ic 0) (z_ri_zret)
theorem zrib_X12_begin_15 (Λ : Int → Int) : z_RI (zt_X12_begin_15 Λ) := z_ri_seq (z_ot_il 2) (z_ri_seq (z_ot_ic 1) (z_ri_seq (z_ot_ic 99) (z_ri_seq (z_ot_call _ z_hbI _ _) (z_ri_ifeq (zrib_X12_begin_25 Λ) (zrib_X12_begin_27 Λ)))))
theorem zrib_X12_begin_0 (Λ : Int → Int) : z_RI (zt_X12_begin_0 Λ) := z_ri_seq (z_ot_al 0) (z_ri_seq (z_ot_ic 0) (z_ri_seq (z_ot_putI 12 2) (z_ri_seq (z_ot_il 1) (z_ri_seq (z_ot_ic 1) (z_ri_seq (z_ot_ic 99) (z_ri_seq (z_ot_call _ z_hbI _ _) (z_ri_ifeq (zrib_X12_begin_25 Λ) (zrib_X12_begin_15 Λ))))))))
theorem zril_X12_begin (Λ : Int → Int) (l : Nat) : z_RI (zcd_X12_begin Λ l) := match l with
  | 0 => zrib_X12_begin_0 Λ
  | _ + 1 => z_ri_bad
theorem zsh_X12_begin {as : List zV} {M : zM} {r : List zV} {M2 : zM} (h : zm_X12_begin zLa as M = some (r, M2)) : ∃ v, r = [zI v] := z_ri_me ztl_X12_begin zril_X12_begin h
theorem zrjb_X12_odds_244 (Λ : Int → Int) : z_RJ (zt_X12_odds_244 Λ) := z_rj_lret
theorem zrjb_X12_odds_240 (Λ : Int → Int) : z_RJ (zt_X12_odds_240 Λ) := z_rj_seq (z_ot_al 0) (z_rj_seq (z_ot_getJ 12 59) (zrjb_X12_odds_244 Λ))
theorem zrjb_X12_odds_233 (Λ : Int → Int) : z_RJ (zt_X12_odds_233 Λ) := z_rj_seq (z_ot_al 0) (z_rj_seq (z_ot_getJ 12 58) (zrjb_X12_odds_244 Λ))
theorem zrjb_X12_odds_229 (Λ : Int → Int) : z_RJ (zt_X12_odds_229 Λ) := z_rj_seq (z_ot_il 3) (z_rj_ifeq (zrjb_X12_odds_233 Λ) (zrjb_X12_odds_240 Λ))
theorem zrjb_X12_odds_223 (Λ : Int → Int) : z_RJ (zt_X12_odds_223 Λ) := z_rj_seq (z_ot_inc 4 1) (z_rj_go 2)
theorem zrjb_X12_odds_206 (Λ : Int → Int) : z_RJ (zt_X12_odds_206 Λ) := z_rj_seq (z_ot_al 0) (z_rj_seq (z_ot_al 0) (z_rj_seq (z_ot_getA 12 34 13) (z_rj_seq (z_ot_il 4) (z_rj_seq (z_ot_ald 13 _) (z_rj_seq (z_ot_al 0) (z_rj_seq (z_ot_il 4) (z_rj_seq (z_ot_callv _ z_hbI _ _ _) (z_rj_seq (z_ot_callv _ z_hbV _ _ _) (zrjb_X12_odds_223 Λ)))))))))
theorem zrjb_X12_odds_198 (Λ : Int → Int) : z_RJ (zt_X12_odds_198 Λ) := z_rj_seq (z_ot_il 5) (z_rj_seq (z_ot_ic 16) (z_rj_seq (z_ot_i2 _) (z_rj_ifeq (zrjb_X12_odds_206 Λ) (zrjb_X12_odds_223 Λ))))
theorem zrjb_X12_odds_193 (Λ : Int → Int) : z_RJ (zt_X12_odds_193 Λ) := z_rj_seq (z_ot_il 2) (z_rj_seq (z_ot_ic 1) (z_rj_icmpeq (zrjb_X12_odds_206 Λ) (zrjb_X12_odds_198 Λ)))
theorem zrjb_X12_odds_176 (Λ : Int → Int) : z_RJ (zt_X12_odds_176 Λ) := z_rj_seq (z_ot_al 0) (z_rj_seq (z_ot_il 4) (z_rj_seq (z_ot_callv _ z_hbI _ _ _) (z_rj_seq (z_ot_is 5) (z_rj_seq (z_ot_il 5) (z_rj_seq (z_ot_ic 14) (z_rj_seq (z_ot_i2 _) (z_rj_seq (z_ot_ic 2) (z_rj_icmpeq (zrjb_X12_odds_193 Λ) (zrjb_X12_odds_223 Λ)))))))))
theorem zrjb_X12_odds_173 (Λ : Int → Int) : z_RJ (zt_X12_odds_173 Λ) := zrjb_X12_odds_223 Λ
theorem zrjb_X12_odds_162 (Λ : Int → Int) : z_RJ (zt_X12_odds_162 Λ) := z_rj_seq (z_ot_al 0) (z_rj_seq (z_ot_getA 12 32 13) (z_rj_seq (z_ot_il 4) (z_rj_seq (z_ot_ald 13 _) (z_rj_seq (z_ot_il 1) (z_rj_icmpeq (zrjb_X12_odds_176 Λ) (zrjb_X12_odds_173 Λ))))))
theorem zrjb_X12_odds_153 (Λ : Int → Int) : z_RJ (zt_X12_odds_153 Λ) := z_rj_seq (z_ot_al 0) (z_rj_seq (z_ot_il 4) (z_rj_seq (z_ot_callv _ z_hbI _ _ _) (z_rj_ifeq (zrjb_X12_odds_223 Λ) (zrjb_X12_odds_162 Λ))))
theorem zrjb_X12_odds_144 (Λ : Int → Int) : z_RJ (zt_X12_odds_144 Λ) := z_rj_seq (z_ot_il 4) (z_rj_seq (z_ot_al 0) (z_rj_seq (z_ot_getI 12 13) (z_rj_icmplt (zrjb_X12_odds_153 Λ) (zrjb_X12_odds_229 Λ))))
theorem zrjb_X12_odds_141 (Λ : Int → Int) : z_RJ (zt_X12_odds_141 Λ) := z_rj_seq (z_ot_ic 0) (z_rj_seq (z_ot_is 4) (z_rj_go 2))
theorem zrjb_X12_odds_138 (Λ : Int → Int) : z_RJ (zt_X12_odds_138 Λ) := zrjb_X12_odds_229 Λ
theorem zrjb_X12_odds_132 (Λ : Int → Int) : z_RJ (zt_X12_odds_132 Λ) := z_rj_seq (z_ot_inc 4 1) (z_rj_go 1)
theorem zrjb_X12_odds_129 (Λ : Int → Int) : z_RJ (zt_X12_odds_129 Λ) := z_rj_seq (z_ot_callv _ z_hbV _ _ _) (zrjb_X12_odds_132 Λ)
theorem zrjb_X12_odds_128 (Λ : Int → Int) : z_RJ (zt_X12_odds_128 Λ) := z_rj_seq (z_ot_ic 0) (zrjb_X12_odds_129 Λ)
theorem zrjb_X12_odds_124 (Λ : Int → Int) : z_RJ (zt_X12_odds_124 Λ) := z_rj_seq (z_ot_ic 1) (zrjb_X12_odds_129 Λ)
theorem zrjb_X12_odds_94 (Λ : Int → Int) : z_RJ (zt_X12_odds_94 Λ) := z_rj_seq (z_ot_al 0) (z_rj_seq (z_ot_al 0) (z_rj_seq (z_ot_getA 12 37 13) (z_rj_seq (z_ot_il 4) (z_rj_seq (z_ot_ald 13 _) (z_rj_seq (z_ot_al 0) (z_rj_seq (z_ot_getA 12 38 13) (z_rj_seq (z_ot_il 4) (z_rj_seq (z_ot_ald 13 _) (z_rj_seq (z_ot_al 0) (z_rj_seq (z_ot_getA 12 23 13) (z_rj_seq (z_ot_al 0) (z_rj_seq (z_ot_getA 12 37 13) (z_rj_seq (z_ot_il 4) (z_rj_seq (z_ot_ald 13 _) (z_rj_seq (z_ot_ald 13 _) (z_rj_icmpeq (zrjb_X12_odds_124 Λ) (zrjb_X12_odds_128 Λ)))))))))))))))))
theorem zrjb_X12_odds_85 (Λ : Int → Int) : z_RJ (zt_X12_odds_85 Λ) := z_rj_seq (z_ot_al 0) (z_rj_seq (z_ot_il 4) (z_rj_seq (z_ot_callv _ z_hbI _ _ _) (z_rj_ifeq (zrjb_X12_odds_132 Λ) (zrjb_X12_odds_94 Λ))))
theorem zrjb_X12_odds_74 (Λ : Int → Int) : z_RJ (zt_X12_odds_74 Λ) := z_rj_seq (z_ot_al 0) (z_rj_seq (z_ot_getA 12 36 13) (z_rj_seq (z_ot_il 4) (z_rj_seq (z_ot_ald 13 _) (z_rj_seq (z_ot_il 1) (z_rj_icmpeq (zrjb_X12_odds_85 Λ) (zrjb_X12_odds_132 Λ))))))
theorem zrjb_X12_odds_65 (Λ : Int → Int) : z_RJ (zt_X12_odds_65 Λ) := z_rj_seq (z_ot_il 4) (z_rj_seq (z_ot_al 0) (z_rj_seq (z_ot_getI 12 14) (z_rj_icmplt (zrjb_X12_odds_74 Λ) (zrjb_X12_odds_138 Λ))))
theorem zrjb_X12_odds_62 (Λ : Int → Int) : z_RJ (zt_X12_odds_62 Λ) := z_rj_seq (z_ot_ic 0) (z_rj_seq (z_ot_is 4) (z_rj_go 1))
theorem zrjb_X12_odds_35 (Λ : Int → Int) : z_RJ (zt_X12_odds_35 Λ) := z_rj_seq (z_ot_al 0) (z_rj_seq (z_ot_al 0) (z_rj_seq (z_ot_getI 12 48) (z_rj_seq (z_ot_i2l) (z_rj_seq (z_ot_putJ 12 58) (z_rj_seq (z_ot_al 0) (z_rj_seq (z_ot_al 0) (z_rj_seq (z_ot_getI 12 49) (z_rj_seq (z_ot_i2l) (z_rj_seq (z_ot_putJ 12 59) (z_rj_seq (z_ot_al 0) (z_rj_seq (z_ot_callv _ z_hbV _ _ _) (z_rj_seq (z_ot_il 2) (z_rj_seq (z_ot_ic 2) (z_rj_icmpeq (zrjb_X12_odds_62 Λ) (zrjb_X12_odds_141 Λ)))))))))))))))
theorem zrjb_X12_odds_31 (Λ : Int → Int) : z_RJ (zt_X12_odds_31 Λ) := z_rj_seq (z_ot_lc (-1)) (z_rj_lret)
theorem zrjb_X12_odds_22 (Λ : Int → Int) : z_RJ (zt_X12_odds_22 Λ) := z_rj_seq (z_ot_il 3) (z_rj_seq (z_ot_ic 0) (z_rj_seq (z_ot_ic 1) (z_rj_seq (z_ot_call _ z_hbI _ _) (z_rj_ifeq (zrjb_X12_odds_31 Λ) (zrjb_X12_odds_35 Λ)))))
theorem zrjb_X12_odds_13 (Λ : Int → Int) : z_RJ (zt_X12_odds_13 Λ) := z_rj_seq (z_ot_il 2) (z_rj_seq (z_ot_ic 0) (z_rj_seq (z_ot_ic 2) (z_rj_seq (z_ot_call _ z_hbI _ _) (z_rj_ifeq (zrjb_X12_odds_31 Λ) (zrjb_X12_odds_22 Λ)))))
theorem zrjb_X12_odds_0 (Λ : Int → Int) : z_RJ (zt_X12_odds_0 Λ) := z_rj_seq (z_ot_al 0) (z_rj_seq (z_ot_ic 0) (z_rj_seq (z_ot_putI 12 2) (z_rj_seq (z_ot_al 0) (z_rj_seq (z_ot_il 1) (z_rj_seq (z_ot_callv _ z_hbI _ _ _) (z_rj_ifeq (zrjb_X12_odds_31 Λ) (zrjb_X12_odds_13 Λ)))))))
theorem zrjl_X12_odds (Λ : Int → Int) (l : Nat) : z_RJ (zcd_X12_odds Λ l) := match l with
  | 0 => zrjb_X12_odds_0 Λ
  | 1 => zrjb_X12_odds_65 Λ
  | 2 => zrjb_X12_odds_144 Λ
  | _ + 3 => z_rj_bad
theorem zsh_X12_odds {as : List zV} {M : zM} {r : List zV} {M2 : zM} (h : zm_X12_odds zLa as M = some (r, M2)) : ∃ v, r = [zJ v] := z_rj_me ztl_X12_odds zrjl_X12_odds h
theorem zrib_X12_page_26 (Λ : Int → Int) : z_RI (zt_X12_page_26 Λ) := z_ri_iret
theorem zrib_X12_page_21 (Λ : Int → Int) : z_RI (zt_X12_page_21 Λ) := z_ri_seq (z_ot_al 0) (z_ri_seq (z_ot_il 1) (z_ri_seq (z_ot_callv _ z_hbI _ _ _) (zrib_X12_page_26 Λ)))
theorem zrib_X12_page_17 (Λ : Int → Int) : z_RI (zt_X12_page_17 Λ) := z_ri_seq (z_ot_ic (-1)) (zrib_X12_page_26 Λ)
theorem zrib_X12_page_9 (Λ : Int → Int) : z_RI (zt_X12_page_9 Λ) := z_ri_seq (z_ot_il 1) (z_ri_seq (z_ot_al 0) (z_ri_seq (z_ot_getI 12 14) (z_ri_icmplt (zrib_X12_page_21 Λ) (zrib_X12_page_17 Λ))))
theorem zrib_X12_page_0 (Λ : Int → Int) : z_RI (zt_X12_page_0 Λ) := z_ri_seq (z_ot_al 0) (z_ri_seq (z_ot_ic 0) (z_ri_seq (z_ot_putI 12 2) (z_ri_seq (z_ot_il 1) (z_ri_iflt (zrib_X12_page_17 Λ) (zrib_X12_page_9 Λ)))))
theorem zril_X12_page (Λ : Int → Int) (l : Nat) : z_RI (zcd_X12_page Λ l) := match l with
  | 0 => zrib_X12_page_0 Λ
  | _ + 1 => z_ri_bad
theorem zsh_X12_page {as : List zV} {M : zM} {r : List zV} {M2 : zM} (h : zm_X12_page zLa as M = some (r, M2)) : ∃ v, r = [zI v] := z_ri_me ztl_X12_page zril_X12_page h
theorem zrib_X12_left_87 (Λ : Int → Int) : z_RI (zt_X12_left_87 Λ) := z_ri_seq (z_ot_il 2) (z_ri_iret)
theorem zrib_X12_left_79 (Λ : Int → Int) : z_RI (zt_X12_left_79 Λ) := z_ri_seq (z_ot_i2 _) (z_ri_seq (z_ot_is 2) (z_ri_seq (z_ot_inc 3 1) (z_ri_go 1)))
theorem zrib_X12_left_78 (Λ : Int → Int) : z_RI (zt_X12_left_78 Λ) := z_ri_seq (z_ot_ic 0) (zrib_X12_left_79 Λ)
theorem zrib_X12_left_74 (Λ : Int → Int) : z_RI (zt_X12_left_74 Λ) := z_ri_seq (z_ot_ic 1) (zrib_X12_left_79 Λ)
theorem zrib_X12_left_54 (Λ : Int → Int) : z_RI (zt_X12_left_54 Λ) := z_ri_seq (z_ot_al 0) (z_ri_seq (z_ot_il 1) (z_ri_seq (z_ot_al 0) (z_ri_seq (z_ot_getA 12 34 13) (z_ri_seq (z_ot_il 3) (z_ri_seq (z_ot_ald 13 _) (z_ri_seq (z_ot_al 0) (z_ri_seq (z_ot_getA 12 35 13) (z_ri_seq (z_ot_il 3) (z_ri_seq (z_ot_ald 13 _) (z_ri_seq (z_ot_callv _ z_hbI _ _ _) (z_ri_ifeq (zrib_X12_left_74 Λ) (zrib_X12_left_78 Λ))))))))))))
theorem zrib_X12_left_46 (Λ : Int → Int) : z_RI (zt_X12_left_46 Λ) := z_ri_seq (z_ot_al 0) (z_ri_seq (z_ot_il 3) (z_ri_seq (z_ot_callv _ z_hbI _ _ _) (z_ri_ifeq (zrib_X12_left_54 Λ) (zrib_X12_left_78 Λ))))
theorem zrib_X12_left_36 (Λ : Int → Int) : z_RI (zt_X12_left_36 Λ) := z_ri_seq (z_ot_al 0) (z_ri_seq (z_ot_getA 12 32 13) (z_ri_seq (z_ot_il 3) (z_ri_seq (z_ot_ald 13 _) (z_ri_seq (z_ot_il 1) (z_ri_icmpeq (zrib_X12_left_46 Λ) (zrib_X12_left_78 Λ))))))
theorem zrib_X12_left_27 (Λ : Int → Int) : z_RI (zt_X12_left_27 Λ) := z_ri_seq (z_ot_il 2) (z_ri_seq (z_ot_al 0) (z_ri_seq (z_ot_il 3) (z_ri_seq (z_ot_callv _ z_hbI _ _ _) (z_ri_ifeq (zrib_X12_left_78 Λ) (zrib_X12_left_36 Λ)))))
theorem zrib_X12_left_19 (Λ : Int → Int) : z_RI (zt_X12_left_19 Λ) := z_ri_seq (z_ot_il 3) (z_ri_seq (z_ot_al 0) (z_ri_seq (z_ot_getI 12 13) (z_ri_icmplt (zrib_X12_left_27 Λ) (zrib_X12_left_87 Λ))))
theorem zrib_X12_left_15 (Λ : Int → Int) : z_RI (zt_X12_left_15 Λ) := z_ri_seq (z_ot_ic 0) (z_ri_seq (z_ot_is 2) (z_ri_seq (z_ot_ic 0) (z_ri_seq (z_ot_is 3) (z_ri_go 1))))
theorem zrib_X12_left_13 (Λ : Int → Int) : z_RI (zt_X12_left_13 Λ) := z_ri_seq (z_ot_ic (-1)) (z_ri_iret)
theorem zrib_X12_left_0 (Λ : Int → Int) : z_RI (zt_X12_left_0 Λ) := z_ri_seq (z_ot_al 0) (z_ri_seq (z_ot_ic 0) (z_ri_seq (z_ot_putI 12 2) (z_ri_seq (z_ot_al 0) (z_ri_seq (z_ot_il 1) (z_ri_seq (z_ot_callv _ z_hbI _ _ _) (z_ri_ifeq (zrib_X12_left_13 Λ) (zrib_X12_left_15 Λ)))))))
theorem zril_X12_left (Λ : Int → Int) (l : Nat) : z_RI (zcd_X12_left Λ l) := match l with
  | 0 => zrib_X12_left_0 Λ
  | 1 => zrib_X12_left_19 Λ
  | _ + 2 => z_ri_bad
theorem zsh_X12_left {as : List zV} {M : zM} {r : List zV} {M2 : zM} (h : zm_X12_left zLa as M = some (r, M2)) : ∃ v, r = [zI v] := z_ri_me ztl_X12_left zril_X12_left h
theorem zrib_X12_moved_179 (Λ : Int → Int) : z_RI (zt_X12_moved_179 Λ) := z_ri_seq (z_ot_il 2) (z_ri_seq (z_ot_il 3) (z_ri_seq (z_ot_i2 _) (z_ri_iret)))
theorem zrib_X12_moved_173 (Λ : Int → Int) : z_RI (zt_X12_moved_173 Λ) := z_ri_seq (z_ot_inc 4 1) (z_ri_go 1)
theorem zrib_X12_moved_169 (Λ : Int → Int) : z_RI (zt_X12_moved_169 Λ) := z_ri_seq (z_ot_is 3) (z_ri_seq (z_ot_inc 2 1) (zrib_X12_moved_173 Λ))
theorem zrib_X12_moved_168 (Λ : Int → Int) : z_RI (zt_X12_moved_168 Λ) := z_ri_seq (z_ot_il 3) (zrib_X12_moved_169 Λ)
theorem zrib_X12_moved_159 (Λ : Int → Int) : z_RI (zt_X12_moved_159 Λ) := z_ri_seq (z_ot_al 0) (z_ri_seq (z_ot_getA 12 61 13) (z_ri_seq (z_ot_il 2) (z_ri_seq (z_ot_ald 13 _) (zrib_X12_moved_169 Λ))))
theorem zrib_X12_moved_149 (Λ : Int → Int) : z_RI (zt_X12_moved_149 Λ) := z_ri_seq (z_ot_al 0) (z_ri_seq (z_ot_getA 12 61 13) (z_ri_seq (z_ot_il 2) (z_ri_seq (z_ot_ald 13 _) (z_ri_seq (z_ot_il 3) (z_ri_icmple (zrib_X12_moved_168 Λ) (zrib_X12_moved_159 Λ))))))
theorem zrib_X12_moved_143 (Λ : Int → Int) : z_RI (zt_X12_moved_143 Λ) := z_ri_seq (z_ot_inc 5 1) (z_ri_go 2)
theorem zrib_X12_moved_128 (Λ : Int → Int) : z_RI (zt_X12_moved_128 Λ) := z_ri_seq (z_ot_al 0) (z_ri_seq (z_ot_getA 12 61 13) (z_ri_seq (z_ot_il 2) (z_ri_seq (z_ot_al 0) (z_ri_seq (z_ot_getA 12 61 13) (z_ri_seq (z_ot_il 5) (z_ri_seq (z_ot_ald 13 _) (z_ri_seq (z_ot_ic 1) (z_ri_seq (z_ot_i2 _) (z_ri_seq (z_ot_ast _) (zrib_X12_moved_143 Λ))))))))))
theorem zrib_X12_moved_112 (Λ : Int → Int) : z_RI (zt_X12_moved_112 Λ) := z_ri_seq (z_ot_al 0) (z_ri_seq (z_ot_getA 12 61 13) (z_ri_seq (z_ot_il 5) (z_ri_seq (z_ot_ald 13 _) (z_ri_seq (z_ot_al 0) (z_ri_seq (z_ot_getA 12 61 13) (z_ri_seq (z_ot_il 2) (z_ri_seq (z_ot_ald 13 _) (z_ri_icmplt (zrib_X12_moved_143 Λ) (zrib_X12_moved_128 Λ)))))))))
theorem zrib_X12_moved_96 (Λ : Int → Int) : z_RI (zt_X12_moved_96 Λ) := z_ri_seq (z_ot_al 0) (z_ri_seq (z_ot_getA 12 60 13) (z_ri_seq (z_ot_il 5) (z_ri_seq (z_ot_ald 13 _) (z_ri_seq (z_ot_al 0) (z_ri_seq (z_ot_getA 12 60 13) (z_ri_seq (z_ot_il 2) (z_ri_seq (z_ot_ald 13 _) (z_ri_icmple (zrib_X12_moved_112 Λ) (zrib_X12_moved_143 Λ)))))))))
theorem zrib_X12_moved_90 (Λ : Int → Int) : z_RI (zt_X12_moved_90 Λ) := z_ri_seq (z_ot_il 5) (z_ri_seq (z_ot_il 2) (z_ri_icmplt (zrib_X12_moved_96 Λ) (zrib_X12_moved_149 Λ)))
theorem zrib_X12_moved_55 (Λ : Int → Int) : z_RI (zt_X12_moved_55 Λ) := z_ri_seq (z_ot_al 0) (z_ri_seq (z_ot_getA 12 60 13) (z_ri_seq (z_ot_il 2) (z_ri_seq (z_ot_al 0) (z_ri_seq (z_ot_il 1) (z_ri_seq (z_ot_al 0) (z_ri_seq (z_ot_getA 12 37 13) (z_ri_seq (z_ot_il 4) (z_ri_seq (z_ot_ald 13 _) (z_ri_seq (z_ot_al 0) (z_ri_seq (z_ot_getA 12 38 13) (z_ri_seq (z_ot_il 4) (z_ri_seq (z_ot_ald 13 _) (z_ri_seq (z_ot_callv _ z_hbI _ _ _) (z_ri_seq (z_ot_ast _) (z_ri_seq (z_ot_al 0) (z_ri_seq (z_ot_getA 12 61 13) (z_ri_seq (z_ot_il 2) (z_ri_seq (z_ot_ic 1) (z_ri_seq (z_ot_ast _) (z_ri_seq (z_ot_ic 0) (z_ri_seq (z_ot_is 5) (z_ri_go 2))))))))))))))))))))))
theorem zrib_X12_moved_52 (Λ : Int → Int) : z_RI (zt_X12_moved_52 Λ) := zrib_X12_moved_173 Λ
theorem zrib_X12_moved_42 (Λ : Int → Int) : z_RI (zt_X12_moved_42 Λ) := z_ri_seq (z_ot_al 0) (z_ri_seq (z_ot_il 4) (z_ri_seq (z_ot_callv _ z_hbI _ _ _) (z_ri_seq (z_ot_ic 1) (z_ri_icmple (zrib_X12_moved_55 Λ) (zrib_X12_moved_52 Λ)))))
theorem zrib_X12_moved_31 (Λ : Int → Int) : z_RI (zt_X12_moved_31 Λ) := z_ri_seq (z_ot_al 0) (z_ri_seq (z_ot_getA 12 36 13) (z_ri_seq (z_ot_il 4) (z_ri_seq (z_ot_ald 13 _) (z_ri_seq (z_ot_il 1) (z_ri_icmpeq (zrib_X12_moved_42 Λ) (zrib_X12_moved_173 Λ))))))
theorem zrib_X12_moved_22 (Λ : Int → Int) : z_RI (zt_X12_moved_22 Λ) := z_ri_seq (z_ot_il 4) (z_ri_seq (z_ot_al 0) (z_ri_seq (z_ot_getI 12 14) (z_ri_icmplt (zrib_X12_moved_31 Λ) (zrib_X12_moved_179 Λ))))
theorem zrib_X12_moved_15 (Λ : Int → Int) : z_RI (zt_X12_moved_15 Λ) := z_ri_seq (z_ot_ic 0) (z_ri_seq (z_ot_is 2) (z_ri_seq (z_ot_ic 0) (z_ri_seq (z_ot_is 3) (z_ri_seq (z_ot_ic 0) (z_ri_seq (z_ot_is 4) (z_ri_go 1))))))
theorem zrib_X12_moved_13 (Λ : Int → Int) : z_RI (zt_X12_moved_13 Λ) := z_ri_seq (z_ot_ic (-1)) (z_ri_iret)
theorem zrib_X12_moved_0 (Λ : Int → Int) : z_RI (zt_X12_moved_0 Λ) := z_ri_seq (z_ot_al 0) (z_ri_seq (z_ot_ic 0) (z_ri_seq (z_ot_putI 12 2) (z_ri_seq (z_ot_al 0) (z_ri_seq (z_ot_il 1) (z_ri_seq (z_ot_callv _ z_hbI _ _ _) (z_ri_ifeq (zrib_X12_moved_13 Λ) (zrib_X12_moved_15 Λ)))))))
theorem zril_X12_moved (Λ : Int → Int) (l : Nat) : z_RI (zcd_X12_moved Λ l) := match l with
  | 0 => zrib_X12_moved_0 Λ
  | 1 => zrib_X12_moved_22 Λ
  | 2 => zrib_X12_moved_90 Λ
  | _ + 3 => z_ri_bad
theorem zsh_X12_moved {as : List zV} {M : zM} {r : List zV} {M2 : zM} (h : zm_X12_moved zLa as M = some (r, M2)) : ∃ v, r = [zI v] := z_ri_me ztl_X12_moved zril_X12_moved h
theorem zrib_X12_story_32 (Λ : Int → Int) : z_RI (zt_X12_story_32 Λ) := z_ri_iret
theorem zrib_X12_story_30 (Λ : Int → Int) : z_RI (zt_X12_story_30 Λ) := z_ri_seq (z_ot_ic (-2)) (zrib_X12_story_32 Λ)
theorem zrib_X12_story_21 (Λ : Int → Int) : z_RI (zt_X12_story_21 Λ) := z_ri_seq (z_ot_al 0) (z_ri_seq (z_ot_il 1) (z_ri_seq (z_ot_il 2) (z_ri_seq (z_ot_callv _ z_hbI _ _ _) (zrib_X12_story_32 Λ))))
theorem zrib_X12_story_13 (Λ : Int → Int) : z_RI (zt_X12_story_13 Λ) := z_ri_seq (z_ot_al 0) (z_ri_seq (z_ot_il 2) (z_ri_seq (z_ot_callv _ z_hbI _ _ _) (z_ri_ifeq (zrib_X12_story_30 Λ) (zrib_X12_story_21 Λ))))
theorem zrib_X12_story_0 (Λ : Int → Int) : z_RI (zt_X12_story_0 Λ) := z_ri_seq (z_ot_al 0) (z_ri_seq (z_ot_ic 0) (z_ri_seq (z_ot_putI 12 2) (z_ri_seq (z_ot_al 0) (z_ri_seq (z_ot_il 1) (z_ri_seq (z_ot_callv _ z_hbI _ _ _) (z_ri_ifeq (zrib_X12_story_30 Λ) (zrib_X12_story_13 Λ)))))))
theorem zril_X12_story (Λ : Int → Int) (l : Nat) : z_RI (zcd_X12_story Λ l) := match l with
  | 0 => zrib_X12_story_0 Λ
  | _ + 1 => z_ri_bad
theorem zsh_X12_story {as : List zV} {M : zM} {r : List zV} {M2 : zM} (h : zm_X12_story zLa as M = some (r, M2)) : ∃ v, r = [zI v] := z_ri_me ztl_X12_story zril_X12_story h
theorem zrib_X12_clash_36 (Λ : Int → Int) : z_RI (zt_X12_clash_36 Λ) := z_ri_iret
theorem zrib_X12_clash_35 (Λ : Int → Int) : z_RI (zt_X12_clash_35 Λ) := z_ri_seq (z_ot_ic (-1)) (zrib_X12_clash_36 Λ)
theorem zrib_X12_clash_26 (Λ : Int → Int) : z_RI (zt_X12_clash_26 Λ) := z_ri_seq (z_ot_al 0) (z_ri_seq (z_ot_il 1) (z_ri_seq (z_ot_il 2) (z_ri_seq (z_ot_callv _ z_hbI _ _ _) (zrib_X12_clash_36 Λ))))
theorem zrib_X12_clash_21 (Λ : Int → Int) : z_RI (zt_X12_clash_21 Λ) := z_ri_seq (z_ot_il 1) (z_ri_seq (z_ot_il 2) (z_ri_icmpeq (zrib_X12_clash_35 Λ) (zrib_X12_clash_26 Λ)))
theorem zrib_X12_clash_13 (Λ : Int → Int) : z_RI (zt_X12_clash_13 Λ) := z_ri_seq (z_ot_al 0) (z_ri_seq (z_ot_il 2) (z_ri_seq (z_ot_callv _ z_hbI _ _ _) (z_ri_ifeq (zrib_X12_clash_35 Λ) (zrib_X12_clash_21 Λ))))
theorem zrib_X12_clash_0 (Λ : Int → Int) : z_RI (zt_X12_clash_0 Λ) := z_ri_seq (z_ot_al 0) (z_ri_seq (z_ot_ic 0) (z_ri_seq (z_ot_putI 12 2) (z_ri_seq (z_ot_al 0) (z_ri_seq (z_ot_il 1) (z_ri_seq (z_ot_callv _ z_hbI _ _ _) (z_ri_ifeq (zrib_X12_clash_35 Λ) (zrib_X12_clash_13 Λ)))))))
theorem zril_X12_clash (Λ : Int → Int) (l : Nat) : z_RI (zcd_X12_clash Λ l) := match l with
  | 0 => zrib_X12_clash_0 Λ
  | _ + 1 => z_ri_bad
theorem zsh_X12_clash {as : List zV} {M : zM} {r : List zV} {M2 : zM} (h : zm_X12_clash zLa as M = some (r, M2)) : ∃ v, r = [zI v] := z_ri_me ztl_X12_clash zril_X12_clash h
theorem zrib_X12_together_117 (Λ : Int → Int) : z_RI (zt_X12_together_117 Λ) := z_ri_seq (z_ot_il 1) (z_ri_iret)
theorem zrib_X12_together_111 (Λ : Int → Int) : z_RI (zt_X12_together_111 Λ) := z_ri_seq (z_ot_inc 2 1) (z_ri_go 1)
theorem zrib_X12_together_109 (Λ : Int → Int) : z_RI (zt_X12_together_109 Λ) := z_ri_seq (z_ot_il 2) (z_ri_seq (z_ot_is 1) (zrib_X12_together_111 Λ))
theorem zrib_X12_together_98 (Λ : Int → Int) : z_RI (zt_X12_together_98 Λ) := z_ri_seq (z_ot_il 2) (z_ri_seq (z_ot_call _ z_hbI _ _) (z_ri_seq (z_ot_il 1) (z_ri_seq (z_ot_call _ z_hbI _ _) (z_ri_icmple (zrib_X12_together_111 Λ) (zrib_X12_together_109 Λ)))))
theorem zrib_X12_together_94 (Λ : Int → Int) : z_RI (zt_X12_together_94 Λ) := z_ri_seq (z_ot_il 3) (z_ri_ifeq (zrib_X12_together_111 Λ) (zrib_X12_together_98 Λ))
theorem zrib_X12_together_88 (Λ : Int → Int) : z_RI (zt_X12_together_88 Λ) := z_ri_seq (z_ot_inc 4 1) (z_ri_go 2)
theorem zrib_X12_together_81 (Λ : Int → Int) : z_RI (zt_X12_together_81 Λ) := z_ri_seq (z_ot_is 3) (z_ri_seq (z_ot_inc 5 1) (z_ri_go 3))
theorem zrib_X12_together_80 (Λ : Int → Int) : z_RI (zt_X12_together_80 Λ) := z_ri_seq (z_ot_ic 0) (zrib_X12_together_81 Λ)
theorem zrib_X12_together_76 (Λ : Int → Int) : z_RI (zt_X12_together_76 Λ) := z_ri_seq (z_ot_ic 1) (zrib_X12_together_81 Λ)
theorem zrib_X12_together_65 (Λ : Int → Int) : z_RI (zt_X12_together_65 Λ) := z_ri_seq (z_ot_al 0) (z_ri_seq (z_ot_il 4) (z_ri_seq (z_ot_il 5) (z_ri_seq (z_ot_callv _ z_hbI _ _ _) (z_ri_ifeq (zrib_X12_together_76 Λ) (zrib_X12_together_80 Λ)))))
theorem zrib_X12_together_56 (Λ : Int → Int) : z_RI (zt_X12_together_56 Λ) := z_ri_seq (z_ot_il 2) (z_ri_seq (z_ot_il 5) (z_ri_seq (z_ot_call _ z_hbI _ _) (z_ri_ifeq (zrib_X12_together_76 Λ) (zrib_X12_together_65 Λ))))
theorem zrib_X12_together_47 (Λ : Int → Int) : z_RI (zt_X12_together_47 Λ) := z_ri_seq (z_ot_il 2) (z_ri_seq (z_ot_il 4) (z_ri_seq (z_ot_call _ z_hbI _ _) (z_ri_ifeq (zrib_X12_together_76 Λ) (zrib_X12_together_56 Λ))))
theorem zrib_X12_together_43 (Λ : Int → Int) : z_RI (zt_X12_together_43 Λ) := z_ri_seq (z_ot_il 3) (z_ri_ifeq (zrib_X12_together_80 Λ) (zrib_X12_together_47 Λ))
theorem zrib_X12_together_36 (Λ : Int → Int) : z_RI (zt_X12_together_36 Λ) := z_ri_seq (z_ot_il 5) (z_ri_seq (z_ot_il 4) (z_ri_icmplt (zrib_X12_together_43 Λ) (zrib_X12_together_88 Λ)))
theorem zrib_X12_together_33 (Λ : Int → Int) : z_RI (zt_X12_together_33 Λ) := z_ri_seq (z_ot_ic 0) (z_ri_seq (z_ot_is 5) (z_ri_go 3))
theorem zrib_X12_together_24 (Λ : Int → Int) : z_RI (zt_X12_together_24 Λ) := z_ri_seq (z_ot_il 4) (z_ri_seq (z_ot_al 0) (z_ri_seq (z_ot_getI 12 12) (z_ri_icmplt (zrib_X12_together_33 Λ) (zrib_X12_together_94 Λ))))
theorem zrib_X12_together_19 (Λ : Int → Int) : z_RI (zt_X12_together_19 Λ) := z_ri_seq (z_ot_ic 1) (z_ri_seq (z_ot_is 3) (z_ri_seq (z_ot_ic 0) (z_ri_seq (z_ot_is 4) (z_ri_go 2))))
theorem zrib_X12_together_9 (Λ : Int → Int) : z_RI (zt_X12_together_9 Λ) := z_ri_seq (z_ot_il 2) (z_ri_seq (z_ot_ic 1) (z_ri_seq (z_ot_al 0) (z_ri_seq (z_ot_getI 12 12) (z_ri_seq (z_ot_i2 _) (z_ri_icmplt (zrib_X12_together_19 Λ) (zrib_X12_together_117 Λ))))))
theorem zrib_X12_together_0 (Λ : Int → Int) : z_RI (zt_X12_together_0 Λ) := z_ri_seq (z_ot_al 0) (z_ri_seq (z_ot_ic 0) (z_ri_seq (z_ot_putI 12 2) (z_ri_seq (z_ot_ic 0) (z_ri_seq (z_ot_is 1) (z_ri_seq (z_ot_ic 1) (z_ri_seq (z_ot_is 2) (z_ri_go 1)))))))
theorem zril_X12_together (Λ : Int → Int) (l : Nat) : z_RI (zcd_X12_together Λ l) := match l with
  | 0 => zrib_X12_together_0 Λ
  | 1 => zrib_X12_together_9 Λ
  | 2 => zrib_X12_together_24 Λ
  | 3 => zrib_X12_together_36 Λ
  | _ + 4 => z_ri_bad
theorem zsh_X12_together {as : List zV} {M : zM} {r : List zV} {M2 : zM} (h : zm_X12_together zLa as M = some (r, M2)) : ∃ v, r = [zI v] := z_ri_me ztl_X12_together zril_X12_together h
theorem zrib_X12_lies_142 (Λ : Int → Int) : z_RI (zt_X12_lies_142 Λ) := z_ri_seq (z_ot_il 2) (z_ri_iret)
theorem zrib_X12_lies_128 (Λ : Int → Int) : z_RI (zt_X12_lies_128 Λ) := z_ri_seq (z_ot_il 2) (z_ri_seq (z_ot_il 4) (z_ri_seq (z_ot_il 5) (z_ri_seq (z_ot_i2 _) (z_ri_seq (z_ot_i2 _) (z_ri_seq (z_ot_is 2) (z_ri_seq (z_ot_inc 3 1) (z_ri_go 1)))))))
theorem zrib_X12_lies_120 (Λ : Int → Int) : z_RI (zt_X12_lies_120 Λ) := z_ri_seq (z_ot_is 5) (z_ri_seq (z_ot_inc 6 1) (z_ri_go 2))
theorem zrib_X12_lies_118 (Λ : Int → Int) : z_RI (zt_X12_lies_118 Λ) := z_ri_seq (z_ot_il 5) (zrib_X12_lies_120 Λ)
theorem zrib_X12_lies_113 (Λ : Int → Int) : z_RI (zt_X12_lies_113 Λ) := z_ri_seq (z_ot_il 7) (zrib_X12_lies_120 Λ)
theorem zrib_X12_lies_99 (Λ : Int → Int) : z_RI (zt_X12_lies_99 Λ) := z_ri_seq (z_ot_il 4) (z_ri_seq (z_ot_il 7) (z_ri_seq (z_ot_i2 _) (z_ri_seq (z_ot_is 4) (z_ri_seq (z_ot_il 7) (z_ri_seq (z_ot_il 5) (z_ri_icmple (zrib_X12_lies_118 Λ) (zrib_X12_lies_113 Λ)))))))
theorem zrib_X12_lies_90 (Λ : Int → Int) : z_RI (zt_X12_lies_90 Λ) := z_ri_seq (z_ot_i2 _) (z_ri_seq (z_ot_is 7) (z_ri_seq (z_ot_inc 8 1) (z_ri_go 3)))
theorem zrib_X12_lies_89 (Λ : Int → Int) : z_RI (zt_X12_lies_89 Λ) := z_ri_seq (z_ot_ic 0) (zrib_X12_lies_90 Λ)
theorem zrib_X12_lies_85 (Λ : Int → Int) : z_RI (zt_X12_lies_85 Λ) := z_ri_seq (z_ot_ic 1) (zrib_X12_lies_90 Λ)
theorem zrib_X12_lies_73 (Λ : Int → Int) : z_RI (zt_X12_lies_73 Λ) := z_ri_seq (z_ot_al 0) (z_ri_seq (z_ot_il 8) (z_ri_seq (z_ot_il 3) (z_ri_seq (z_ot_callv _ z_hbI _ _ _) (z_ri_seq (z_ot_il 6) (z_ri_icmpeq (zrib_X12_lies_85 Λ) (zrib_X12_lies_89 Λ))))))
theorem zrib_X12_lies_62 (Λ : Int → Int) : z_RI (zt_X12_lies_62 Λ) := z_ri_seq (z_ot_il 7) (z_ri_seq (z_ot_il 1) (z_ri_seq (z_ot_il 8) (z_ri_seq (z_ot_call _ z_hbI _ _) (z_ri_ifeq (zrib_X12_lies_89 Λ) (zrib_X12_lies_73 Λ)))))
theorem zrib_X12_lies_53 (Λ : Int → Int) : z_RI (zt_X12_lies_53 Λ) := z_ri_seq (z_ot_il 8) (z_ri_seq (z_ot_al 0) (z_ri_seq (z_ot_getI 12 12) (z_ri_icmplt (zrib_X12_lies_62 Λ) (zrib_X12_lies_99 Λ))))
theorem zrib_X12_lies_47 (Λ : Int → Int) : z_RI (zt_X12_lies_47 Λ) := z_ri_seq (z_ot_ic 0) (z_ri_seq (z_ot_is 7) (z_ri_seq (z_ot_ic 0) (z_ri_seq (z_ot_is 8) (z_ri_go 3))))
theorem zrib_X12_lies_36 (Λ : Int → Int) : z_RI (zt_X12_lies_36 Λ) := z_ri_seq (z_ot_il 6) (z_ri_seq (z_ot_al 0) (z_ri_seq (z_ot_getA 12 22 13) (z_ri_seq (z_ot_il 3) (z_ri_seq (z_ot_ald 13 _) (z_ri_icmplt (zrib_X12_lies_47 Λ) (zrib_X12_lies_128 Λ))))))
theorem zrib_X12_lies_27 (Λ : Int → Int) : z_RI (zt_X12_lies_27 Λ) := z_ri_seq (z_ot_ic 0) (z_ri_seq (z_ot_is 4) (z_ri_seq (z_ot_ic 0) (z_ri_seq (z_ot_is 5) (z_ri_seq (z_ot_ic 0) (z_ri_seq (z_ot_is 6) (z_ri_go 2))))))
theorem zrib_X12_lies_19 (Λ : Int → Int) : z_RI (zt_X12_lies_19 Λ) := z_ri_seq (z_ot_il 3) (z_ri_seq (z_ot_al 0) (z_ri_seq (z_ot_getI 12 11) (z_ri_icmplt (zrib_X12_lies_27 Λ) (zrib_X12_lies_142 Λ))))
theorem zrib_X12_lies_15 (Λ : Int → Int) : z_RI (zt_X12_lies_15 Λ) := z_ri_seq (z_ot_ic 0) (z_ri_seq (z_ot_is 2) (z_ri_seq (z_ot_ic 0) (z_ri_seq (z_ot_is 3) (z_ri_go 1))))
theorem zrib_X12_lies_13 (Λ : Int → Int) : z_RI (zt_X12_lies_13 Λ) := z_ri_seq (z_ot_ic (-1)) (z_ri_iret)
theorem zrib_X12_lies_0 (Λ : Int → Int) : z_RI (zt_X12_lies_0 Λ) := z_ri_seq (z_ot_al 0) (z_ri_seq (z_ot_ic 0) (z_ri_seq (z_ot_putI 12 2) (z_ri_seq (z_ot_al 0) (z_ri_seq (z_ot_il 1) (z_ri_seq (z_ot_callv _ z_hbI _ _ _) (z_ri_ifeq (zrib_X12_lies_13 Λ) (zrib_X12_lies_15 Λ)))))))
theorem zril_X12_lies (Λ : Int → Int) (l : Nat) : z_RI (zcd_X12_lies Λ l) := match l with
  | 0 => zrib_X12_lies_0 Λ
  | 1 => zrib_X12_lies_19 Λ
  | 2 => zrib_X12_lies_36 Λ
  | 3 => zrib_X12_lies_53 Λ
  | _ + 4 => z_ri_bad
theorem zsh_X12_lies {as : List zV} {M : zM} {r : List zV} {M2 : zM} (h : zm_X12_lies zLa as M = some (r, M2)) : ∃ v, r = [zI v] := z_ri_me ztl_X12_lies zril_X12_lies h
theorem zrib_X12_supposed_129 (Λ : Int → Int) : z_RI (zt_X12_supposed_129 Λ) := z_ri_seq (z_ot_il 2) (z_ri_iret)
theorem zrib_X12_supposed_123 (Λ : Int → Int) : z_RI (zt_X12_supposed_123 Λ) := z_ri_seq (z_ot_inc 3 1) (z_ri_go 1)
theorem zrib_X12_supposed_112 (Λ : Int → Int) : z_RI (zt_X12_supposed_112 Λ) := z_ri_seq (z_ot_il 2) (z_ri_seq (z_ot_ic 1) (z_ri_seq (z_ot_al 0) (z_ri_seq (z_ot_getA 12 34 13) (z_ri_seq (z_ot_il 3) (z_ri_seq (z_ot_ald 13 _) (z_ri_seq (z_ot_i2 _) (z_ri_seq (z_ot_i2 _) (z_ri_seq (z_ot_is 2) (zrib_X12_supposed_123 Λ)))))))))
theorem zrib_X12_supposed_109 (Λ : Int → Int) : z_RI (zt_X12_supposed_109 Λ) := zrib_X12_supposed_123 Λ
theorem zrib_X12_supposed_101 (Λ : Int → Int) : z_RI (zt_X12_supposed_101 Λ) := z_ri_seq (z_ot_al 0) (z_ri_seq (z_ot_il 3) (z_ri_seq (z_ot_callv _ z_hbI _ _ _) (z_ri_ifeq (zrib_X12_supposed_112 Λ) (zrib_X12_supposed_109 Λ))))
theorem zrib_X12_supposed_78 (Λ : Int → Int) : z_RI (zt_X12_supposed_78 Λ) := z_ri_seq (z_ot_al 0) (z_ri_seq (z_ot_getA 12 25 13) (z_ri_seq (z_ot_al 0) (z_ri_seq (z_ot_getA 12 34 13) (z_ri_seq (z_ot_il 3) (z_ri_seq (z_ot_ald 13 _) (z_ri_seq (z_ot_ald 13 _) (z_ri_seq (z_ot_al 0) (z_ri_seq (z_ot_getA 12 30 13) (z_ri_seq (z_ot_il 1) (z_ri_seq (z_ot_ald 13 _) (z_ri_seq (z_ot_call _ z_hbI _ _) (z_ri_ifeq (zrib_X12_supposed_123 Λ) (zrib_X12_supposed_101 Λ)))))))))))))
theorem zrib_X12_supposed_70 (Λ : Int → Int) : z_RI (zt_X12_supposed_70 Λ) := z_ri_seq (z_ot_al 0) (z_ri_seq (z_ot_il 3) (z_ri_seq (z_ot_callv _ z_hbI _ _ _) (z_ri_ifeq (zrib_X12_supposed_123 Λ) (zrib_X12_supposed_78 Λ))))
theorem zrib_X12_supposed_62 (Λ : Int → Int) : z_RI (zt_X12_supposed_62 Λ) := z_ri_seq (z_ot_al 0) (z_ri_seq (z_ot_il 3) (z_ri_seq (z_ot_callv _ z_hbI _ _ _) (z_ri_ifeq (zrib_X12_supposed_123 Λ) (zrib_X12_supposed_70 Λ))))
theorem zrib_X12_supposed_52 (Λ : Int → Int) : z_RI (zt_X12_supposed_52 Λ) := z_ri_seq (z_ot_al 0) (z_ri_seq (z_ot_getA 12 32 13) (z_ri_seq (z_ot_il 3) (z_ri_seq (z_ot_ald 13 _) (z_ri_seq (z_ot_il 1) (z_ri_icmpeq (zrib_X12_supposed_62 Λ) (zrib_X12_supposed_123 Λ))))))
theorem zrib_X12_supposed_44 (Λ : Int → Int) : z_RI (zt_X12_supposed_44 Λ) := z_ri_seq (z_ot_al 0) (z_ri_seq (z_ot_il 3) (z_ri_seq (z_ot_callv _ z_hbI _ _ _) (z_ri_ifeq (zrib_X12_supposed_123 Λ) (zrib_X12_supposed_52 Λ))))
theorem zrib_X12_supposed_36 (Λ : Int → Int) : z_RI (zt_X12_supposed_36 Λ) := z_ri_seq (z_ot_il 3) (z_ri_seq (z_ot_al 0) (z_ri_seq (z_ot_getI 12 13) (z_ri_icmplt (zrib_X12_supposed_44 Λ) (zrib_X12_supposed_129 Λ))))
theorem zrib_X12_supposed_34 (Λ : Int → Int) : z_RI (zt_X12_supposed_34 Λ) := z_ri_seq (z_ot_ic 0) (z_ri_seq (z_ot_is 3) (z_ri_go 1))
theorem zrib_X12_supposed_32 (Λ : Int → Int) : z_RI (zt_X12_supposed_32 Λ) := z_ri_seq (z_ot_ic 0) (z_ri_iret)
theorem zrib_X12_supposed_15 (Λ : Int → Int) : z_RI (zt_X12_supposed_15 Λ) := z_ri_seq (z_ot_ic 0) (z_ri_seq (z_ot_is 2) (z_ri_seq (z_ot_al 0) (z_ri_seq (z_ot_getA 12 30 13) (z_ri_seq (z_ot_il 1) (z_ri_seq (z_ot_ald 13 _) (z_ri_seq (z_ot_al 0) (z_ri_seq (z_ot_getA 12 28 13) (z_ri_seq (z_ot_il 1) (z_ri_seq (z_ot_ald 13 _) (z_ri_icmple (zrib_X12_supposed_32 Λ) (zrib_X12_supposed_34 Λ)))))))))))
theorem zrib_X12_supposed_13 (Λ : Int → Int) : z_RI (zt_X12_supposed_13 Λ) := z_ri_seq (z_ot_ic (-1)) (z_ri_iret)
theorem zrib_X12_supposed_0 (Λ : Int → Int) : z_RI (zt_X12_supposed_0 Λ) := z_ri_seq (z_ot_al 0) (z_ri_seq (z_ot_ic 0) (z_ri_seq (z_ot_putI 12 2) (z_ri_seq (z_ot_al 0) (z_ri_seq (z_ot_il 1) (z_ri_seq (z_ot_callv _ z_hbI _ _ _) (z_ri_ifeq (zrib_X12_supposed_13 Λ) (zrib_X12_supposed_15 Λ)))))))
theorem zril_X12_supposed (Λ : Int → Int) (l : Nat) : z_RI (zcd_X12_supposed Λ l) := match l with
  | 0 => zrib_X12_supposed_0 Λ
  | 1 => zrib_X12_supposed_36 Λ
  | _ + 2 => z_ri_bad
theorem zsh_X12_supposed {as : List zV} {M : zM} {r : List zV} {M2 : zM} (h : zm_X12_supposed zLa as M = some (r, M2)) : ∃ v, r = [zI v] := z_ri_me ztl_X12_supposed zril_X12_supposed h
theorem zrib_X12_law_22 (Λ : Int → Int) : z_RI (zt_X12_law_22 Λ) := z_ri_iret
theorem zrib_X12_law_21 (Λ : Int → Int) : z_RI (zt_X12_law_21 Λ) := z_ri_seq (z_ot_ic (-1)) (zrib_X12_law_22 Λ)
theorem zrib_X12_law_13 (Λ : Int → Int) : z_RI (zt_X12_law_13 Λ) := z_ri_seq (z_ot_al 0) (z_ri_seq (z_ot_il 1) (z_ri_seq (z_ot_callv _ z_hbI _ _ _) (zrib_X12_law_22 Λ)))
theorem zrib_X12_law_0 (Λ : Int → Int) : z_RI (zt_X12_law_0 Λ) := z_ri_seq (z_ot_al 0) (z_ri_seq (z_ot_ic 0) (z_ri_seq (z_ot_putI 12 2) (z_ri_seq (z_ot_al 0) (z_ri_seq (z_ot_il 1) (z_ri_seq (z_ot_callv _ z_hbI _ _ _) (z_ri_ifeq (zrib_X12_law_21 Λ) (zrib_X12_law_13 Λ)))))))
theorem zril_X12_law (Λ : Int → Int) (l : Nat) : z_RI (zcd_X12_law Λ l) := match l with
  | 0 => zrib_X12_law_0 Λ
  | _ + 1 => z_ri_bad
theorem zsh_X12_law {as : List zV} {M : zM} {r : List zV} {M2 : zM} (h : zm_X12_law zLa as M = some (r, M2)) : ∃ v, r = [zI v] := z_ri_me ztl_X12_law zril_X12_law h
theorem zrib_X12_draws_232 (Λ : Int → Int) : z_RI (zt_X12_draws_232 Λ) := z_ri_seq (z_ot_il 5) (z_ri_iret)
theorem zrib_X12_draws_223 (Λ : Int → Int) : z_RI (zt_X12_draws_223 Λ) := z_ri_seq (z_ot_i2 _) (z_ri_seq (z_ot_is 5) (z_ri_seq (z_ot_inc 6 1) (z_ri_go 2)))
theorem zrib_X12_draws_222 (Λ : Int → Int) : z_RI (zt_X12_draws_222 Λ) := z_ri_seq (z_ot_ic 0) (zrib_X12_draws_223 Λ)
theorem zrib_X12_draws_218 (Λ : Int → Int) : z_RI (zt_X12_draws_218 Λ) := z_ri_seq (z_ot_ic 1) (zrib_X12_draws_223 Λ)
theorem zrib_X12_draws_209 (Λ : Int → Int) : z_RI (zt_X12_draws_209 Λ) := z_ri_seq (z_ot_il 5) (z_ri_seq (z_ot_il 7) (z_ri_seq (z_ot_il 4) (z_ri_icmplt (zrib_X12_draws_222 Λ) (zrib_X12_draws_218 Λ))))
theorem zrib_X12_draws_203 (Λ : Int → Int) : z_RI (zt_X12_draws_203 Λ) := z_ri_seq (z_ot_inc 8 1) (z_ri_go 3)
theorem zrib_X12_draws_200 (Λ : Int → Int) : z_RI (zt_X12_draws_200 Λ) := z_ri_seq (z_ot_i2 _) (z_ri_seq (z_ot_is 7) (zrib_X12_draws_203 Λ))
theorem zrib_X12_draws_199 (Λ : Int → Int) : z_RI (zt_X12_draws_199 Λ) := z_ri_seq (z_ot_ic 0) (zrib_X12_draws_200 Λ)
theorem zrib_X12_draws_195 (Λ : Int → Int) : z_RI (zt_X12_draws_195 Λ) := z_ri_seq (z_ot_ic 1) (zrib_X12_draws_200 Λ)
theorem zrib_X12_draws_174 (Λ : Int → Int) : z_RI (zt_X12_draws_174 Λ) := z_ri_seq (z_ot_is 10) (z_ri_seq (z_ot_il 7) (z_ri_seq (z_ot_il 10) (z_ri_seq (z_ot_al 0) (z_ri_seq (z_ot_getA 12 23 13) (z_ri_seq (z_ot_al 0) (z_ri_seq (z_ot_getA 12 34 13) (z_ri_seq (z_ot_il 8) (z_ri_seq (z_ot_ald 13 _) (z_ri_seq (z_ot_ald 13 _) (z_ri_icmpeq (zrib_X12_draws_195 Λ) (zrib_X12_draws_199 Λ)))))))))))
theorem zrib_X12_draws_158 (Λ : Int → Int) : z_RI (zt_X12_draws_158 Λ) := z_ri_seq (z_ot_al 0) (z_ri_seq (z_ot_al 0) (z_ri_seq (z_ot_getA 12 22 13) (z_ri_seq (z_ot_al 0) (z_ri_seq (z_ot_getA 12 34 13) (z_ri_seq (z_ot_il 8) (z_ri_seq (z_ot_ald 13 _) (z_ri_seq (z_ot_ald 13 _) (z_ri_seq (z_ot_callv _ z_hbI _ _ _) (z_ri_go 4)))))))))
theorem zrib_X12_draws_153 (Λ : Int → Int) : z_RI (zt_X12_draws_153 Λ) := z_ri_seq (z_ot_il 9) (z_ri_go 4)
theorem zrib_X12_draws_138 (Λ : Int → Int) : z_RI (zt_X12_draws_138 Λ) := z_ri_seq (z_ot_al 0) (z_ri_seq (z_ot_ic 100) (z_ri_seq (z_ot_callv _ z_hbI _ _ _) (z_ri_seq (z_ot_al 0) (z_ri_seq (z_ot_il 8) (z_ri_seq (z_ot_callv _ z_hbI _ _ _) (z_ri_icmplt (zrib_X12_draws_153 Λ) (zrib_X12_draws_158 Λ)))))))
theorem zrib_X12_draws_125 (Λ : Int → Int) : z_RI (zt_X12_draws_125 Λ) := z_ri_seq (z_ot_al 0) (z_ri_seq (z_ot_il 8) (z_ri_seq (z_ot_callv _ z_hbI _ _ _) (z_ri_seq (z_ot_is 9) (z_ri_seq (z_ot_il 9) (z_ri_iflt (zrib_X12_draws_158 Λ) (zrib_X12_draws_138 Λ))))))
theorem zrib_X12_draws_122 (Λ : Int → Int) : z_RI (zt_X12_draws_122 Λ) := zrib_X12_draws_203 Λ
theorem zrib_X12_draws_112 (Λ : Int → Int) : z_RI (zt_X12_draws_112 Λ) := z_ri_seq (z_ot_al 0) (z_ri_seq (z_ot_il 8) (z_ri_seq (z_ot_il 1) (z_ri_seq (z_ot_callv _ z_hbI _ _ _) (z_ri_ifeq (zrib_X12_draws_122 Λ) (zrib_X12_draws_125 Λ)))))
theorem zrib_X12_draws_103 (Λ : Int → Int) : z_RI (zt_X12_draws_103 Λ) := z_ri_seq (z_ot_il 8) (z_ri_seq (z_ot_al 0) (z_ri_seq (z_ot_getI 12 13) (z_ri_icmplt (zrib_X12_draws_112 Λ) (zrib_X12_draws_209 Λ))))
theorem zrib_X12_draws_97 (Λ : Int → Int) : z_RI (zt_X12_draws_97 Λ) := z_ri_seq (z_ot_ic 0) (z_ri_seq (z_ot_is 7) (z_ri_seq (z_ot_ic 0) (z_ri_seq (z_ot_is 8) (z_ri_go 3))))
theorem zrib_X12_draws_91 (Λ : Int → Int) : z_RI (zt_X12_draws_91 Λ) := z_ri_seq (z_ot_il 6) (z_ri_seq (z_ot_il 3) (z_ri_icmplt (zrib_X12_draws_97 Λ) (zrib_X12_draws_232 Λ)))
theorem zrib_X12_draws_79 (Λ : Int → Int) : z_RI (zt_X12_draws_79 Λ) := z_ri_seq (z_ot_al 0) (z_ri_seq (z_ot_il 2) (z_ri_seq (z_ot_i2l) (z_ri_seq (z_ot_putJ 12 65) (z_ri_seq (z_ot_ic 0) (z_ri_seq (z_ot_is 5) (z_ri_seq (z_ot_ic 0) (z_ri_seq (z_ot_is 6) (z_ri_go 2))))))))
theorem zrib_X12_draws_70 (Λ : Int → Int) : z_RI (zt_X12_draws_70 Λ) := z_ri_seq (z_ot_i2 _) (z_ri_seq (z_ot_is 4) (z_ri_seq (z_ot_inc 5 1) (z_ri_go 1)))
theorem zrib_X12_draws_69 (Λ : Int → Int) : z_RI (zt_X12_draws_69 Λ) := z_ri_seq (z_ot_ic 0) (zrib_X12_draws_70 Λ)
theorem zrib_X12_draws_65 (Λ : Int → Int) : z_RI (zt_X12_draws_65 Λ) := z_ri_seq (z_ot_ic 1) (zrib_X12_draws_70 Λ)
theorem zrib_X12_draws_56 (Λ : Int → Int) : z_RI (zt_X12_draws_56 Λ) := z_ri_seq (z_ot_al 0) (z_ri_seq (z_ot_il 5) (z_ri_seq (z_ot_callv _ z_hbI _ _ _) (z_ri_ifeq (zrib_X12_draws_69 Λ) (zrib_X12_draws_65 Λ))))
theorem zrib_X12_draws_44 (Λ : Int → Int) : z_RI (zt_X12_draws_44 Λ) := z_ri_seq (z_ot_il 4) (z_ri_seq (z_ot_al 0) (z_ri_seq (z_ot_il 5) (z_ri_seq (z_ot_il 1) (z_ri_seq (z_ot_callv _ z_hbI _ _ _) (z_ri_ifeq (zrib_X12_draws_69 Λ) (zrib_X12_draws_56 Λ))))))
theorem zrib_X12_draws_35 (Λ : Int → Int) : z_RI (zt_X12_draws_35 Λ) := z_ri_seq (z_ot_il 5) (z_ri_seq (z_ot_al 0) (z_ri_seq (z_ot_getI 12 13) (z_ri_icmplt (zrib_X12_draws_44 Λ) (zrib_X12_draws_79 Λ))))
theorem zrib_X12_draws_29 (Λ : Int → Int) : z_RI (zt_X12_draws_29 Λ) := z_ri_seq (z_ot_ic 0) (z_ri_seq (z_ot_is 4) (z_ri_seq (z_ot_ic 0) (z_ri_seq (z_ot_is 5) (z_ri_go 1))))
theorem zrib_X12_draws_27 (Λ : Int → Int) : z_RI (zt_X12_draws_27 Λ) := z_ri_seq (z_ot_ic (-1)) (z_ri_iret)
theorem zrib_X12_draws_17 (Λ : Int → Int) : z_RI (zt_X12_draws_17 Λ) := z_ri_seq (z_ot_il 3) (z_ri_seq (z_ot_ic 1) (z_ri_seq (z_ot_ic 99) (z_ri_seq (z_ot_call _ z_hbI _ _) (z_ri_ifeq (zrib_X12_draws_27 Λ) (zrib_X12_draws_29 Λ)))))
theorem zrib_X12_draws_13 (Λ : Int → Int) : z_RI (zt_X12_draws_13 Λ) := z_ri_seq (z_ot_il 2) (z_ri_iflt (zrib_X12_draws_27 Λ) (zrib_X12_draws_17 Λ))
theorem zrib_X12_draws_0 (Λ : Int → Int) : z_RI (zt_X12_draws_0 Λ) := z_ri_seq (z_ot_al 0) (z_ri_seq (z_ot_ic 0) (z_ri_seq (z_ot_putI 12 2) (z_ri_seq (z_ot_al 0) (z_ri_seq (z_ot_il 1) (z_ri_seq (z_ot_callv _ z_hbI _ _ _) (z_ri_ifeq (zrib_X12_draws_27 Λ) (zrib_X12_draws_13 Λ)))))))
theorem zril_X12_draws (Λ : Int → Int) (l : Nat) : z_RI (zcd_X12_draws Λ l) := match l with
  | 0 => zrib_X12_draws_0 Λ
  | 1 => zrib_X12_draws_35 Λ
  | 2 => zrib_X12_draws_91 Λ
  | 3 => zrib_X12_draws_103 Λ
  | 4 => zrib_X12_draws_174 Λ
  | _ + 5 => z_ri_bad
theorem zsh_X12_draws {as : List zV} {M : zM} {r : List zV} {M2 : zM} (h : zm_X12_draws zLa as M = some (r, M2)) : ∃ v, r = [zI v] := z_ri_me ztl_X12_draws zril_X12_draws h
theorem zrib_X12_barred_30 (Λ : Int → Int) : z_RI (zt_X12_barred_30 Λ) := z_ri_iret
theorem zrib_X12_barred_29 (Λ : Int → Int) : z_RI (zt_X12_barred_29 Λ) := z_ri_seq (z_ot_ic 0) (zrib_X12_barred_30 Λ)
theorem zrib_X12_barred_25 (Λ : Int → Int) : z_RI (zt_X12_barred_25 Λ) := z_ri_seq (z_ot_ic 1) (zrib_X12_barred_30 Λ)
theorem zrib_X12_barred_17 (Λ : Int → Int) : z_RI (zt_X12_barred_17 Λ) := z_ri_seq (z_ot_al 0) (z_ri_seq (z_ot_il 1) (z_ri_seq (z_ot_callv _ z_hbI _ _ _) (z_ri_ifeq (zrib_X12_barred_29 Λ) (zrib_X12_barred_25 Λ))))
theorem zrib_X12_barred_13 (Λ : Int → Int) : z_RI (zt_X12_barred_13 Λ) := z_ri_seq (z_ot_ic (-1)) (zrib_X12_barred_30 Λ)
theorem zrib_X12_barred_0 (Λ : Int → Int) : z_RI (zt_X12_barred_0 Λ) := z_ri_seq (z_ot_al 0) (z_ri_seq (z_ot_ic 0) (z_ri_seq (z_ot_putI 12 2) (z_ri_seq (z_ot_al 0) (z_ri_seq (z_ot_il 1) (z_ri_seq (z_ot_callv _ z_hbI _ _ _) (z_ri_ifeq (zrib_X12_barred_13 Λ) (zrib_X12_barred_17 Λ)))))))
theorem zril_X12_barred (Λ : Int → Int) (l : Nat) : z_RI (zcd_X12_barred Λ l) := match l with
  | 0 => zrib_X12_barred_0 Λ
  | _ + 1 => z_ri_bad
theorem zsh_X12_barred {as : List zV} {M : zM} {r : List zV} {M2 : zM} (h : zm_X12_barred zLa as M = some (r, M2)) : ∃ v, r = [zI v] := z_ri_me ztl_X12_barred zril_X12_barred h
theorem zrib_X12_jury_40 (Λ : Int → Int) : z_RI (zt_X12_jury_40 Λ) := z_ri_iret
theorem zrib_X12_jury_39 (Λ : Int → Int) : z_RI (zt_X12_jury_39 Λ) := z_ri_seq (z_ot_ic 0) (zrib_X12_jury_40 Λ)
theorem zrib_X12_jury_35 (Λ : Int → Int) : z_RI (zt_X12_jury_35 Λ) := z_ri_seq (z_ot_ic 1) (zrib_X12_jury_40 Λ)
theorem zrib_X12_jury_26 (Λ : Int → Int) : z_RI (zt_X12_jury_26 Λ) := z_ri_seq (z_ot_al 0) (z_ri_seq (z_ot_il 1) (z_ri_seq (z_ot_il 2) (z_ri_seq (z_ot_callv _ z_hbI _ _ _) (z_ri_ifeq (zrib_X12_jury_39 Λ) (zrib_X12_jury_35 Λ)))))
theorem zrib_X12_jury_22 (Λ : Int → Int) : z_RI (zt_X12_jury_22 Λ) := z_ri_seq (z_ot_ic (-1)) (zrib_X12_jury_40 Λ)
theorem zrib_X12_jury_13 (Λ : Int → Int) : z_RI (zt_X12_jury_13 Λ) := z_ri_seq (z_ot_il 2) (z_ri_seq (z_ot_ic 0) (z_ri_seq (z_ot_ic 2) (z_ri_seq (z_ot_call _ z_hbI _ _) (z_ri_ifeq (zrib_X12_jury_22 Λ) (zrib_X12_jury_26 Λ)))))
theorem zrib_X12_jury_0 (Λ : Int → Int) : z_RI (zt_X12_jury_0 Λ) := z_ri_seq (z_ot_al 0) (z_ri_seq (z_ot_ic 0) (z_ri_seq (z_ot_putI 12 2) (z_ri_seq (z_ot_al 0) (z_ri_seq (z_ot_il 1) (z_ri_seq (z_ot_callv _ z_hbI _ _ _) (z_ri_ifeq (zrib_X12_jury_22 Λ) (zrib_X12_jury_13 Λ)))))))
theorem zril_X12_jury (Λ : Int → Int) (l : Nat) : z_RI (zcd_X12_jury Λ l) := match l with
  | 0 => zrib_X12_jury_0 Λ
  | _ + 1 => z_ri_bad
theorem zsh_X12_jury {as : List zV} {M : zM} {r : List zV} {M2 : zM} (h : zm_X12_jury zLa as M = some (r, M2)) : ∃ v, r = [zI v] := z_ri_me ztl_X12_jury zril_X12_jury h
theorem zrib_X12_there__15 (Λ : Int → Int) : z_RI (zt_X12_there__15 Λ) := z_ri_seq (z_ot_al 0) (z_ri_seq (z_ot_il 1) (z_ri_seq (z_ot_putI 12 46) (z_ri_seq (z_ot_il 1) (z_ri_seq (z_ot_call _ z_hbI _ _) (z_ri_iret)))))
theorem zrib_X12_there__13 (Λ : Int → Int) : z_RI (zt_X12_there__13 Λ) := z_ri_seq (z_ot_ic (-1)) (z_ri_iret)
theorem zrib_X12_there__0 (Λ : Int → Int) : z_RI (zt_X12_there__0 Λ) := z_ri_seq (z_ot_al 0) (z_ri_seq (z_ot_ic 0) (z_ri_seq (z_ot_putI 12 2) (z_ri_seq (z_ot_al 0) (z_ri_seq (z_ot_il 1) (z_ri_seq (z_ot_callv _ z_hbI _ _ _) (z_ri_ifeq (zrib_X12_there__13 Λ) (zrib_X12_there__15 Λ)))))))
theorem zril_X12_there_ (Λ : Int → Int) (l : Nat) : z_RI (zcd_X12_there_ Λ l) := match l with
  | 0 => zrib_X12_there__0 Λ
  | _ + 1 => z_ri_bad
theorem zsh_X12_there_ {as : List zV} {M : zM} {r : List zV} {M2 : zM} (h : zm_X12_there_ zLa as M = some (r, M2)) : ∃ v, r = [zI v] := z_ri_me ztl_X12_there_ zril_X12_there_ h
theorem zrib_X12_found_98 (Λ : Int → Int) : z_RI (zt_X12_found_98 Λ) := z_ri_iret
theorem zrib_X12_found_90 (Λ : Int → Int) : z_RI (zt_X12_found_90 Λ) := z_ri_seq (z_ot_al 0) (z_ri_seq (z_ot_getI 12 46) (z_ri_seq (z_ot_il 3) (z_ri_seq (z_ot_ic (-1)) (z_ri_seq (z_ot_i2 _) (z_ri_seq (z_ot_i2 _) (zrib_X12_found_98 Λ))))))
theorem zrib_X12_found_79 (Λ : Int → Int) : z_RI (zt_X12_found_79 Λ) := z_ri_seq (z_ot_il 3) (z_ri_seq (z_ot_al 0) (z_ri_seq (z_ot_getI 12 46) (z_ri_seq (z_ot_ic (-1)) (z_ri_seq (z_ot_i2 _) (z_ri_seq (z_ot_i2 _) (zrib_X12_found_98 Λ))))))
theorem zrib_X12_found_75 (Λ : Int → Int) : z_RI (zt_X12_found_75 Λ) := z_ri_seq (z_ot_il 2) (z_ri_ifeq (zrib_X12_found_79 Λ) (zrib_X12_found_90 Λ))
theorem zrib_X12_found_67 (Λ : Int → Int) : z_RI (zt_X12_found_67 Λ) := z_ri_seq (z_ot_i2 _) (z_ri_seq (z_ot_is 3) (z_ri_seq (z_ot_inc 4 1) (z_ri_go 1)))
theorem zrib_X12_found_66 (Λ : Int → Int) : z_RI (zt_X12_found_66 Λ) := z_ri_seq (z_ot_ic 0) (zrib_X12_found_67 Λ)
theorem zrib_X12_found_59 (Λ : Int → Int) : z_RI (zt_X12_found_59 Λ) := z_ri_seq (z_ot_ic 1) (z_ri_seq (z_ot_il 4) (z_ri_seq (z_ot_i2 _) (zrib_X12_found_67 Λ)))
theorem zrib_X12_found_50 (Λ : Int → Int) : z_RI (zt_X12_found_50 Λ) := z_ri_seq (z_ot_al 0) (z_ri_seq (z_ot_il 4) (z_ri_seq (z_ot_callv _ z_hbI _ _ _) (z_ri_ifeq (zrib_X12_found_59 Λ) (zrib_X12_found_66 Λ))))
theorem zrib_X12_found_39 (Λ : Int → Int) : z_RI (zt_X12_found_39 Λ) := z_ri_seq (z_ot_il 3) (z_ri_seq (z_ot_al 0) (z_ri_seq (z_ot_il 4) (z_ri_seq (z_ot_il 1) (z_ri_seq (z_ot_callv _ z_hbI _ _ _) (z_ri_ifeq (zrib_X12_found_66 Λ) (zrib_X12_found_50 Λ))))))
theorem zrib_X12_found_30 (Λ : Int → Int) : z_RI (zt_X12_found_30 Λ) := z_ri_seq (z_ot_il 4) (z_ri_seq (z_ot_al 0) (z_ri_seq (z_ot_getI 12 12) (z_ri_icmplt (zrib_X12_found_39 Λ) (zrib_X12_found_75 Λ))))
theorem zrib_X12_found_25 (Λ : Int → Int) : z_RI (zt_X12_found_25 Λ) := z_ri_seq (z_ot_ic 0) (z_ri_seq (z_ot_is 3) (z_ri_seq (z_ot_ic 0) (z_ri_seq (z_ot_is 4) (z_ri_go 1))))
theorem zrib_X12_found_23 (Λ : Int → Int) : z_RI (zt_X12_found_23 Λ) := z_ri_seq (z_ot_ic (-1)) (z_ri_iret)
theorem zrib_X12_found_14 (Λ : Int → Int) : z_RI (zt_X12_found_14 Λ) := z_ri_seq (z_ot_il 2) (z_ri_seq (z_ot_ic 0) (z_ri_seq (z_ot_ic 1) (z_ri_seq (z_ot_call _ z_hbI _ _) (z_ri_ifeq (zrib_X12_found_23 Λ) (zrib_X12_found_25 Λ)))))
theorem zrib_X12_found_0 (Λ : Int → Int) : z_RI (zt_X12_found_0 Λ) := z_ri_seq (z_ot_al 0) (z_ri_seq (z_ot_ic 0) (z_ri_seq (z_ot_putI 12 2) (z_ri_seq (z_ot_il 1) (z_ri_seq (z_ot_ic 0) (z_ri_seq (z_ot_ic 2) (z_ri_seq (z_ot_call _ z_hbI _ _) (z_ri_ifeq (zrib_X12_found_23 Λ) (zrib_X12_found_14 Λ))))))))
theorem zril_X12_found (Λ : Int → Int) (l : Nat) : z_RI (zcd_X12_found Λ l) := match l with
  | 0 => zrib_X12_found_0 Λ
  | 1 => zrib_X12_found_30 Λ
  | _ + 2 => z_ri_bad
theorem zsh_X12_found {as : List zV} {M : zM} {r : List zV} {M2 : zM} (h : zm_X12_found zLa as M = some (r, M2)) : ∃ v, r = [zI v] := z_ri_me ztl_X12_found zril_X12_found h
theorem zrib_X12_count_92 (Λ : Int → Int) : z_RI (zt_X12_count_92 Λ) := z_ri_seq (z_ot_ic (-1)) (z_ri_iret)
theorem zrib_X12_count_87 (Λ : Int → Int) : z_RI (zt_X12_count_87 Λ) := z_ri_seq (z_ot_al 0) (z_ri_seq (z_ot_getI 12 44) (z_ri_iret))
theorem zrib_X12_count_82 (Λ : Int → Int) : z_RI (zt_X12_count_82 Λ) := z_ri_seq (z_ot_al 0) (z_ri_seq (z_ot_getI 12 45) (z_ri_iret))
theorem zrib_X12_count_77 (Λ : Int → Int) : z_RI (zt_X12_count_77 Λ) := z_ri_seq (z_ot_al 0) (z_ri_seq (z_ot_getI 12 15) (z_ri_iret))
theorem zrib_X12_count_72 (Λ : Int → Int) : z_RI (zt_X12_count_72 Λ) := z_ri_seq (z_ot_al 0) (z_ri_seq (z_ot_getI 12 14) (z_ri_iret))
theorem zrib_X12_count_67 (Λ : Int → Int) : z_RI (zt_X12_count_67 Λ) := z_ri_seq (z_ot_al 0) (z_ri_seq (z_ot_callv _ z_hbI _ _ _) (z_ri_iret))
theorem zrib_X12_count_62 (Λ : Int → Int) : z_RI (zt_X12_count_62 Λ) := z_ri_seq (z_ot_al 0) (z_ri_seq (z_ot_getI 12 13) (z_ri_iret))
theorem zrib_X12_count_57 (Λ : Int → Int) : z_RI (zt_X12_count_57 Λ) := z_ri_seq (z_ot_al 0) (z_ri_seq (z_ot_getI 12 12) (z_ri_iret))
theorem zrib_X12_count_52 (Λ : Int → Int) : z_RI (zt_X12_count_52 Λ) := z_ri_seq (z_ot_al 0) (z_ri_seq (z_ot_getI 12 11) (z_ri_iret))
theorem zrib_X12_count_0 (Λ : Int → Int) : z_RI (zt_X12_count_0 Λ) := z_ri_seq (z_ot_al 0) (z_ri_seq (z_ot_ic 0) (z_ri_seq (z_ot_putI 12 2) (z_ri_seq (z_ot_il 1) (z_ri_sw (z_ri_c (zrib_X12_count_52 Λ) (z_ri_c (zrib_X12_count_57 Λ) (z_ri_c (zrib_X12_count_62 Λ) (z_ri_c (zrib_X12_count_67 Λ) (z_ri_c (zrib_X12_count_72 Λ) (z_ri_c (zrib_X12_count_77 Λ) (z_ri_c (zrib_X12_count_82 Λ) (z_ri_c (zrib_X12_count_87 Λ) (z_ri_n))))))))) (zrib_X12_count_92 Λ)))))
theorem zril_X12_count (Λ : Int → Int) (l : Nat) : z_RI (zcd_X12_count Λ l) := match l with
  | 0 => zrib_X12_count_0 Λ
  | _ + 1 => z_ri_bad
theorem zsh_X12_count {as : List zV} {M : zM} {r : List zV} {M2 : zM} (h : zm_X12_count zLa as M = some (r, M2)) : ∃ v, r = [zI v] := z_ri_me ztl_X12_count zril_X12_count h
end
