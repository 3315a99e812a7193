/-! ===== the other branches, jumps, switches, returns ===== -/
section
variable {X : zX} {own : String} {cc : ByteArray} {nL : Nat} {ret : Option FieldType} {kd : Nat} {pc : Nat} {P : Nat → Nat}
theorem z_st_ifge (hC : z_Cx X own cc nL ret kd) {off : Int} {tgt : Nat} {t f : zTm} (hd : decode cc pc = .ok (.ifCond .ge off, 3)) (ht : (pc : Int) + off = (tgt : Int)) (h1 : z_St X P tgt t) (h2 : z_St X P (pc + 3) f) : z_St X P pc (z_iflt f t) := z_st_if (c := fun v => v < 0) (C := fun v => v < 0) (fun v hv => z_lt32 hv z_rI_0) h2 h1 (fun a b => lv_if_ge hC.1 hC.2.1 hd ht (fun q => b ((z_nlt32 _ _).mpr q)) (fun q => a ((z_nle32 _ _).mp q)))
theorem z_st_ifgt (hC : z_Cx X own cc nL ret kd) {off : Int} {tgt : Nat} {t f : zTm} (hd : decode cc pc = .ok (.ifCond .gt off, 3)) (ht : (pc : Int) + off = (tgt : Int)) (h1 : z_St X P tgt t) (h2 : z_St X P (pc + 3) f) : z_St X P pc (z_ifle f t) := z_st_if (c := fun v => v ≤ 0) (C := fun v => v ≤ 0) (fun v hv => z_le32 hv z_rI_0) h2 h1 (fun a b => lv_if_gt hC.1 hC.2.1 hd ht (fun q => b ((z_nle32 _ _).mpr q)) (fun q => a ((z_nlt32 _ _).mp q)))
theorem z_st_icmpeq (hC : z_Cx X own cc nL ret kd) {off : Int} {tgt : Nat} {t f : zTm} (hd : decode cc pc = .ok (.if_icmp .eq off, 3)) (ht : (pc : Int) + off = (tgt : Int)) (h1 : z_St X P tgt t) (h2 : z_St X P (pc + 3) f) : z_St X P pc (z_icmpeq t f) := z_st_if2 (c := fun v w => v = w) (C := fun v w => v = w) (fun v w hv hw => z_eq32 hv hw) h1 h2 (fun a b => lv_icmp_eq hC.1 hC.2.1 hd ht a b)
theorem z_st_icmpne (hC : z_Cx X own cc nL ret kd) {off : Int} {tgt : Nat} {t f : zTm} (hd : decode cc pc = .ok (.if_icmp .ne off, 3)) (ht : (pc : Int) + off = (tgt : Int)) (h1 : z_St X P tgt t) (h2 : z_St X P (pc + 3) f) : z_St X P pc (z_icmpeq f t) := z_st_if2 (c := fun v w => v = w) (C := fun v w => v = w) (fun v w hv hw => z_eq32 hv hw) h2 h1 (fun a b => lv_icmp_ne hC.1 hC.2.1 hd ht b a)
theorem z_st_icmplt (hC : z_Cx X own cc nL ret kd) {off : Int} {tgt : Nat} {t f : zTm} (hd : decode cc pc = .ok (.if_icmp .lt off, 3)) (ht : (pc : Int) + off = (tgt : Int)) (h1 : z_St X P tgt t) (h2 : z_St X P (pc + 3) f) : z_St X P pc (z_icmplt t f) := z_st_if2 (c := fun v w => v < w) (C := fun v w => v < w) (fun v w hv hw => z_lt32 hv hw) h1 h2 (fun a b => lv_icmp_lt hC.1 hC.2.1 hd ht a b)
theorem z_st_icmpge (hC : z_Cx X own cc nL ret kd) {off : Int} {tgt : Nat} {t f : zTm} (hd : decode cc pc = .ok (.if_icmp .ge off, 3)) (ht : (pc : Int) + off = (tgt : Int)) (h1 : z_St X P tgt t) (h2 : z_St X P (pc + 3) f) : z_St X P pc (z_icmplt f t) := z_st_if2 (c := fun v w => v < w) (C := fun v w => v < w) (fun v w hv hw => z_lt32 hv hw) h2 h1 (fun a b => lv_icmp_ge hC.1 hC.2.1 hd ht (fun q => b ((z_nlt32 _ _).mpr q)) (fun q => a ((z_nle32 _ _).mp q)))
theorem z_st_icmple (hC : z_Cx X own cc nL ret kd) {off : Int} {tgt : Nat} {t f : zTm} (hd : decode cc pc = .ok (.if_icmp .le off, 3)) (ht : (pc : Int) + off = (tgt : Int)) (h1 : z_St X P tgt t) (h2 : z_St X P (pc + 3) f) : z_St X P pc (z_icmple t f) := z_st_if2 (c := fun v w => v ≤ w) (C := fun v w => v ≤ w) (fun v w hv hw => z_le32 hv hw) h1 h2 (fun a b => lv_icmp_le hC.1 hC.2.1 hd ht a b)
theorem z_st_icmpgt (hC : z_Cx X own cc nL ret kd) {off : Int} {tgt : Nat} {t f : zTm} (hd : decode cc pc = .ok (.if_icmp .gt off, 3)) (ht : (pc : Int) + off = (tgt : Int)) (h1 : z_St X P tgt t) (h2 : z_St X P (pc + 3) f) : z_St X P pc (z_icmple f t) := z_st_if2 (c := fun v w => v ≤ w) (C := fun v w => v ≤ w) (fun v w hv hw => z_le32 hv hw) h2 h1 (fun a b => lv_icmp_gt hC.1 hC.2.1 hd ht (fun q => b ((z_nle32 _ _).mpr q)) (fun q => a ((z_nlt32 _ _).mp q)))
theorem z_st_goto (hC : z_Cx X own cc nL ret kd) {off : Int} {tgt : Nat} {t : zTm} (hd : decode cc pc = .ok (.goto off, 3)) (ht : (pc : Int) + off = (tgt : Int)) (h1 : z_St X P tgt t) : z_St X P pc t := fun L st M =>
  z_st_sub (T := t) (t := t) (r := st) (fun _ => rfl) h1 (fun hw H locs ls hR hl ho hs => lv_goto hC.1 hC.2.1 hd ht (hw H locs ls hR hl ho hs))
/-! switches -/
def z_Sw (X : zX) (P : Nat → Nat) (Q : Int → Nat → Prop) : List (Int × zTm) → Prop
  | [] => True
  | q :: l => (∃ tgt, Q q.1 tgt ∧ z_St X P tgt q.2) ∧ z_Sw X P Q l
theorem z_sw_go {Q : Int → Nat → Prop} {v : Int} {L r : List zV} {M : zM} {d : zTm} : ∀ (ts : List (Int × zTm)), z_Sw X P Q ts → (∃ t tgt, Q v tgt ∧ z_St X P tgt t ∧ ∀ g, z_swx v L r M g d ts = t L r M g) ∨ ((∀ q ∈ ts, q.1 ≠ v) ∧ ∀ g, z_swx v L r M g d ts = d L r M g) := by
  intro ts
  induction ts with
  | nil => intro _; exact Or.inr ⟨fun q h => (by cases h), fun g => rfl⟩
  | cons q l ih =>
    intro h
    obtain ⟨⟨tgt, h1, h2⟩, h3⟩ := h
    obtain ⟨k, t⟩ := q
    by_cases hk : v = k
    · subst hk
      exact Or.inl ⟨t, tgt, h1, h2, fun g => by simp [z_swx]⟩
    · rcases ih h3 with ⟨t', tgt', a, b, e⟩ | ⟨a, e⟩
      · exact Or.inl ⟨t', tgt', a, b, fun g => by simp only [z_swx, if_neg hk]; exact e g⟩
      · refine Or.inr ⟨fun q hq => ?_, fun g => by simp only [z_swx, if_neg hk]; exact e g⟩
        rcases List.mem_cons.mp hq with rfl | hq
        · exact fun e => hk e.symm
        · exact a q hq
theorem z_st_sw {Q : Int → Nat → Prop} {pd : Nat} {ts : List (Int × zTm)} {d : zTm} (h1 : z_Sw X P Q ts) (h2 : z_St X P pd d)
    (row1 : ∀ {H : Heap} {locs : List Loc} {ls : Array Slot} {rest : List Value} {v : Int} {tgt : Nat}, z_rI v → Q v tgt → x_W X H locs (F0 (x_m X) tgt ls rest) → x_W X H locs (F0 (x_m X) pc ls (.int (Int32.ofInt v) :: rest)))
    (row2 : ∀ {H : Heap} {locs : List Loc} {ls : Array Slot} {rest : List Value} {v : Int}, z_rI v → (∀ q ∈ ts, q.1 ≠ v) → x_W X H locs (F0 (x_m X) pd ls rest) → x_W X H locs (F0 (x_m X) pc ls (.int (Int32.ofInt v) :: rest))) : z_St X P pc (z_sw ts d) := by
  intro L st M
  rcases st with _ | ⟨v | v | v | v, r⟩
  · exact z_st_none (T := z_sw ts d) (fun _ => rfl)
  · rcases z_sw_go (v := v) (L := L) (r := r) (M := M) (d := d) ts h1 with ⟨t, tgt, a, b, e⟩ | ⟨a, e⟩
    · exact z_st_sub (T := z_sw ts d) (t := t) (pt := tgt) (r := r) (fun g => e g) b (fun hw H locs ls hR hl ho hs => row1 (hs _ List.mem_cons_self) a (hw H locs ls hR hl ho (fun w hv => hs w (List.mem_cons_of_mem _ hv))))
    · exact z_st_sub (T := z_sw ts d) (t := d) (pt := pd) (r := r) (fun g => e g) h2 (fun hw H locs ls hR hl ho hs => row2 (hs _ List.mem_cons_self) a (hw H locs ls hR hl ho (fun w hv => hs w (List.mem_cons_of_mem _ hv))))
  all_goals exact z_st_none (T := z_sw ts d) (fun _ => rfl)
def z_tabQ (pc : Nat) (lo hi : Int) (offs : Array Int) (k : Int) (tgt : Nat) : Prop := lo ≤ k ∧ k ≤ hi ∧ ∃ off, offs[(k - lo).toNat]? = some off ∧ (pc : Int) + off = tgt
theorem z_st_table (hC : z_Cx X own cc nL ret kd) {dflt lo hi : Int} {offs : Array Int} {len : Nat} {pd : Nat} {ts : List (Int × zTm)} {d : zTm} (hd : decode cc pc = .ok (.tableswitch dflt lo hi offs, len)) (ht : (pc : Int) + dflt = (pd : Int)) (hcov : ∀ v, (∀ q ∈ ts, q.1 ≠ v) → v < lo ∨ hi < v)
    (h1 : z_Sw X P (z_tabQ pc lo hi offs) ts) (h2 : z_St X P pd d) : z_St X P pc (z_sw ts d) :=
  z_st_sw h1 h2 (fun hv hQ k => by
    obtain ⟨a, b, off, e1, e2⟩ := hQ
    exact lv_tableIn hC.1 hC.2.1 hd (by rw [z_ti hv]; omega) (by rw [z_ti hv]; omega) (by rw [z_ti hv]; exact e1) e2 k) (fun hv hq k => lv_tableOut hC.1 hC.2.1 hd (by rw [z_ti hv]; exact hcov _ hq) ht k)
def z_lokQ (pc : Nat) (dflt : Int) (ps : Array (Int × Int)) (k : Int) (tgt : Nat) : Prop := ∃ off, Op.lookupswitch.offset ps.toList dflt k = off ∧ (pc : Int) + off = tgt
theorem z_st_lookup (hC : z_Cx X own cc nL ret kd) {dflt : Int} {ps : Array (Int × Int)} {len : Nat} {pd : Nat} {ts : List (Int × zTm)} {d : zTm} (hd : decode cc pc = .ok (.lookupswitch dflt ps, len)) (hp : (ps.toList.zip (ps.toList.drop 1)).all (fun (a, next) => a.1 < next.1) = true) (ht : (pc : Int) + dflt = (pd : Int)) (hcov : ∀ v, (∀ q ∈ ts, q.1 ≠ v) → Op.lookupswitch.offset ps.toList dflt v = dflt)
    (h1 : z_Sw X P (z_lokQ pc dflt ps) ts) (h2 : z_St X P pd d) : z_St X P pc (z_sw ts d) :=
  z_st_sw h1 h2 (fun hv hQ k => by
    obtain ⟨off, e1, e2⟩ := hQ
    exact lv_lookup hC.1 hC.2.1 hd hp (by rw [z_ti hv]; exact e1) e2 k) (fun hv hq k => lv_lookup hC.1 hC.2.1 hd hp (by rw [z_ti hv]; exact hcov _ hq) ht k)
theorem z_tl_swx {d : zTm} (hd : z_Tl d) : ∀ (ts : List (Int × zTm)), (∀ q ∈ ts, z_Tl q.2) → ∀ (v : Int), z_Tl (fun L r M g => z_swx v L r M g d ts) := by
  intro ts
  induction ts with
  | nil => intro _ v; exact hd
  | cons q l ih =>
    intro h v
    obtain ⟨k, t⟩ := q
    by_cases hk : v = k
    · have e : (fun L r M g => z_swx v L r M g d ((k, t) :: l)) = t := by funext L r M g; simp [z_swx, hk]
      rw [e]
      exact h _ List.mem_cons_self
    · have e : (fun L r M g => z_swx v L r M g d ((k, t) :: l)) = (fun L r M g => z_swx v L r M g d l) := by funext L r M g; simp [z_swx, hk]
      rw [e]
      exact ih (fun q hq => h q (List.mem_cons_of_mem _ hq)) v
theorem z_tl_sw {ts : List (Int × zTm)} {d : zTm} (h : ∀ q ∈ ts, z_Tl q.2) (hd : z_Tl d) : z_Tl (z_sw ts d) := by
  intro L st M
  rcases st with _ | ⟨v | v | v | v, r⟩
  · exact Or.inl ⟨none, fun _ => rfl⟩
  · exact z_tl_swx hd ts h v L r M
  all_goals exact Or.inl ⟨none, fun _ => rfl⟩
theorem z_tl_n : ∀ q ∈ ([] : List (Int × zTm)), z_Tl q.2 := fun q h => by cases h
theorem z_tl_c {k : Int} {t : zTm} {l : List (Int × zTm)} (h : z_Tl t) (hl : ∀ q ∈ l, z_Tl q.2) : ∀ q ∈ (k, t) :: l, z_Tl q.2 := fun q hq => by
  rcases List.mem_cons.mp hq with rfl | hq
  · exact h
  · exact hl q hq
/-! returns -/
theorem z_tl_iret : z_Tl z_iret := by
  intro L st M
  rcases st with _ | ⟨v | v | v | v, _ | ⟨w, r⟩⟩ <;> exact Or.inl ⟨_, fun _ => rfl⟩
theorem z_tl_zret : z_Tl z_zret := by
  intro L st M
  rcases st with _ | ⟨v | v | v | v, _ | ⟨w, r⟩⟩ <;> exact Or.inl ⟨_, fun _ => rfl⟩
theorem z_tl_lret : z_Tl z_lret := by
  intro L st M
  rcases st with _ | ⟨v | v | v | v, _ | ⟨w, r⟩⟩ <;> exact Or.inl ⟨_, fun _ => rfl⟩
theorem z_tl_vret : z_Tl z_vret := by
  intro L st M
  rcases st with _ | ⟨v, r⟩ <;> exact Or.inl ⟨_, fun _ => rfl⟩
theorem z_st_ret {T : zTm} {L st : List zV} {M : zM} {r0 : List zV × zM} (hg : ∀ g, T L st M g = some (.inl r0)) (hw : x_po X r0 → z_Wn X pc L st M) :
    (∀ q, (∀ g, T L st M g = some (.inl q)) → x_po X q → z_Wn X pc L st M) ∧
    (∀ n L' st' M', (∀ g, T L st M g = some (.inr (n, L', st', M'))) → z_Wn X (P n) L' st' M' → z_Wn X pc L st M) ∧
    (∀ n L' st' M', (∀ g, T L st M g = g n L' st' M') → z_Wn X (P n) L' st' M' → z_Wn X pc L st M) := by
  refine ⟨fun q hq hp => ?_, fun n L' st' M' hq => ?_, fun n L' st' M' hq => ?_⟩
  · have := Sum.inl.inj (Option.some.inj ((hg z_g0).symm.trans (hq z_g0)))
    subst this
    exact hw hp
  · have := (hg z_g0).symm.trans (hq z_g0); cases this
  · have := (hg z_g0).symm.trans (hq z_g0); cases this
theorem z_st_iret (hC : z_Cx X own cc nL (some .int) kd) (hd : decode cc pc = .ok (.ireturn, 1)) : z_St X P pc z_iret := by
  obtain ⟨hx, hb, hml, hown, hts, hlk, hrt, hK, hrm, hQ⟩ := hC
  intro L st M
  rcases st with _ | ⟨v | v | v | v, _ | ⟨w, r⟩⟩
  case cons.inl.nil =>
    refine z_st_ret (T := z_iret) (r0 := ([zI v], M)) (fun _ => rfl) (fun hp H locs ls hR hl ho hs => ?_)
    show W _ _ _ _ _ _ _ _ _ _ _ _ _ _ (x_Q X) _
    rw [hQ _ hp]
    exact W.iret (v := Int32.ofInt v) hx hb hrt (fun t ht hW => ⟨rfl, by rw [ht]; exact hR.1, hR.2.2.2, hs, by simp, hR.2.2.1.F ht⟩) hR.2.2.1.2.2 hd hlk
  all_goals exact z_st_none (T := z_iret) (fun _ => rfl)
theorem z_st_lret (hC : z_Cx X own cc nL (some .long) kd) (hd : decode cc pc = .ok (.lreturn, 1)) : z_St X P pc z_lret := by
  obtain ⟨hx, hb, hml, hown, hts, hlk, hrt, hK, hrm, hQ⟩ := hC
  intro L st M
  rcases st with _ | ⟨v | v | v | v, _ | ⟨w, r⟩⟩
  case cons.inr.inl.nil =>
    refine z_st_ret (T := z_lret) (r0 := ([zJ v], M)) (fun _ => rfl) (fun hp H locs ls hR hl ho hs => ?_)
    show W _ _ _ _ _ _ _ _ _ _ _ _ _ _ (x_Q X) _
    rw [hQ _ hp]
    exact W.lret (v := Int64.ofInt v) hx hb hrt (fun t ht hW => ⟨rfl, by rw [ht]; exact hR.1, hR.2.2.2, hs, by simp, hR.2.2.1.F ht⟩) hR.2.2.1.2.2 hd hlk
  all_goals exact z_st_none (T := z_lret) (fun _ => rfl)
theorem z_st_vret (hC : z_Cx X own cc nL none kd) (hd : decode cc pc = .ok (.return_, 1)) : z_St X P pc z_vret := by
  obtain ⟨hx, hb, hml, hown, hts, hlk, hrt, hK, hrm, hQ⟩ := hC
  intro L st M
  rcases st with _ | ⟨v, r⟩
  · refine z_st_ret (T := z_vret) (r0 := ([], M)) (fun _ => rfl) (fun hp H locs ls hR hl ho hs => ?_)
    show W _ _ _ _ _ _ _ _ _ _ _ _ _ _ (x_Q X) _
    rw [hQ _ hp]
    exact W.vret hx hb hrt (fun t ht hW => ⟨rfl, by rw [ht]; exact hR.1, hR.2.2.2, hs, by simp, hR.2.2.1.F ht⟩) hR.2.2.1.2.2 hd hlk
  · exact z_st_none (T := z_vret) (fun _ => rfl)
theorem z_nar {v : Int} (h : v = 0 ∨ v = 1) : narrow .boolean (.int (Int32.ofInt v)) = .int (Int32.ofInt v) := by
  rcases h with rfl | rfl <;> decide
theorem z_st_zret (hC : z_Cx X own cc nL (some .boolean) kd) (hd : decode cc pc = .ok (.ireturn, 1)) : z_St X P pc z_zret := by
  obtain ⟨hx, hb, hml, hown, hts, hlk, hrt, hK, hrm, hQ⟩ := hC
  intro L st M
  rcases st with _ | ⟨v | v | v | v, _ | ⟨w, r⟩⟩
  case cons.inl.nil =>
    by_cases h01 : v = 0 ∨ v = 1
    · refine z_st_ret (T := z_zret) (r0 := ([zI v], M)) (fun _ => by simp only [z_zret, if_pos h01]) (fun hp H locs ls hR hl ho hs => ?_)
      show W _ _ _ _ _ _ _ _ _ _ _ _ _ _ (x_Q X) _
      rw [hQ _ hp]
      exact W.zret (v := Int32.ofInt v) hx hb hrt (z_nar h01) (fun t ht hW => ⟨rfl, by rw [ht]; exact hR.1, hR.2.2.2, hs, by simp, hR.2.2.1.F ht⟩) hR.2.2.1.2.2 hd hlk
    · exact z_st_none (T := z_zret) (fun _ => by simp only [z_zret, if_neg h01])
  all_goals exact z_st_none (T := z_zret) (fun _ => rfl)
end
