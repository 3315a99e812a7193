/-! ===== arrays ===== -/
theorem z_clamp {i : Int} (hi : z_rI i) (h0 : 0 ≤ i) : ((Int32.ofInt i).toNatClampNeg : Int) = i := by
  have h : (Int32.ofInt i).toNatClampNeg = (Int32.ofInt i).toInt.toNat := rfl
  rw [h, z_ti hi]
  exact Int.toNat_of_nonneg h0
theorem z_vpin {i n : Int} (hi : z_rI i) (h0 : 0 ≤ i) (h1 : i < n) : vp_in (Int32.ofInt i) n.toNat := by
  rw [vp_in_iff, z_ti hi]
  omega
section
variable {X : zX} {own : String} {cc : ByteArray} {nL : Nat} {ret : Option FieldType} {kd : Nat} {pc : Nat} {P : Nat → Nat}
theorem z_ot_ald (t : Nat) (Λ : Int → Int) : z_Ot (z_ald t Λ) := by
  intro L st M
  rcases st with _ | ⟨i | v | v | v, _ | ⟨w | w | q | w, r⟩⟩ <;> first | exact Or.inl fun _ => rfl | skip
  cases hb : Nat.beq q.1 t
  · exact Or.inl fun _ => by simp [z_ald, hb]
  · by_cases h : 0 ≤ i ∧ i < Λ q.2
    · exact Or.inr ⟨L, zI (M q.2 i) :: r, M, fun _ => by simp [z_ald, hb, h]⟩
    · exact Or.inl fun _ => by simp only [z_ald, hb, if_neg h]
theorem z_ot_lald (Λ : Int → Int) : z_Ot (z_lald Λ) := by
  intro L st M
  rcases st with _ | ⟨i | v | v | v, _ | ⟨w | w | q | w, r⟩⟩ <;> first | exact Or.inl fun _ => rfl | skip
  cases hb : Nat.beq q.1 15
  · exact Or.inl fun _ => by simp [z_lald, hb]
  · by_cases h : 0 ≤ i ∧ i < Λ q.2
    · exact Or.inr ⟨L, zJ (M q.2 i) :: r, M, fun _ => by simp [z_lald, hb, h]⟩
    · exact Or.inl fun _ => by simp only [z_lald, hb, if_neg h]
theorem z_ot_ast (Λ : Int → Int) : z_Ot (z_ast Λ) := by
  intro L st M
  rcases st with _ | ⟨x | x | x | x, _ | ⟨i | i | i | i, _ | ⟨w | w | q | w, r⟩⟩⟩ <;> first | exact Or.inl fun _ => rfl | skip
  cases hb : Nat.beq q.1 13
  · exact Or.inl fun _ => by simp [z_ast, hb]
  · by_cases h : 0 ≤ i ∧ i < Λ q.2
    · exact Or.inr ⟨L, r, z_wr M q.2 i x, fun _ => by simp [z_ast, hb, h]⟩
    · exact Or.inl fun _ => by simp only [z_ast, hb, if_neg h]
theorem z_ot_zst (Λ : Int → Int) : z_Ot (z_zst Λ) := by
  intro L st M
  rcases st with _ | ⟨x | x | x | x, _ | ⟨i | i | i | i, _ | ⟨w | w | q | w, r⟩⟩⟩ <;> first | exact Or.inl fun _ => rfl | skip
  cases hb : Nat.beq q.1 14
  · exact Or.inl fun _ => by simp [z_zst, hb]
  · by_cases h : (0 ≤ i ∧ i < Λ q.2) ∧ (x = 0 ∨ x = 1)
    · exact Or.inr ⟨L, r, z_wr M q.2 i x, fun _ => by simp only [z_zst, hb, if_pos h]⟩
    · exact Or.inl fun _ => by simp only [z_zst, hb, if_neg h]
theorem z_ot_last (Λ : Int → Int) : z_Ot (z_last Λ) := by
  intro L st M
  rcases st with _ | ⟨x | x | x | x, _ | ⟨i | i | i | i, _ | ⟨w | w | q | w, r⟩⟩⟩ <;> first | exact Or.inl fun _ => rfl | skip
  cases hb : Nat.beq q.1 15
  · exact Or.inl fun _ => by simp [z_last, hb]
  · by_cases h : 0 ≤ i ∧ i < Λ q.2
    · exact Or.inr ⟨L, r, z_wr M q.2 i x, fun _ => by simp [z_last, hb, h]⟩
    · exact Or.inl fun _ => by simp only [z_last, hb, if_neg h]
theorem z_ot_alen (t : Nat) (Λ : Int → Int) : z_Ot (z_alen t Λ) := by
  intro L st M
  rcases st with _ | ⟨v | v | q | v, r⟩ <;> first | exact Or.inl fun _ => rfl | skip
  cases hb : Nat.beq q.1 t
  · exact Or.inl fun _ => by simp [z_alen, hb]
  · exact Or.inr ⟨L, zI (Λ q.2) :: r, M, fun _ => by simp [z_alen, hb]⟩
theorem z_arr_i {t : Nat} {M : zM} {a : Int} (ht : t = 13 ∨ t = 14) (ha : x_ok X (zA t a)) : (x_ws X M)[a.toNat]? = some (x_al X a.toNat, .inl (x_ga X a.toNat, (x_La X a).toNat, .inl (fun j => Int32.ofInt (M a j)))) := by
  obtain ⟨ha0, han, hat⟩ := ha
  have ea : ((a.toNat : Nat) : Int) = a := Int.toNat_of_nonneg ha0
  rw [z_ws_get han, hat, z_cell_i ht, ea]
theorem z_arr_j {M : zM} {a : Int} (ha : x_ok X (zA 15 a)) : (x_ws X M)[a.toNat]? = some (x_al X a.toNat, .inl (x_ga X a.toNat, (x_La X a).toNat, .inr (.inl (fun j => Int64.ofInt (M a j))))) := by
  obtain ⟨ha0, han, hat⟩ := ha
  have ea : ((a.toNat : Nat) : Int) = a := Int.toNat_of_nonneg ha0
  rw [z_ws_get han, hat, z_cell_j, ea]
theorem z_arr_rI {t : Nat} {M : zM} {H : Heap} {locs : List Loc} (hR : z_Rl X M H locs) {a i : Int} (ht : t = 13 ∨ t = 14) (ha : x_ok X (zA t a)) (h0 : 0 ≤ i) (h1 : i < x_La X a) : z_rI (M a i) := by
  obtain ⟨ha0, han, hat⟩ := ha
  have h := (hR.2.2.2 a.toNat han).2.1 (by rw [hat]; exact ht) i.toNat (by rw [Int.toNat_of_nonneg ha0, Int.toNat_of_nonneg h0]; exact h1)
  rw [Int.toNat_of_nonneg ha0, Int.toNat_of_nonneg h0] at h
  exact h
theorem z_arr_rJ {M : zM} {H : Heap} {locs : List Loc} (hR : z_Rl X M H locs) {a i : Int} (ha : x_ok X (zA 15 a)) (h0 : 0 ≤ i) (h1 : i < x_La X a) : z_rJ (M a i) := by
  obtain ⟨ha0, han, hat⟩ := ha
  have h := (hR.2.2.2 a.toNat han).2.2 hat i.toNat (by rw [Int.toNat_of_nonneg ha0, Int.toNat_of_nonneg h0]; exact h1)
  rw [Int.toNat_of_nonneg ha0, Int.toNat_of_nonneg h0] at h
  exact h
theorem z_so_iald (hC : z_Cx X own cc nL ret kd) (hd : decode cc pc = .ok (.iaload, 1)) : z_So X pc (pc + 1) (z_ald 13 (x_La X)) := by
  refine z_so_mk fun L st M => ?_
  rcases st with _ | ⟨i | v | v | v, _ | ⟨w | w | ⟨t', a⟩ | w, r⟩⟩ <;> first | exact Or.inl fun _ => rfl | skip
  cases hb : Nat.beq t' 13
  · exact Or.inl fun _ => by simp [z_ald, hb]
  · have := Nat.eq_of_beq_eq_true hb
    subst this
    by_cases h : 0 ≤ i ∧ i < x_La X a
    · refine Or.inr ⟨L, zI (M a i) :: r, M, fun _ => by simp only [z_ald, hb, if_pos h], fun hw H locs ls hR hl ho hs => ?_⟩
      have hi : z_rI i := hs _ List.mem_cons_self
      have ha : x_ok X (zA 13 a) := hs _ (List.mem_cons_of_mem _ List.mem_cons_self)
      have hK := (hC.2.2.2.2.2.2.2.1.2.2 a.toNat ha.2.1).1 ha.2.2
      refine va_iald hC.1 hC.2.1 hK hR.1 a.toNat 0 (z_arr_i (Or.inl rfl) ha) rfl (z_vpin hi h.1 h.2) hd ?_
      rw [z_clamp hi h.1]
      exact hw H locs ls hR hl ho (fun u hu => by
        rcases List.mem_cons.mp hu with rfl | hu
        · exact z_arr_rI hR (Or.inl rfl) ha h.1 h.2
        · exact hs u (List.mem_cons_of_mem _ (List.mem_cons_of_mem _ hu)))
    · exact Or.inl fun _ => by simp only [z_ald, hb, if_neg h]
theorem z_so_zald (hC : z_Cx X own cc nL ret kd) (hd : decode cc pc = .ok (.baload, 1)) : z_So X pc (pc + 1) (z_ald 14 (x_La X)) := by
  refine z_so_mk fun L st M => ?_
  rcases st with _ | ⟨i | v | v | v, _ | ⟨w | w | ⟨t', a⟩ | w, r⟩⟩ <;> first | exact Or.inl fun _ => rfl | skip
  cases hb : Nat.beq t' 14
  · exact Or.inl fun _ => by simp [z_ald, hb]
  · have := Nat.eq_of_beq_eq_true hb
    subst this
    by_cases h : 0 ≤ i ∧ i < x_La X a
    · refine Or.inr ⟨L, zI (M a i) :: r, M, fun _ => by simp only [z_ald, hb, if_pos h], fun hw H locs ls hR hl ho hs => ?_⟩
      have hi : z_rI i := hs _ List.mem_cons_self
      have ha : x_ok X (zA 14 a) := hs _ (List.mem_cons_of_mem _ List.mem_cons_self)
      have hK := (hC.2.2.2.2.2.2.2.1.2.2 a.toNat ha.2.1).2.1 ha.2.2
      refine va_zald hC.1 hC.2.1 hK hR.1 a.toNat 0 (z_arr_i (Or.inr rfl) ha) rfl (z_vpin hi h.1 h.2) hd ?_
      rw [z_clamp hi h.1]
      exact hw H locs ls hR hl ho (fun u hu => by
        rcases List.mem_cons.mp hu with rfl | hu
        · exact z_arr_rI hR (Or.inr rfl) ha h.1 h.2
        · exact hs u (List.mem_cons_of_mem _ (List.mem_cons_of_mem _ hu)))
    · exact Or.inl fun _ => by simp only [z_ald, hb, if_neg h]
theorem z_so_lald (hC : z_Cx X own cc nL ret kd) (hd : decode cc pc = .ok (.laload, 1)) : z_So X pc (pc + 1) (z_lald (x_La X)) := by
  refine z_so_mk fun L st M => ?_
  rcases st with _ | ⟨i | v | v | v, _ | ⟨w | w | ⟨t', a⟩ | w, r⟩⟩ <;> first | exact Or.inl fun _ => rfl | skip
  cases hb : Nat.beq t' 15
  · exact Or.inl fun _ => by simp [z_lald, hb]
  · have := Nat.eq_of_beq_eq_true hb
    subst this
    by_cases h : 0 ≤ i ∧ i < x_La X a
    · refine Or.inr ⟨L, zJ (M a i) :: r, M, fun _ => by simp only [z_lald, hb, if_pos h], fun hw H locs ls hR hl ho hs => ?_⟩
      have hi : z_rI i := hs _ List.mem_cons_self
      have ha : x_ok X (zA 15 a) := hs _ (List.mem_cons_of_mem _ List.mem_cons_self)
      have hK := (hC.2.2.2.2.2.2.2.1.2.2 a.toNat ha.2.1).2.2 ha.2.2
      refine va_lald hC.1 hC.2.1 hK hR.1 a.toNat 0 (z_arr_j ha) rfl (z_vpin hi h.1 h.2) hd ?_
      rw [z_clamp hi h.1]
      exact hw H locs ls hR hl ho (fun u hu => by
        rcases List.mem_cons.mp hu with rfl | hu
        · exact z_arr_rJ hR ha h.1 h.2
        · exact hs u (List.mem_cons_of_mem _ (List.mem_cons_of_mem _ hu)))
    · exact Or.inl fun _ => by simp only [z_lald, hb, if_neg h]
theorem z_row_i {M : zM} {a i x : Int} (hi : z_rI i) (h0 : 0 ≤ i) : (fun j : Nat => Int32.ofInt (z_wr M a i x a j)) = upd (fun j => Int32.ofInt (M a j)) (Int32.ofInt i).toNatClampNeg (Int32.ofInt x) := by
  funext j
  have hc := z_clamp hi h0
  unfold upd z_wr
  by_cases h : (j : Int) = i
  · rw [if_pos ⟨rfl, h⟩, if_pos (by omega)]
  · rw [if_neg (fun q => h q.2), if_neg (by omega)]
theorem z_row_j {M : zM} {a i x : Int} (hi : z_rI i) (h0 : 0 ≤ i) : (fun j : Nat => Int64.ofInt (z_wr M a i x a j)) = vp_updL (fun j => Int64.ofInt (M a j)) (Int32.ofInt i).toNatClampNeg (Int64.ofInt x) := by
  funext j
  have hc := z_clamp hi h0
  unfold vp_updL z_wr
  by_cases h : (j : Int) = i
  · rw [if_pos ⟨rfl, h⟩, if_pos (by omega)]
  · rw [if_neg (fun q => h q.2), if_neg (by omega)]
theorem z_ws_i {t : Nat} {M : zM} {a i x : Int} (ht : t = 13 ∨ t = 14) (ha : x_ok X (zA t a)) (hi : z_rI i) (h0 : 0 ≤ i) : (x_ws X M).set a.toNat (x_al X a.toNat, .inl (x_ga X a.toNat, (x_La X a).toNat, .inl (upd (fun j => Int32.ofInt (M a j)) (Int32.ofInt i).toNatClampNeg (Int32.ofInt x)))) = x_ws X (z_wr M a i x) := by
  obtain ⟨ha0, han, hat⟩ := ha
  have ea : ((a.toNat : Nat) : Int) = a := Int.toNat_of_nonneg ha0
  refine Eq.symm ((z_ws_set (M' := z_wr M a i x) (M := M) han (fun i' hi => z_wr_row a i' i x (fun e => hi (by omega)))).trans ?_)
  rw [hat, z_cell_i ht, ea, z_row_i hi h0]
theorem z_ws_j {M : zM} {a i x : Int} (ha : x_ok X (zA 15 a)) (hi : z_rI i) (h0 : 0 ≤ i) : (x_ws X M).set a.toNat (x_al X a.toNat, .inl (x_ga X a.toNat, (x_La X a).toNat, .inr (.inl (vp_updL (fun j => Int64.ofInt (M a j)) (Int32.ofInt i).toNatClampNeg (Int64.ofInt x))))) = x_ws X (z_wr M a i x) := by
  obtain ⟨ha0, han, hat⟩ := ha
  have ea : ((a.toNat : Nat) : Int) = a := Int.toNat_of_nonneg ha0
  refine Eq.symm ((z_ws_set (M' := z_wr M a i x) (M := M) han (fun i' hi => z_wr_row a i' i x (fun e => hi (by omega)))).trans ?_)
  rw [hat, z_cell_j, ea, z_row_j hi h0]
theorem z_so_iast (hC : z_Cx X own cc nL ret kd) (hd : decode cc pc = .ok (.iastore, 1)) : z_So X pc (pc + 1) (z_ast (x_La X)) := by
  refine z_so_mk fun L st M => ?_
  rcases st with _ | ⟨x | x | x | x, _ | ⟨i | i | i | i, _ | ⟨w | w | ⟨t', a⟩ | w, r⟩⟩⟩ <;> first | exact Or.inl fun _ => rfl | skip
  cases hb : Nat.beq t' 13
  · exact Or.inl fun _ => by simp [z_ast, hb]
  · have := Nat.eq_of_beq_eq_true hb
    subst this
    by_cases h : 0 ≤ i ∧ i < x_La X a
    · refine Or.inr ⟨L, r, z_wr M a i x, fun _ => by simp only [z_ast, hb, if_pos h], fun hw H locs ls hR hl ho hs => ?_⟩
      have hx : z_rI x := hs _ List.mem_cons_self
      have hi : z_rI i := hs _ (List.mem_cons_of_mem _ List.mem_cons_self)
      have ha : x_ok X (zA 13 a) := hs _ (List.mem_cons_of_mem _ (List.mem_cons_of_mem _ List.mem_cons_self))
      have hK := (hC.2.2.2.2.2.2.2.1.2.2 a.toNat ha.2.1).1 ha.2.2
      refine va_iast hC.1 hC.2.1 hK hR.1 hR.2.1 hR.2.2.1 a.toNat 0 (z_arr_i (Or.inl rfl) ha) rfl (z_vpin hi h.1 h.2) hd (fun H1 locs1 p1 p2 p3 => ?_)
      rw [z_ws_i (Or.inl rfl) ha hi h.1] at p1 p2
      exact hw H1 locs1 ls ⟨p1, p2, p3, z_TM_i hR.2.2.2 ha.1 (Or.inl ha.2.2) hx⟩ hl ho (fun u hu => hs u (List.mem_cons_of_mem _ (List.mem_cons_of_mem _ (List.mem_cons_of_mem _ hu))))
    · exact Or.inl fun _ => by simp only [z_ast, hb, if_neg h]
theorem z_narI {v : Int} (h : v = 0 ∨ v = 1) : vp_nar .boolean (Int32.ofInt v) = Int32.ofInt v := by
  rcases h with rfl | rfl <;> decide
theorem z_so_zast (hC : z_Cx X own cc nL ret kd) (hd : decode cc pc = .ok (.bastore, 1)) : z_So X pc (pc + 1) (z_zst (x_La X)) := by
  refine z_so_mk fun L st M => ?_
  rcases st with _ | ⟨x | x | x | x, _ | ⟨i | i | i | i, _ | ⟨w | w | ⟨t', a⟩ | w, r⟩⟩⟩ <;> first | exact Or.inl fun _ => rfl | skip
  cases hb : Nat.beq t' 14
  · exact Or.inl fun _ => by simp [z_zst, hb]
  · have := Nat.eq_of_beq_eq_true hb
    subst this
    by_cases h : (0 ≤ i ∧ i < x_La X a) ∧ (x = 0 ∨ x = 1)
    · refine Or.inr ⟨L, r, z_wr M a i x, fun _ => by simp only [z_zst, hb, if_pos h], fun hw H locs ls hR hl ho hs => ?_⟩
      obtain ⟨h, h01⟩ := h
      have hx : z_rI x := hs _ List.mem_cons_self
      have hi : z_rI i := hs _ (List.mem_cons_of_mem _ List.mem_cons_self)
      have ha : x_ok X (zA 14 a) := hs _ (List.mem_cons_of_mem _ (List.mem_cons_of_mem _ List.mem_cons_self))
      have hK := (hC.2.2.2.2.2.2.2.1.2.2 a.toNat ha.2.1).2.1 ha.2.2
      refine va_zast hC.1 hC.2.1 hK hR.1 hR.2.1 hR.2.2.1 a.toNat 0 (z_arr_i (Or.inr rfl) ha) rfl (z_vpin hi h.1 h.2) hd (fun H1 locs1 p1 p2 p3 => ?_)
      rw [z_narI h01, z_ws_i (Or.inr rfl) ha hi h.1] at p1 p2
      exact hw H1 locs1 ls ⟨p1, p2, p3, z_TM_i hR.2.2.2 ha.1 (Or.inr ha.2.2) hx⟩ hl ho (fun u hu => hs u (List.mem_cons_of_mem _ (List.mem_cons_of_mem _ (List.mem_cons_of_mem _ hu))))
    · exact Or.inl fun _ => by simp only [z_zst, hb, if_neg h]
theorem z_so_last (hC : z_Cx X own cc nL ret kd) (hd : decode cc pc = .ok (.lastore, 1)) : z_So X pc (pc + 1) (z_last (x_La X)) := by
  refine z_so_mk fun L st M => ?_
  rcases st with _ | ⟨x | x | x | x, _ | ⟨i | i | i | i, _ | ⟨w | w | ⟨t', a⟩ | w, r⟩⟩⟩ <;> first | exact Or.inl fun _ => rfl | skip
  cases hb : Nat.beq t' 15
  · exact Or.inl fun _ => by simp [z_last, hb]
  · have := Nat.eq_of_beq_eq_true hb
    subst this
    by_cases h : 0 ≤ i ∧ i < x_La X a
    · refine Or.inr ⟨L, r, z_wr M a i x, fun _ => by simp only [z_last, hb, if_pos h], fun hw H locs ls hR hl ho hs => ?_⟩
      have hx : z_rJ x := hs _ List.mem_cons_self
      have hi : z_rI i := hs _ (List.mem_cons_of_mem _ List.mem_cons_self)
      have ha : x_ok X (zA 15 a) := hs _ (List.mem_cons_of_mem _ (List.mem_cons_of_mem _ List.mem_cons_self))
      have hK := (hC.2.2.2.2.2.2.2.1.2.2 a.toNat ha.2.1).2.2 ha.2.2
      refine va_last hC.1 hC.2.1 hK hR.1 hR.2.1 hR.2.2.1 a.toNat 0 (z_arr_j ha) rfl (z_vpin hi h.1 h.2) hd (fun H1 locs1 p1 p2 p3 => ?_)
      rw [z_ws_j ha hi h.1] at p1 p2
      exact hw H1 locs1 ls ⟨p1, p2, p3, z_TM_j hR.2.2.2 ha.1 ha.2.2 hx⟩ hl ho (fun u hu => hs u (List.mem_cons_of_mem _ (List.mem_cons_of_mem _ (List.mem_cons_of_mem _ hu))))
    · exact Or.inl fun _ => by simp only [z_last, hb, if_neg h]
theorem z_len32 {n : Int} (h : 0 ≤ n ∧ n < 2147483648) : Int32.ofNat n.toNat = Int32.ofInt n := by
  apply Int32.toInt_inj.mp
  rw [z_ti ⟨by omega, by omega⟩]
  have h1 : (Int32.ofNat n.toNat).toInt = (n.toNat : Int) := Int32.toInt_ofNat_of_lt (by omega)
  rw [h1]
  exact Int.toNat_of_nonneg h.1
theorem z_so_alen13 (hC : z_Cx X own cc nL ret kd) (hd : decode cc pc = .ok (.arraylength, 1)) : z_So X pc (pc + 1) (z_alen 13 (x_La X)) := by
  refine z_so_mk fun L st M => ?_
  rcases st with _ | ⟨v | v | ⟨t', a⟩ | v, r⟩ <;> first | exact Or.inl fun _ => rfl | skip
  cases hb : Nat.beq t' 13
  · exact Or.inl fun _ => by simp [z_alen, hb]
  · have := Nat.eq_of_beq_eq_true hb
    subst this
    refine Or.inr ⟨L, zI (x_La X a) :: r, M, fun _ => by simp [z_alen, hb], fun hw H locs ls hR hl ho hs => ?_⟩
    have ha : x_ok X (zA 13 a) := hs _ List.mem_cons_self
    have hK := (hC.2.2.2.2.2.2.2.1.2.2 a.toNat ha.2.1).1 ha.2.2
    have hL := hC.2.2.2.2.2.2.2.1.2.1.1 a.toNat ha.2.1
    rw [Int.toNat_of_nonneg ha.1] at hL
    have hL : 0 ≤ x_La X a ∧ x_La X a < 2147483648 := hL
    refine va_alen hC.1 hC.2.1 hK hR.1 a.toNat 0 (z_arr_i (Or.inl rfl) ha) rfl (z_len32 hL) hd ?_
    exact hw H locs ls hR hl ho (fun u hu => by
      rcases List.mem_cons.mp hu with rfl | hu
      · exact ⟨by omega, by omega⟩
      · exact hs u (List.mem_cons_of_mem _ hu))
theorem z_so_alen15 (hC : z_Cx X own cc nL ret kd) (hd : decode cc pc = .ok (.arraylength, 1)) : z_So X pc (pc + 1) (z_alen 15 (x_La X)) := by
  refine z_so_mk fun L st M => ?_
  rcases st with _ | ⟨v | v | ⟨t', a⟩ | v, r⟩ <;> first | exact Or.inl fun _ => rfl | skip
  cases hb : Nat.beq t' 15
  · exact Or.inl fun _ => by simp [z_alen, hb]
  · have := Nat.eq_of_beq_eq_true hb
    subst this
    refine Or.inr ⟨L, zI (x_La X a) :: r, M, fun _ => by simp [z_alen, hb], fun hw H locs ls hR hl ho hs => ?_⟩
    have ha : x_ok X (zA 15 a) := hs _ List.mem_cons_self
    have hK := (hC.2.2.2.2.2.2.2.1.2.2 a.toNat ha.2.1).2.2 ha.2.2
    have hL := hC.2.2.2.2.2.2.2.1.2.1.1 a.toNat ha.2.1
    rw [Int.toNat_of_nonneg ha.1] at hL
    have hL : 0 ≤ x_La X a ∧ x_La X a < 2147483648 := hL
    refine va_alen hC.1 hC.2.1 hK hR.1 a.toNat 0 (z_arr_j ha) rfl (z_len32 hL) hd ?_
    exact hw H locs ls hR hl ho (fun u hu => by
      rcases List.mem_cons.mp hu with rfl | hu
      · exact ⟨by omega, by omega⟩
      · exact hs u (List.mem_cons_of_mem _ hu))
end
