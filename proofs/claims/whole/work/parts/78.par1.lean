/-! ===== reading a text: both sides, step by step ===== -/
theorem eR_num {K A kd wh : Int} (h : eR K A kd wh) : (K = 1002 → kd = 3 ∧ eN A wh) ∧ (K ≠ 1002 → kd ≠ 3) := by
  unfold eR at h
  rcases h with h | h | h | h | h | h | h
  · exact ⟨fun q => by omega, fun q => by omega⟩
  · exact ⟨fun q => by omega, fun q => by omega⟩
  · exact ⟨fun q => ⟨h.2.1, h.2.2⟩, fun q => by omega⟩
  · exact ⟨fun q => by omega, fun q => by omega⟩
  · exact ⟨fun q => by omega, fun q => by omega⟩
  · exact ⟨fun q => by omega, fun q => by omega⟩
  · exact ⟨fun q => by omega, fun q => by omega⟩
theorem eR_name {K A kd wh : Int} (h : eR K A kd wh) : (K = 1003 → kd = 2 ∧ wh = A) ∧ (K ≠ 1003 → kd ≠ 2) := by
  unfold eR at h
  rcases h with h | h | h | h | h | h | h
  · exact ⟨fun q => by omega, fun q => by omega⟩
  · exact ⟨fun q => by omega, fun q => by omega⟩
  · exact ⟨fun q => by omega, fun q => by omega⟩
  · exact ⟨fun q => ⟨h.2.1, h.2.2⟩, fun q => by omega⟩
  · exact ⟨fun q => by omega, fun q => by omega⟩
  · exact ⟨fun q => by omega, fun q => by omega⟩
  · exact ⟨fun q => by omega, fun q => by omega⟩
theorem eR_end {K A kd wh : Int} (h : eR K A kd wh) : (K = 1000 → kd = 0) ∧ (K ≠ 1000 → kd ≠ 0) := by
  unfold eR at h
  rcases h with h | h | h | h | h | h | h
  · exact ⟨fun q => h.2, fun q => by omega⟩
  · exact ⟨fun q => by omega, fun q => by omega⟩
  · exact ⟨fun q => by omega, fun q => by omega⟩
  · exact ⟨fun q => by omega, fun q => by omega⟩
  · exact ⟨fun q => by omega, fun q => by omega⟩
  · exact ⟨fun q => by omega, fun q => by omega⟩
  · exact ⟨fun q => by omega, fun q => by omega⟩
theorem rk_in {K K' : Int} (h0 : 1100 ≤ K) (h1 : K ≤ 1126) (h0' : 1100 ≤ K') (h1' : K' ≤ 1126) (h : rk K = rk K') : K = K' := by
  have := rk_inj ⟨(K - 1100).toNat, by omega⟩ ⟨(K' - 1100).toNat, by omega⟩
  dsimp only at this
  rw [(by omega : (1100 : Int) + ((K - 1100).toNat : Int) = K), (by omega : (1100 : Int) + ((K' - 1100).toNat : Int) = K')] at this
  have := Fin.mk.inj (this h)
  omega
theorem eR_key {K A kd wh : Int} (h : eR K A kd wh) {κ : Int} (h0 : 1100 ≤ κ) (h1 : κ ≤ 1126) : (K = κ → kd = 1 ∧ wh = rk κ) ∧ (K ≠ κ → ¬ (kd = 1 ∧ wh = rk κ)) := by
  unfold eR at h
  rcases h with h | h | h | h | h | h | h
  · exact ⟨fun q => by omega, fun q => by omega⟩
  · exact ⟨fun q => by omega, fun q => by omega⟩
  · exact ⟨fun q => by omega, fun q => by omega⟩
  · exact ⟨fun q => by omega, fun q => by omega⟩
  · exact ⟨fun q => by omega, fun q => by omega⟩
  · exact ⟨fun q => by omega, fun q => by omega⟩
  · exact ⟨fun q => ⟨h.2.2.1, by rw [h.2.2.2, q]⟩, fun q r => q (rk_in h.1 h.2.1 h0 h1 (h.2.2.2.symm.trans r.2))⟩
theorem sgc_in {K K' : Int} (h0 : 1010 ≤ K) (h1 : K ≤ 1016) (h0' : 1010 ≤ K') (h1' : K' ≤ 1016) (h : sgc K = sgc K') : K = K' := by
  unfold sgc at h
  rcases (by omega : K = 1010 ∨ K = 1011 ∨ K = 1012 ∨ K = 1013 ∨ K = 1014 ∨ K = 1015 ∨ K = 1016) with r | r | r | r | r | r | r <;> rcases (by omega : K' = 1010 ∨ K' = 1011 ∨ K' = 1012 ∨ K' = 1013 ∨ K' = 1014 ∨ K' = 1015 ∨ K' = 1016) with s | s | s | s | s | s | s <;> subst r <;> subst s <;> first | rfl | exact absurd h (by decide)
theorem eR_sign {K A kd wh : Int} (h : eR K A kd wh) {κ : Int} (h0 : 1010 ≤ κ) (h1 : κ ≤ 1016) : (K = κ → kd = 4 ∧ wh = sgc κ) ∧ (K ≠ κ → ¬ (kd = 4 ∧ wh = sgc κ)) := by
  unfold eR at h
  rcases h with h | h | h | h | h | h | h
  · exact ⟨fun q => by omega, fun q => by omega⟩
  · exact ⟨fun q => by omega, fun q => by omega⟩
  · exact ⟨fun q => by omega, fun q => by omega⟩
  · exact ⟨fun q => by omega, fun q => by omega⟩
  · exact ⟨fun q => ⟨h.2.2.1, by rw [h.2.2.2, q]⟩, fun q r => q (sgc_in h.1 h.2.1 h0 h1 (h.2.2.2.symm.trans r.2))⟩
  · exact ⟨fun q => by omega, fun q => by omega⟩
  · exact ⟨fun q => by omega, fun q => by omega⟩
/-! the states -/
def PC (N : Int) (K A P : Int → Int) (M : zM) (c : Int) (U : zM) (p : Int) : Prop := zCc c ∧ M 1 1 = c ∧ LyO M ∧ LyC M c ∧ cEq M c U ∧ tC N K A P M p
/-- the formulas read so far -/
abbrev fRe (M : zM) (N : Int) (cd : Int → Int) (e : Int) : Prop := 0 ≤ N ∧ N ≤ 64 ∧ ((N = 0 ∧ M 105 (3 + e) = 0 ∧ M 106 (3 + e) = 0) ∨ (1 ≤ N ∧ 0 ≤ M 105 (3 + e) ∧ M 105 (3 + e) + N = M 106 (3 + e) ∧ M 106 (3 + e) ≤ M 84 20 ∧ wfF (fun j => M 107 (64 + j)) (fun j => M 108 (64 + j)) (fun j => M 109 (64 + j)) cd (M 105 (3 + e)) N.toNat 0 []))
def fRd (M U : zM) : Prop := M 84 20 = U 0 8 ∧ M 84 55 = U 0 8 ∧ 0 ≤ U 0 8 ∧ U 0 8 ≤ 64 ∧ fRe M (U 25 0) (U 26) 0 ∧ fRe M (U 27 0) (U 28) 1 ∧ fRe M (U 29 0) (U 30) 2
def mRd (M U : zM) : Prop := (M 84 16 = U 1 0 ∧ M 84 17 = U 7 0 ∧ M 84 18 = U 13 0 ∧ M 84 19 = U 19 0) ∧
  (∀ k, 0 ≤ k → k < U 1 0 → M 87 (8 + k) = U 2 k ∧ M 88 (8 + k) = U 3 k ∧ M 89 (8 + k) = U 4 k ∧ M 90 (8 + k) = U 5 k ∧ M 91 (8 + k) = U 6 k) ∧
  (∀ k, 0 ≤ k → k < U 7 0 → M 92 (5 + k) = U 8 k ∧ M 93 (5 + k) = U 9 k ∧ M 94 (5 + k) = U 10 k ∧ M 95 (5 + k) = U 11 k ∧ M 96 (5 + k) = U 12 k) ∧
  (∀ k, 0 ≤ k → k < U 13 0 → M 97 (60 + k) = U 14 k ∧ M 98 (60 + k) = U 15 k ∧ M 99 (60 + k) = U 16 k ∧ M 100 (60 + k) = U 17 k ∧ M 101 (60 + k) = U 18 k) ∧
  (∀ k, 0 ≤ k → k < U 19 0 → M 102 (20 + k) = U 20 k ∧ M 103 (20 + k) = U 21 k ∧ M 104 (20 + k) = U 22 k)
def tRr (B K A P Q : Int → Int) (n : Int) (M : zM) (p : Int) : Prop := kR B n M ∧ M 84 7 = Q (p + 1) ∧ M 84 10 = P p ∧ eR (K p) (A p) (M 84 8) (M 84 9)
def PR (B K A P Q : Int → Int) (n : Int) (M U : zM) (p : Int) : Prop := LyR M ∧ mRd M U ∧ fRd M U ∧ tRr B K A P Q n M p ∧ bR M
/-! what may be written on the way -/
def gC (c : Int) (M m : zM) : Prop := ∀ a k, ¬ (a = 1 ∧ 4 ≤ k ∧ k ≠ 5) → ¬ (a = 2 ∧ 9 ≤ k ∧ k ≤ 12) → a ≠ 41 → ¬ (c ≤ a ∧ a ≤ c + 30) → m a k = M a k
abbrev wRd (a k : Int) : Prop := (a = 84 ∧ ((7 ≤ k ∧ k ≤ 10) ∨ (16 ≤ k ∧ k ≤ 20) ∨ (52 ≤ k ∧ k ≤ 57))) ∨ (87 ≤ a ∧ a ≤ 91 ∧ 8 ≤ k) ∨ (92 ≤ a ∧ a ≤ 96 ∧ 5 ≤ k) ∨ (97 ≤ a ∧ a ≤ 101 ∧ 60 ≤ k) ∨ (102 ≤ a ∧ a ≤ 104 ∧ 20 ≤ k) ∨ (105 ≤ a ∧ a ≤ 106 ∧ 3 ≤ k) ∨ (107 ≤ a ∧ a ≤ 109 ∧ 64 ≤ k) ∨ a = 110 ∨ a = 111
def gR (M m : zM) : Prop := ∀ a k, ¬ wRd a k → m a k = M a k
theorem gC.rf (c : Int) (M : zM) : gC c M M := fun _ _ _ _ _ _ => rfl
theorem gC.tr {c : Int} {M m m2 : zM} (h : gC c M m) (h2 : gC c m m2) : gC c M m2 := fun a k q1 q2 q3 q4 => (h2 a k q1 q2 q3 q4).trans (h a k q1 q2 q3 q4)
theorem gR.rf (M : zM) : gR M M := fun _ _ _ => rfl
theorem gR.tr {M m m2 : zM} (h : gR M m) (h2 : gR m m2) : gR M m2 := fun a k q => (h2 a k q).trans (h a k q)
theorem gR.wr {M : zM} {a i v : Int} (h : wRd a i) : gR M (z_wr M a i v) := fun b j q => by unfold z_wr; rw [if_neg]; rintro ⟨rfl, rfl⟩; exact q h
theorem gC.wr {c : Int} {M : zM} {a i v : Int} (h : (a = 1 ∧ 4 ≤ i ∧ i ≠ 5) ∨ (a = 2 ∧ 9 ≤ i ∧ i ≤ 12) ∨ a = 41 ∨ (c ≤ a ∧ a ≤ c + 30)) : gC c M (z_wr M a i v) := fun b j q1 q2 q3 q4 => z_wr_ne (by omega)
theorem fP.gc {c : Int} {M m : zM} (h : fP M m) : gC c M m := fun a k _ q2 _ _ => h a k q2
theorem fU.gr {M m : zM} (h : fU M m) : gR M m := fun a k q => h a k (fun r => q (by unfold wRd; omega))
/-- with a FAULT -/
def hC (c : Int) (M m : zM) : Prop := ∀ a k, ¬ (a = 1 ∧ 2 ≤ k ∧ k ≠ 5) → ¬ (a = 2 ∧ 9 ≤ k ∧ k ≤ 12) → a ≠ 41 → ¬ (c ≤ a ∧ a ≤ c + 30) → m a k = M a k
def hR (M m : zM) : Prop := ∀ a k, ¬ wRd a k → ¬ (a = 84 ∧ 4 ≤ k ∧ k ≤ 5) → m a k = M a k
theorem gC.h {c : Int} {M m : zM} (h : gC c M m) : hC c M m := fun a k q1 q2 q3 q4 => h a k (by omega) q2 q3 q4
theorem gR.h {M m : zM} (h : gR M m) : hR M m := fun a k q _ => h a k q
theorem hC.tr {c : Int} {M m m2 : zM} (h : hC c M m) (h2 : hC c m m2) : hC c M m2 := fun a k q1 q2 q3 q4 => (h2 a k q1 q2 q3 q4).trans (h a k q1 q2 q3 q4)
theorem hR.tr {M m m2 : zM} (h : hR M m) (h2 : hR m m2) : hR M m2 := fun a k q r => (h2 a k q r).trans (h a k q r)
theorem gC.th {c : Int} {M m m2 : zM} (h : gC c M m) (h2 : hC c m m2) : hC c M m2 := h.h.tr h2
theorem gR.th {M m m2 : zM} (h : gR M m) (h2 : hR m m2) : hR M m2 := h.h.tr h2
theorem hC.wr {c : Int} {M : zM} {a i v : Int} (h : (a = 1 ∧ 2 ≤ i ∧ i ≠ 5) ∨ (a = 2 ∧ 9 ≤ i ∧ i ≤ 12) ∨ a = 41 ∨ (c ≤ a ∧ a ≤ c + 30)) : hC c M (z_wr M a i v) := fun b j q1 q2 q3 q4 => z_wr_ne (by omega)
theorem hR.wr {M : zM} {i v : Int} (h : 4 ≤ i ∧ i ≤ 5) : hR M (z_wr M 84 i v) := fun b j q r => z_wr_ne (by omega)
/-- a FAULT, told alike -/
def FC (mc mr : zM) (c : Int) : Prop := mc 1 1 = c ∧ LyO mc ∧ LyC mc c ∧ mc 1 2 = mr 84 4 ∧ mc 1 3 = mr 84 5 ∧ LyR mr ∧ bR mr
def LN (x y : Option (List zV × zM)) (c : Int) (Mc Mr : zM) : Prop := ∃ mc mr, x = some ([zI 0], mc) ∧ y = some ([zI 0], mr) ∧ hC c Mc mc ∧ hR Mr mr ∧ FC mc mr c
def LK (x y : Option (List zV × zM)) (c : Int) (Mc Mr : zM) (S : zM → zM → Prop) : Prop := (∃ mc mr, x = some ([zI 1], mc) ∧ y = some ([zI 1], mr) ∧ gC c Mc mc ∧ gR Mr mr ∧ S mc mr) ∨ LN x y c Mc Mr
section
variable {B K A P Q : Int → Int} {n N : Int} {Mc Mr U U2 : zM} {c p : Int}
theorem TS.nx (hT : TS B n 0 N K A P Q) (p0 : 0 ≤ p) (p1 : p < N) (hk : K p ≠ 1000) : p + 1 < N := by
  have h4 := hT.2.2.2.1
  have : p ≠ N - 1 := fun r => hk (by rw [r]; exact h4)
  omega
theorem PC.t (h : PC N K A P Mc c U p) : tC N K A P Mc p := h.2.2.2.2.2
theorem PC.p0 (h : PC N K A P Mc c U p) : 0 ≤ p ∧ p < N := ⟨h.t.2.2.2.2.1, h.t.2.2.2.2.2.1⟩
theorem PC.k (h : PC N K A P Mc c U p) : Mc 2 10 = K p := h.t.2.1
theorem PC.a (h : PC N K A P Mc c U p) : Mc 2 11 = A p := h.t.2.2.1
theorem PC.l (h : PC N K A P Mc c U p) : Mc 2 12 = P p := h.t.2.2.2.1
theorem PC.o (h : PC N K A P Mc c U p) : LyO Mc := h.2.2.1
theorem PC.y (h : PC N K A P Mc c U p) : LyC Mc c := h.2.2.2.1
theorem PC.v (h : PC N K A P Mc c U p) : cEq Mc c U := h.2.2.2.2.1
theorem PC.co (h : PC N K A P Mc c U p) (hv : vOk U) : cOk Mc c U := ⟨h.1, h.y, h.v, hv⟩
/-- a class memory with other numbers beside the case and the tokens -/
theorem PC.ag {m : zM} (h : PC N K A P Mc c U p) (hf : ∀ a k, ¬ (a = 1 ∧ 2 ≤ k ∧ k ≠ 5) → a ≠ 41 → m a k = Mc a k) : PC N K A P m c U p := by
  have hc : c = 8 ∨ c = 42 := h.1
  have e : ∀ a k, a ≠ 1 → a ≠ 41 → m a k = Mc a k := fun a k q1 q2 => hf a k (by omega) q2
  have t := h.t
  refine ⟨h.1, (hf 1 1 (by omega) (by decide)).trans h.2.1, h.o.ag (fun a k q => hf a k (by unfold pO at q; omega) (by unfold pO at q; omega)), h.y.ag (fun a k q => e a k (by unfold pC at q; omega) (by unfold pC at q; omega)), cEq.ag (fun a k q => e a k (by unfold pV at q; omega) (by unfold pV at q; omega)) h.v, (e _ _ (by decide) (by decide)).trans t.1, (e _ _ (by decide) (by decide)).trans t.2.1, (e _ _ (by decide) (by decide)).trans t.2.2.1, (e _ _ (by decide) (by decide)).trans t.2.2.2.1, t.2.2.2.2.1, t.2.2.2.2.2.1, (e _ _ (by decide) (by decide)).trans t.2.2.2.2.2.2.1, fun j a b => ?_⟩
  have := t.2.2.2.2.2.2.2 j a b
  rw [e _ _ (by decide) (by decide), e _ _ (by decide) (by decide), e _ _ (by decide) (by decide)]
  exact this
theorem PC.step (hT : TS B n 0 N K A P Q) (n1 : n ≤ 800) (h : PC N K A P Mc c U p) (hk : K p ≠ 1000) : ∃ m, zm_X10_step zLa [zA 10 2] Mc = some ([], m) ∧ PC N K A P m c U (p + 1) ∧ fP Mc m := by
  have hp := h.p0
  have hc : c = 8 ∨ c = 42 := h.1
  have hN : N ≤ 801 := by have := hT.2.2.1; omega
  have t := h.t
  obtain ⟨m, e, hf, ht⟩ := e_X10_step hN (lo_2_6 h.o) (lo_2_7 h.o) (lo_2_8 h.o) t.1 (by omega) (hT.nx hp.1 hp.2 hk) t.2.2.2.2.2.2.1 t.2.2.2.2.2.2.2
  exact ⟨m, e, ⟨h.1, (hf _ _ (by omega)).trans h.2.1, h.o.ag (fun a k q => hf a k (by unfold pO at q; omega)), h.y.ag (fun a k q => hf a k (by unfold pC at q; omega)), cEq.ag (fun a k q => hf a k (by unfold pV at q; omega)) h.v, ht⟩, hf⟩
theorem c_wrong (h : PC N K A P Mc c U p) (y : Int) : zm_X7_wrong zLa [zA 7 1, zI y] Mc = some ([zI 0], z_wr (z_wr Mc 1 2 y) 1 3 (P p)) := by
  rw [zr_X7_wrong]
  refine z_out_some ?_
  rw [zb_X7_wrong_0, z_lt_eq, z_wr_ne (M := Mc) (a := 1) (i := 2) (b := 1) (j := 0) (by omega), lo_1_0 h.o, z_wr_ne (M := Mc) (a := 1) (i := 2) (b := 2) (j := 12) (by omega), h.l, z_lt_eq]
theorem PR.tk (h : PR B K A P Q n Mr U p) : tRr B K A P Q n Mr p := h.2.2.2.1
theorem PR.e (h : PR B K A P Q n Mr U p) : eR (K p) (A p) (Mr 84 8) (Mr 84 9) := h.tk.2.2.2
theorem r_wrong (h : PR B K A P Q n Mr U p) (y : Int) : zm_X12_wrong zLa [zA 12 84, zI y] Mr = some ([zI 0], z_wr (z_wr Mr 84 4 y) 84 5 (P p)) := by
  rw [zr_X12_wrong]
  refine z_out_some ?_
  rw [zb_X12_wrong_0, z_lt_eq, z_wr_ne (M := Mr) (by omega), h.tk.2.2.1, z_lt_eq]
theorem fail2 (hc : PC N K A P Mc c U p) (hr : PR B K A P Q n Mr U2 p) (y : Int) : hC c Mc (z_wr (z_wr Mc 1 2 y) 1 3 (P p)) ∧ hR Mr (z_wr (z_wr Mr 84 4 y) 84 5 (P p)) ∧ FC (z_wr (z_wr Mc 1 2 y) 1 3 (P p)) (z_wr (z_wr Mr 84 4 y) 84 5 (P p)) c := by
  have h := hc.ag (m := z_wr (z_wr Mc 1 2 y) 1 3 (P p)) (fun a k q1 q2 => by rw [z_wr_ne (by omega), z_wr_ne (by omega)])
  refine ⟨(hC.wr (by omega)).tr (hC.wr (by omega)), (hR.wr (by omega)).tr (hR.wr (by omega)), h.2.1, h.o, h.y, ?_, ?_, hr.1.ag (fun a k q => by rw [z_wr_ne (by unfold pR at q; omega), z_wr_ne (by unfold pR at q; omega)]), bR.ag (fun k => by rw [z_wr_ne (by omega), z_wr_ne (by omega)]) hr.2.2.2.2⟩
  · rw [z_wr_ne (by omega), z_wr_eq, z_wr_ne (by omega), z_wr_eq]
  · rw [z_wr_eq, z_wr_eq]
theorem c_take_ok (hT : TS B n 0 N K A P Q) (n1 : n ≤ 800) (h : PC N K A P Mc c U p) {y : Int} (hy : y ≠ 1000) (hk : K p = y) : ∃ m, zm_X7_take zLa [zA 7 1, zI y] Mc = some ([zI 1], m) ∧ PC N K A P m c U (p + 1) ∧ m 1 4 = A p ∧ gC c Mc m := by
  have h1 := h.ag (m := z_wr Mc 1 4 (A p)) (fun a k q1 q2 => z_wr_ne (by omega))
  obtain ⟨m, e, hm, hf⟩ := h1.step hT n1 (by omega)
  refine ⟨m, ?_, hm, (hf _ _ (by omega)).trans (z_wr_eq _ _ _ _), (gC.wr (by omega)).tr hf.gc⟩
  rw [zr_X7_take]
  refine z_out_some ?_
  rw [zb_X7_take_0, lo_1_0 h.o, h.k, if_pos hk, h.a, z_lt_eq, lo_1_0 h1.o, e, z_bV_mk]
theorem c_take_no (h : PC N K A P Mc c U p) {y : Int} (hk : K p ≠ y) : zm_X7_take zLa [zA 7 1, zI y] Mc = some ([zI 0], z_wr (z_wr Mc 1 2 1) 1 3 (P p)) := by
  rw [zr_X7_take]
  refine z_out_some ?_
  rw [zb_X7_take_0, lo_1_0 h.o, h.k, if_neg hk, c_wrong h, z_bI_mk, if_pos (Or.inl rfl)]
/-- the reference's memory with other numbers in rows not yet told -/
theorem mRd.ag {m : zM} (hN : vOkN U) (hf : ∀ a k, (a = 84 ∧ 16 ≤ k ∧ k ≤ 19) ∨ (87 ≤ a ∧ a ≤ 91 ∧ 8 ≤ k ∧ k < 8 + U 1 0) ∨ (92 ≤ a ∧ a ≤ 96 ∧ 5 ≤ k ∧ k < 5 + U 7 0) ∨ (97 ≤ a ∧ a ≤ 101 ∧ 60 ≤ k ∧ k < 60 + U 13 0) ∨ (102 ≤ a ∧ a ≤ 104 ∧ 20 ≤ k ∧ k < 20 + U 19 0) → m a k = Mr a k) (h : mRd Mr U) : mRd m U := by
  obtain ⟨⟨a1, a2, a3, a4⟩, hb, hd, he, hf'⟩ := h
  refine ⟨⟨(hf _ _ (by omega)).trans a1, (hf _ _ (by omega)).trans a2, (hf _ _ (by omega)).trans a3, (hf _ _ (by omega)).trans a4⟩, fun k x y => ?_, fun k x y => ?_, fun k x y => ?_, fun k x y => ?_⟩
  · have := hb k x y
    rw [hf _ _ (by omega), hf _ _ (by omega), hf _ _ (by omega), hf _ _ (by omega), hf _ _ (by omega)]; exact this
  · have := hd k x y
    rw [hf _ _ (by omega), hf _ _ (by omega), hf _ _ (by omega), hf _ _ (by omega), hf _ _ (by omega)]; exact this
  · have := he k x y
    rw [hf _ _ (by omega), hf _ _ (by omega), hf _ _ (by omega), hf _ _ (by omega), hf _ _ (by omega)]; exact this
  · have := hf' k x y
    rw [hf _ _ (by omega), hf _ _ (by omega), hf _ _ (by omega)]; exact this
theorem fRe.ag {m : zM} {Ne e : Int} {cd : Int → Int} (he : 0 ≤ e ∧ e < 3) (h20 : m 84 20 = Mr 84 20) (h5 : ∀ k, 3 ≤ k → k < 6 → m 105 k = Mr 105 k ∧ m 106 k = Mr 106 k) (h7 : ∀ k, 64 ≤ k → k < 64 + Mr 84 20 → m 107 k = Mr 107 k ∧ m 108 k = Mr 108 k ∧ m 109 k = Mr 109 k) (h : fRe Mr Ne cd e) : fRe m Ne cd e := by
  obtain ⟨a, b, d⟩ := h
  have h5' := h5 (3 + e) (by omega) (by omega)
  refine ⟨a, b, ?_⟩
  rw [h5'.1, h5'.2, h20]
  rcases d with d | ⟨d1, d2, d3, d4, d5⟩
  · exact Or.inl d
  · refine Or.inr ⟨d1, d2, d3, d4, wfF_cg _ _ _ (fun j x y => ⟨?_, rfl⟩) d5⟩
    exact h7 (64 + (Mr 105 (3 + e) + j)) (by omega) (by omega)
theorem fRd.ag {m : zM} (h20 : m 84 20 = Mr 84 20) (h55 : m 84 55 = Mr 84 55) (h5 : ∀ k, 3 ≤ k → k < 6 → m 105 k = Mr 105 k ∧ m 106 k = Mr 106 k) (h7 : ∀ k, 64 ≤ k → k < 64 + Mr 84 20 → m 107 k = Mr 107 k ∧ m 108 k = Mr 108 k ∧ m 109 k = Mr 109 k) (h : fRd Mr U) : fRd m U := ⟨h20.trans h.1, h55.trans h.2.1, h.2.2.1, h.2.2.2.1, h.2.2.2.2.1.ag (by decide) h20 h5 h7, h.2.2.2.2.2.1.ag (by decide) h20 h5 h7, h.2.2.2.2.2.2.ag (by decide) h20 h5 h7⟩
theorem r_take (hT : TS B n 0 N K A P Q) (hN : vOkN U) (h : PR B K A P Q n Mr U p) (p0 : 0 ≤ p) (p1 : p < N) (hk : K p ≠ 1000) : ∃ m, zm_X12_take zLa [zA 12 84] Mr = some ([], m) ∧ PR B K A P Q n m U (p + 1) ∧ fU Mr m := by
  obtain ⟨-, -, -, hr⟩ := hT.2.2.2.2.2 (p + 1) (by omega) (hT.nx p0 p1 hk)
  obtain ⟨m, e, hf, h7, h10, he⟩ := hr Mr h.tk.1 h.tk.2.1
  exact ⟨m, e, ⟨h.1.ag (fun a k q => hf a k (by unfold pR at q; omega)), mRd.ag hN (fun a k q => hf a k (by omega)) h.2.1, fRd.ag (hf _ _ (by omega)) (hf _ _ (by omega)) (fun k _ _ => ⟨hf _ _ (by omega), hf _ _ (by omega)⟩) (fun k _ _ => ⟨hf _ _ (by omega), hf _ _ (by omega), hf _ _ (by omega)⟩) h.2.2.1, ⟨h.tk.1.fr hf, h7, h10, he⟩, bR.ag (fun k => hf _ _ (by omega)) h.2.2.2.2⟩, hf⟩
/-- a write into a row beyond what is told -/
abbrev wSt (U : zM) (a k v : Int) : Prop := (87 ≤ a ∧ a ≤ 91 ∧ 8 + U 1 0 ≤ k) ∨ (92 ≤ a ∧ a ≤ 96 ∧ 5 + U 7 0 ≤ k) ∨ (97 ≤ a ∧ a ≤ 101 ∧ 60 + U 13 0 ≤ k ∧ (a ≠ 97 ∨ v = 0 ∨ v = 1)) ∨ (102 ≤ a ∧ a ≤ 104 ∧ 20 + U 19 0 ≤ k)
theorem PR.st (hN : vOkN U) {a k v : Int} (hw : wSt U a k v) (h : PR B K A P Q n Mr U p) : PR B K A P Q n (z_wr Mr a k v) U p := by
  unfold wSt at hw
  have e : ∀ b j, (b < 87 ∨ 104 < b) → z_wr Mr a k v b j = Mr b j := fun b j q => z_wr_ne (by omega)
  have t := h.tk
  refine ⟨h.1.ag (fun b j q => e b j (by unfold pR at q; omega)), mRd.ag hN (fun b j q => z_wr_ne (by omega)) h.2.1, fRd.ag (e _ _ (by omega)) (e _ _ (by omega)) (fun j _ _ => ⟨e _ _ (by omega), e _ _ (by omega)⟩) (fun j _ _ => ⟨e _ _ (by omega), e _ _ (by omega), e _ _ (by omega)⟩) h.2.2.1, ⟨⟨(e _ _ (by omega)).trans t.1.1, (e _ _ (by omega)).trans t.1.2.1, (e _ _ (by omega)).trans t.1.2.2.1, fun j x y => (e _ _ (by omega)).trans (t.1.2.2.2.1 j x y), fun j x y => (e _ _ (by omega)).trans (t.1.2.2.2.2 j x y)⟩, (e _ _ (by omega)).trans t.2.1, (e _ _ (by omega)).trans t.2.2.1, by rw [e _ _ (by omega), e _ _ (by omega)]; exact t.2.2.2⟩, fun j x y => ?_⟩
  by_cases q : 97 = a ∧ j = k
  · rw [q.2, ← q.1, z_wr_eq]
    omega
  · rw [z_wr_ne (by omega)]; exact h.2.2.2.2 j x y
theorem PR.k1 (h : PR B K A P Q n Mr U p) {κ : Int} (h0 : 1100 ≤ κ) (h1 : κ ≤ 1126) : zm_X12_isKey zLa [zA 12 84, zI (rk κ)] Mr = some ([zI (b2i (K p = κ))], Mr) := by
  have he := eR_key h.e h0 h1
  rw [zr_X12_isKey]
  refine z_out_some ?_
  rw [zb_X12_isKey_0]
  by_cases q : K p = κ
  · rw [if_pos (he.1 q).1, if_pos (he.1 q).2, b2i_pos q]
  · have hn := he.2 q
    rw [b2i_neg q]
    by_cases q1 : Mr 84 8 = 1
    · rw [if_pos q1, if_neg (fun r => hn ⟨q1, r⟩)]
    · rw [if_neg q1]
theorem PR.s1 (h : PR B K A P Q n Mr U p) {κ : Int} (h0 : 1010 ≤ κ) (h1 : κ ≤ 1016) : zm_X12_isSign zLa [zA 12 84, zI (sgc κ)] Mr = some ([zI (b2i (K p = κ))], Mr) := by
  have he := eR_sign h.e h0 h1
  rw [zr_X12_isSign]
  refine z_out_some ?_
  rw [zb_X12_isSign_0]
  by_cases q : K p = κ
  · rw [if_pos (he.1 q).1, if_pos (he.1 q).2, b2i_pos q]
  · have hn := he.2 q
    rw [b2i_neg q]
    by_cases q1 : Mr 84 8 = 4
    · rw [if_pos q1, if_neg (fun r => hn ⟨q1, r⟩)]
    · rw [if_neg q1]
/-! checks, in pairs -/
theorem ck_num (hT : TS B n 0 N K A P Q) (n1 : n ≤ 800) (hc : PC N K A P Mc c U p) (hr : PR B K A P Q n Mr U2 p) (lo hi : Int) (h9 : hi ≤ 999) : (K p = 1002 ∧ lo ≤ A p ∧ A p ≤ hi ∧ (∃ m, zm_X7_takeNumber zLa [zA 7 1, zI lo, zI hi] Mc = some ([zI 1], m) ∧ PC N K A P m c U (p + 1) ∧ m 1 4 = A p ∧ gC c Mc m) ∧ zm_X12_numberRead zLa [zA 12 84, zI lo, zI hi] Mr = some ([zI 1], Mr) ∧ Mr 84 9 = A p) ∨ LN (zm_X7_takeNumber zLa [zA 7 1, zI lo, zI hi] Mc) (zm_X12_numberRead zLa [zA 12 84, zI lo, zI hi] Mr) c Mc Mr := by
  have he := eR_num hr.e
  have hw1 := r_wrong hr 1
  have hw2 := r_wrong hr 2
  rw [zr_X7_takeNumber, zr_X12_numberRead, zb_X7_takeNumber_0, zb_X12_numberRead_0, lo_1_0 hc.o, hc.k, hc.a]
  by_cases q : K p = 1002
  case neg =>
    obtain ⟨f1, f2, f3⟩ := fail2 hc hr 1
    rw [if_neg q, c_take_no hc q, z_bI_mk, if_pos (Or.inl rfl), if_neg (he.2 q), hw1, z_bI_mk, if_pos (Or.inl rfl)]
    exact Or.inr ⟨_, _, rfl, rfl, f1, f2, f3⟩
  have hen := (he.1 q).2
  unfold eN at hen
  rw [if_pos q, if_pos (he.1 q).1]
  by_cases q1 : A p < lo
  · obtain ⟨f1, f2, f3⟩ := fail2 hc hr 2
    rw [if_pos q1, c_wrong hc, z_bI_mk, if_pos (Or.inl rfl)]
    by_cases q2 : Mr 84 9 < lo
    · rw [if_pos q2, hw2, z_bI_mk, if_pos rfl]
      exact Or.inr ⟨_, _, rfl, rfl, f1, f2, f3⟩
    · rw [if_neg q2, if_neg (by omega), hw2, z_bI_mk, if_pos rfl]
      exact Or.inr ⟨_, _, rfl, rfl, f1, f2, f3⟩
  rw [if_neg q1, if_neg (by omega : ¬ Mr 84 9 < lo)]
  by_cases q2 : A p ≤ hi
  · obtain ⟨m, e, h1, h2, h3⟩ := c_take_ok hT n1 hc (by decide) q
    rw [if_pos q2, e, z_bI_mk, if_pos (Or.inr rfl), if_pos (by omega)]
    exact Or.inl ⟨q, by omega, q2, ⟨m, rfl, h1, h2, h3⟩, rfl, by omega⟩
  · obtain ⟨f1, f2, f3⟩ := fail2 hc hr 2
    rw [if_neg q2, c_wrong hc, z_bI_mk, if_pos (Or.inl rfl), if_neg (by omega), hw2, z_bI_mk, if_pos rfl]
    exact Or.inr ⟨_, _, rfl, rfl, f1, f2, f3⟩
theorem ck_key (hT : TS B n 0 N K A P Q) (n1 : n ≤ 800) (hN : vOkN U2) (hc : PC N K A P Mc c U p) (hr : PR B K A P Q n Mr U2 p) {κ : Int} (h0 : 1100 ≤ κ) (h1 : κ ≤ 1126) : ((∃ m, zm_X7_take zLa [zA 7 1, zI κ] Mc = some ([zI 1], m) ∧ PC N K A P m c U (p + 1) ∧ gC c Mc m) ∧ ∃ m, zm_X12_keyRead zLa [zA 12 84, zI (rk κ)] Mr = some ([zI 1], m) ∧ PR B K A P Q n m U2 (p + 1) ∧ fU Mr m) ∨ LN (zm_X7_take zLa [zA 7 1, zI κ] Mc) (zm_X12_keyRead zLa [zA 12 84, zI (rk κ)] Mr) c Mc Mr := by
  have hp := hc.p0
  rw [zr_X12_keyRead, zb_X12_keyRead_0, hr.k1 h0 h1, z_bI_mk]
  by_cases q : K p = κ
  · obtain ⟨m, e, g1, g2, g3⟩ := c_take_ok hT n1 hc (by omega) q
    obtain ⟨m', e', g1', g2'⟩ := r_take hT hN hr hp.1 hp.2 (by omega)
    rw [b2i_pos q, if_neg (by decide), e', z_bV_mk]
    exact Or.inl ⟨⟨m, e, g1, g3⟩, m', rfl, g1', g2'⟩
  · obtain ⟨f1, f2, f3⟩ := fail2 hc hr 1
    rw [b2i_neg q, if_pos rfl, r_wrong hr, z_bI_mk, if_pos (Or.inl rfl), c_take_no hc q]
    exact Or.inr ⟨_, _, rfl, rfl, f1, f2, f3⟩
theorem fst_rng (p : Int → Prop) {n : Int} (h : 0 ≤ n) : fst p n = -1 ∨ (0 ≤ fst p n ∧ fst p n < n) := by
  rcases fst_spec p h with ⟨a, -⟩ | ⟨a, b, -⟩
  · exact Or.inl a
  · exact Or.inr ⟨a, b⟩
theorem ck_new (hT : TS B n 0 N K A P Q) (n1 : n ≤ 800) (hc : PC N K A P Mc c U p) (hr : PR B K A P Q n Mr U2 p) {f : Int} {g : Int → Int} {a o : Int} (hg : fst (fun i => g i = A p) f = fst (fun i => Mr a (o + i) = A p) f) (f0 : 0 ≤ f) (o0 : 0 ≤ o) (o1 : o + f ≤ zLa a) (o2 : o + f ≤ 1000) : (K p = 1003 ∧ fst (fun i => g i = A p) f = -1 ∧ (∃ m, zm_X7_takeNewName zLa [zA 7 1, zI (fst (fun i => g i = A p) f)] Mc = some ([zI 1], m) ∧ PC N K A P m c U (p + 1) ∧ m 1 4 = A p ∧ gC c Mc m) ∧ zm_X12_newName zLa [zA 12 84, zA 13 a, zI o, zI f] Mr = some ([zI 1], Mr) ∧ Mr 84 9 = A p) ∨ LN (zm_X7_takeNewName zLa [zA 7 1, zI (fst (fun i => g i = A p) f)] Mc) (zm_X12_newName zLa [zA 12 84, zA 13 a, zI o, zI f] Mr) c Mc Mr := by
  have he := eR_name hr.e
  rw [zr_X7_takeNewName, zr_X12_newName, zb_X7_takeNewName_0, zb_X12_newName_0, lo_1_0 hc.o, hc.k]
  by_cases q : K p = 1003
  case neg =>
    obtain ⟨f1, f2, f3⟩ := fail2 hc hr 1
    rw [if_neg q, c_take_no hc q, z_bI_mk, if_pos (Or.inl rfl), if_neg (he.2 q), r_wrong hr, z_bI_mk, if_pos (Or.inl rfl)]
    exact Or.inr ⟨_, _, rfl, rfl, f1, f2, f3⟩
  have hfr := fst_rng (fun i => g i = A p) f0
  rw [if_pos q, if_pos (he.1 q).1, (he.1 q).2, e_findR o0 f0 o1 o2, z_bI_mk, ← hg]
  by_cases q1 : fst (fun i => g i = A p) f = -1
  · obtain ⟨m, e, h1, h2, h3⟩ := c_take_ok hT n1 hc (by decide) q
    rw [if_pos q1, e, z_bI_mk, if_pos (Or.inr rfl), if_pos (by omega)]
    exact Or.inl ⟨q, q1, ⟨m, rfl, h1, h2, h3⟩, rfl, rfl⟩
  · obtain ⟨f1, f2, f3⟩ := fail2 hc hr 3
    rw [if_neg q1, c_wrong hc, z_bI_mk, if_pos (Or.inl rfl), if_neg (by omega), r_wrong hr, z_bI_mk, if_pos rfl]
    exact Or.inr ⟨_, _, rfl, rfl, f1, f2, f3⟩
theorem ck_old (hT : TS B n 0 N K A P Q) (n1 : n ≤ 800) (hc : PC N K A P Mc c U p) (hr : PR B K A P Q n Mr U2 p) {f : Int} {g : Int → Int} {a o : Int} (hg : fst (fun i => g i = A p) f = fst (fun i => Mr a (o + i) = A p) f) (f0 : 0 ≤ f) (o0 : 0 ≤ o) (o1 : o + f ≤ zLa a) (o2 : o + f ≤ 1000) : (K p = 1003 ∧ 0 ≤ fst (fun i => g i = A p) f ∧ fst (fun i => g i = A p) f < f ∧ (∃ m, zm_X7_takeOldName zLa [zA 7 1, zI (fst (fun i => g i = A p) f)] Mc = some ([zI 1], m) ∧ PC N K A P m c U (p + 1) ∧ m 1 4 = fst (fun i => g i = A p) f ∧ gC c Mc m) ∧ zm_X12_there zLa [zA 12 84, zA 13 a, zI o, zI f] Mr = some ([zI 1], Mr) ∧ Mr 84 9 = A p) ∨ LN (zm_X7_takeOldName zLa [zA 7 1, zI (fst (fun i => g i = A p) f)] Mc) (zm_X12_there zLa [zA 12 84, zA 13 a, zI o, zI f] Mr) c Mc Mr := by
  have he := eR_name hr.e
  rw [zr_X7_takeOldName, zr_X12_there, zb_X7_takeOldName_0, zb_X12_there_0, lo_1_0 hc.o, hc.k]
  by_cases q : K p = 1003
  case neg =>
    obtain ⟨f1, f2, f3⟩ := fail2 hc hr 1
    rw [if_neg q, c_take_no hc q, z_bI_mk, z_lt_eq, if_pos (Or.inl rfl), if_neg (he.2 q), r_wrong hr, z_bI_mk, if_pos (Or.inl rfl)]
    refine Or.inr ⟨_, _, rfl, rfl, f1.tr (hC.wr (by omega)), f2, ?_⟩
    obtain ⟨g1, g2, g3, g4, g5, g6, g7⟩ := f3
    exact ⟨(z_wr_ne (by omega)).trans g1, g2.ag (fun a k q => z_wr_ne (by unfold pO at q; omega)), g3.ag (fun a k q => z_wr_ne (by have hcc : c = 8 ∨ c = 42 := hc.1; unfold pC at q; omega)), (z_wr_ne (by omega)).trans g4, (z_wr_ne (by omega)).trans g5, g6, g7⟩
  have hfr := fst_rng (fun i => g i = A p) f0
  rw [if_pos q, if_pos (he.1 q).1, (he.1 q).2, e_findR o0 f0 o1 o2, z_bI_mk, ← hg]
  by_cases q1 : fst (fun i => g i = A p) f = -1
  · obtain ⟨f1, f2, f3⟩ := fail2 hc hr 4
    rw [if_pos q1, c_wrong hc, z_bI_mk, if_pos (Or.inl rfl), if_pos (by omega), r_wrong hr, z_bI_mk, if_pos rfl]
    exact Or.inr ⟨_, _, rfl, rfl, f1, f2, f3⟩
  · obtain ⟨m, e, h1, h2, h3⟩ := c_take_ok hT n1 hc (by decide) q
    rw [if_neg q1, e, z_bI_mk, z_lt_eq, if_pos (Or.inr rfl), if_neg (by omega)]
    exact Or.inl ⟨q, by omega, by omega, ⟨_, rfl, h1.ag (fun a k q1 q2 => z_wr_ne (by omega)), z_wr_eq _ _ _ _, h3.tr (gC.wr (by omega))⟩, rfl, rfl⟩
end
