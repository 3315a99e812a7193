section
/-! ===== the law, from its entry to its end ===== -/
theorem whole_start {p : Program} {e : Env} {s : State} {m : MethodId} {below : List Frame} {meth : Method} {c : Code} (l : Launch) {b L : Nat} {xs : Nat → Int32} (hfl : l.flags = flags0) (hL : L ≤ 3072) (C0 : lw_At p s m meth c b L xs) : W p l e room_1 s m #[Value.ref b] below meth c s.heap [] 0 0 (lw_Z below #[Value.ref b] s) (entryFrame m ([Value.ref b] : List Value).toArray 7) := by
  obtain ⟨hx, hb, hr, hml, hown, hts0, hX, hbl, hlocks, hgv⟩ := id C0
  obtain ⟨g, hE⟩ := st_lk hgv hts0
  have hst : l.stackTraces = false := by
    unfold Launch.stackTraces
    rw [hfl]
    decide +kernel
  refine lw_begin hL C0 (fun D α γ hK => ?_)
  have h := law_loop hK (kc := 1) (ks := 6) (nc0 := 117) (ns0 := 7432) (by decide) (by decide) (lw_look hst hK hE) (L + 1) 0 (by omega) (by omega)
  exact h
end
