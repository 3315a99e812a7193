section
/-! a name out of the rest of the library: the set is read over the whole of it, as the rows of 87a want it -/
theorem lb_use (n : Nat) : n = n := by
  have _h := @Bundle.chainSX
  rfl
end
