/-- the same int -/
theorem sx_vo_int {z1 z2 : Int} (h : sx_vo (some .int) z1 = sx_vo (some .int) z2) (h1 : -2147483648 ≤ z1 ∧ z1 ≤ 2147483647) (h2 : -2147483648 ≤ z2 ∧ z2 ≤ 2147483647) : z1 = z2 := by
  have q : (some (Value.int (Int32.ofInt z1)) : Option Value) = some (Value.int (Int32.ofInt z2)) := h
  injection q with q
  injection q with q
  have q3 := congrArg Int32.toInt q
  rw [sx_toInt ⟨by omega, by omega⟩, sx_toInt ⟨by omega, by omega⟩] at q3
  exact q3
