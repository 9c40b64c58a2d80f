/-! ===== the reference: types are compared; what a name means ===== -/
def rf_hx : rf_T → Nat
  | .leaf => 0
  | .inner _ _ _ x y => max (rf_hx x) (rf_hx y) + 1
theorem rf_hx_at : ∀ x : rf_T, rf_hx x + 1 ≤ rf_at x
  | .leaf => Nat.le_refl _
  | .inner _ _ _ x y => by
    have h1 := rf_hx_at x
    have h2 := rf_hx_at y
    have h3 := rf_at_pos x
    have h4 := rf_at_pos y
    unfold rf_hx rf_at
    omega
