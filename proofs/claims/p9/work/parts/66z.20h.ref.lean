/-! ===== the reference: parts of what is read ===== -/
theorem rf_nt_ua' {m : Int} {s : sx_S} {F A : Nat → Nat → Int} {B : (Nat → Nat → Int) × Nat} {p k : Nat} {v : Int} (hk : m ≤ (k : Int)) (h : rf_nt m s (F, A, B)) : rf_nt m s (F, sx_ua A p k v, B) := by
  intro q j h1 h2 h3
  show sx_ua A p k v q j = _
  rw [sx_ua_if]
  split
  · rw [if_neg (by omega)]
    exact h q j h1 h2 h3
  · exact h q j h1 h2 h3
def rf_nk2 (s : sx_S) (z : Int) : Prop := True → s.2.1 74 z.toNat = 2
