/-! ===== the reference: bytes, words, tokens ===== -/
def rf_tk (A : Nat → Int) (n : Nat) : Prop := ∀ j : Nat, j < n → A j ≠ 7 ∧ A j ≠ 8
def rf_te (A : Nat → Int) (T : Int) : Prop := 0 ≤ T ∧ T ≤ 240 ∧ rf_tk A T.toNat ∧ (A T.toNat = 7 ∨ A T.toNat = 8)
def rf_f (W : List Nat) (s t : sx_S) : Prop := ∀ k, W.contains k = false → t.1 66 k = s.1 66 k
