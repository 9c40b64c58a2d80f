def rf_ty1 (s : sx_S) (k : Nat) : Prop := ∃ x : rf_T, rf_is s x (s.2.1 87 k) ∧ s.2.1 89 k = (rf_at x : Int)
/-- of the items none below n has changed -/
def rf_ie (n : Int) (s t : sx_S) : Prop := ∀ p k : Nat, 85 ≤ p → p ≤ 92 → (k : Int) < n → t.2.1 p k = s.2.1 p k
theorem rf_ie_refl (n : Int) (s : sx_S) : rf_ie n s s := fun _ _ _ _ _ => rfl
theorem rf_ie_uf {n : Int} {s : sx_S} {F : Nat → Nat → Int} {B : (Nat → Nat → Int) × (Nat → Nat → Int) × Nat} {p k : Nat} {v : Int} (h : rf_ie n s (F, B)) : rf_ie n s (sx_uf F p k v, B) := h
theorem rf_ie_ua {n : Int} {s : sx_S} {F A : Nat → Nat → Int} {B : (Nat → Nat → Int) × Nat} {p : Nat} {k v : Int} (hk : n ≤ k) (hk0 : 0 ≤ k) (h : rf_ie n s (F, A, B)) : rf_ie n s (F, sx_ua A p k.toNat v, B) := by
  intro q j h1 h2 h3
  show sx_ua A p k.toNat v q j = _
  rw [sx_ua_if]
  split
  · rw [if_neg (by omega)]
    exact h q j h1 h2 h3
  · exact h q j h1 h2 h3
theorem rf_ie_F {V : List (Nat × Nat)} {n : Int} {s t u : sx_S} (hF : cx_F V t u) (hV : (List.range 8).all (fun i => cx_outb V (85 + i)) = true) (h : rf_ie n s t) : rf_ie n s u := by
  intro p j a b c
  have := List.all_eq_true.mp hV (p - 85) (List.mem_range.mpr (by omega))
  rw [show 85 + (p - 85) = p by omega] at this
  rw [(hF.same p this).2]
  exact h p j a b c
