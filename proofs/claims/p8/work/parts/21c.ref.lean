/-! ===== the reference: what a name means ===== -/
def rf_t5 (s : sx_S) (t : Int) : Prop := ∃ x : rf_T, rf_is s x t ∧ rf_at x ≤ 5
def rf_vt (s : sx_S) (v : Int) (x : rf_T) : Prop := (0 ≤ v ∧ v < s.1 66 58) ∧ rf_is s x (s.2.1 106 v.toNat)
/-- constants, unknowns and the variables around have types of at most five atoms -/
def rf_CK (s : sx_S) : Prop := ∀ k : Nat, ((k : Int) < s.1 66 42 → rf_t5 s (s.2.1 96 k)) ∧ ((k : Int) < s.1 66 45 → rf_t5 s (s.2.1 123 k)) ∧ ((k : Int) < s.1 66 34 → (0 ≤ s.2.1 94 k ∧ s.2.1 94 k < s.1 66 58) ∧ rf_t5 s (s.2.1 106 (s.2.1 94 k).toNat))
/-- what node j has at its head is of this type -/
def rf_hd (s : sx_S) (j : Nat) (x : rf_T) : Prop := rf_at x ≤ 5 ∧ ((s.2.1 83 j = 2 ∧ rf_vt s (s.2.1 82 j) x) ∨ (s.2.1 83 j = 1 ∧ (0 ≤ s.2.1 82 j ∧ s.2.1 82 j < s.1 66 42) ∧ rf_is s x (s.2.1 96 (s.2.1 82 j).toNat)) ∨ (s.2.1 83 j = 3 ∧ (0 ≤ s.2.1 82 j ∧ s.2.1 82 j < s.1 66 45) ∧ rf_is s x (s.2.1 123 (s.2.1 82 j).toNat)))
def rf_mz (s : sx_S) (r z : Int) : Prop := ∃ x : rf_T, rf_is s x z ∧ rf_hd s r.toNat x ∧ (s.2.1 83 r.toNat = 2 → ∃ k : Nat, (k : Int) < s.1 66 34 ∧ s.2.1 82 r.toNat = s.2.1 94 k)
/-- of the arrays 82 .. 84 only the row r has changed -/
def rf_ax (r : Int) (s t : sx_S) : Prop := ∀ p j : Nat, 82 ≤ p → p ≤ 84 → (j : Int) ≠ r → t.2.1 p j = s.2.1 p j
theorem rf_ax_refl (r : Int) (s : sx_S) : rf_ax r s s := fun _ _ _ _ _ => rfl
theorem rf_ax_uf {r : Int} {s : sx_S} {F : Nat → Nat → Int} {B : (Nat → Nat → Int) × (Nat → Nat → Int) × Nat} {p k : Nat} {v : Int} (h : rf_ax r s (F, B)) : rf_ax r s (sx_uf F p k v, B) := h
theorem rf_ax_ua {r : Int} {s : sx_S} {F A : Nat → Nat → Int} {B : (Nat → Nat → Int) × Nat} {p : Nat} {k v : Int} (hk : k = r) (hk0 : 0 ≤ k) (h : rf_ax r s (F, A, B)) : rf_ax r s (F, sx_ua A p k.toNat v, B) := by
  intro q j h1 h2 h3
  show sx_ua A p k.toNat v q j = _
  rw [sx_ua_if]
  split
  · rw [if_neg (by omega)]
    exact h q j h1 h2 h3
  · exact h q j h1 h2 h3
theorem rf_ax_F {V : List (Nat × Nat)} {r : Int} {s t u : sx_S} (hF : cx_F V t u) (hV : (cx_outb V 82 && cx_outb V 83 && cx_outb V 84) = true) (h : rf_ax r s t) : rf_ax r s u := by
  simp only [Bool.and_eq_true] at hV
  intro p j a b c
  have hp : p = 82 ∨ p = 83 ∨ p = 84 := by omega
  rcases hp with rfl | rfl | rfl
  · rw [(hF.same 82 hV.1.1).2]
    exact h 82 j a b c
  · rw [(hF.same 83 hV.1.2).2]
    exact h 83 j a b c
  · rw [(hF.same 84 hV.2).2]
    exact h 84 j a b c
section RFMZ
variable {s : sx_S} {B : (Nat → Nat → Int) × Nat} {r v k z : Int}
theorem rf_is_82 {w : Int} {n : Nat} {x : rf_T} (h : rf_is s x z) : rf_is (s.1, sx_ua (sx_ua s.2.1 83 n w) 82 n v, B) x z := by
  unfold rf_is
  dsimp only
  rw [sx_ua_ne (by decide), sx_ua_ne (by decide), sx_ua_ne (by decide), sx_ua_ne (by decide)]
  exact h
theorem rf_mz_v (hC : rf_CK s) (h0 : 0 ≤ k) (h1 : k < s.1 66 34) (hv : v = s.2.1 94 k.toNat) (hz : z = s.2.1 106 v.toNat) : rf_mz (s.1, sx_ua (sx_ua s.2.1 83 r.toNat 2) 82 r.toNat v, B) r z := by
  obtain ⟨h2, x, h3, h4⟩ := (hC k.toNat).2.2 (by omega)
  rw [← hv] at h2 h3
  refine ⟨x, rf_is_82 (by rw [hz]; exact h3), ⟨h4, Or.inl ⟨?_, ?_⟩⟩, fun _ => ⟨k.toNat, by dsimp only; omega, ?_⟩⟩
  · dsimp only
    rw [sx_ua_ne (by decide), sx_ua_same]
    exact if_pos rfl
  · have e : (sx_ua (sx_ua s.2.1 83 r.toNat 2) 82 r.toNat v) 82 r.toNat = v := by
      rw [sx_ua_same]
      exact if_pos rfl
    show rf_vt _ ((sx_ua (sx_ua s.2.1 83 r.toNat 2) 82 r.toNat v) 82 r.toNat) x
    rw [e]
    refine ⟨h2, rf_is_82 ?_⟩
    dsimp only
    rw [sx_ua_ne (by decide), sx_ua_ne (by decide)]
    exact h3
  · dsimp only
    rw [sx_ua_same, sx_ua_ne (by decide), sx_ua_ne (by decide), hv]
    exact if_pos rfl
theorem rf_mz_c (hC : rf_CK s) (h0 : 0 ≤ v) (h1 : v < s.1 66 42) (hz : z = s.2.1 96 v.toNat) : rf_mz (s.1, sx_ua (sx_ua s.2.1 83 r.toNat 1) 82 r.toNat v, B) r z := by
  obtain ⟨x, h3, h4⟩ := (hC v.toNat).1 (by omega)
  refine ⟨x, rf_is_82 (by rw [hz]; exact h3), ⟨h4, Or.inr (Or.inl ⟨?_, ?_⟩)⟩, fun q => absurd q (by dsimp only; rw [sx_ua_ne (by decide), sx_ua_same]; dsimp only; rw [if_pos rfl]; decide)⟩
  · dsimp only
    rw [sx_ua_ne (by decide), sx_ua_same]
    exact if_pos rfl
  · have e : (sx_ua (sx_ua s.2.1 83 r.toNat 1) 82 r.toNat v) 82 r.toNat = v := by
      rw [sx_ua_same]
      exact if_pos rfl
    dsimp only
    rw [e]
    refine ⟨⟨h0, h1⟩, rf_is_82 ?_⟩
    rw [sx_ua_ne (by decide), sx_ua_ne (by decide)]
    exact h3
theorem rf_mz_m (hC : rf_CK s) (h0 : 0 ≤ v) (h1 : v < s.1 66 45) (hz : z = s.2.1 123 v.toNat) : rf_mz (s.1, sx_ua (sx_ua s.2.1 83 r.toNat 3) 82 r.toNat v, B) r z := by
  obtain ⟨x, h3, h4⟩ := (hC v.toNat).2.1 (by omega)
  refine ⟨x, rf_is_82 (by rw [hz]; exact h3), ⟨h4, Or.inr (Or.inr ⟨?_, ?_⟩)⟩, fun q => absurd q (by dsimp only; rw [sx_ua_ne (by decide), sx_ua_same]; dsimp only; rw [if_pos rfl]; decide)⟩
  · dsimp only
    rw [sx_ua_ne (by decide), sx_ua_same]
    exact if_pos rfl
  · have e : (sx_ua (sx_ua s.2.1 83 r.toNat 3) 82 r.toNat v) 82 r.toNat = v := by
      rw [sx_ua_same]
      exact if_pos rfl
    dsimp only
    rw [e]
    refine ⟨⟨h0, h1⟩, rf_is_82 ?_⟩
    rw [sx_ua_ne (by decide), sx_ua_ne (by decide)]
    exact h3
end RFMZ
