/-! ===== the reference: taking tokens, types ===== -/
theorem rf_f_refl (W : List Nat) (s : sx_S) : rf_f W s s := fun _ _ => rfl
theorem rf_f_uf {W : List Nat} {s : sx_S} {F : Nat → Nat → Int} {B : (Nat → Nat → Int) × (Nat → Nat → Int) × Nat} {k : Nat} {v : Int} (hk : W.contains k = true) (h : rf_f W s (F, B)) : rf_f W s (sx_uf F 66 k v, B) := by
  intro j hj
  show sx_uf F 66 k v 66 j = _
  rw [sx_uf_if, if_neg]
  · exact h j hj
  · rintro ⟨_, e⟩
    subst e
    rw [hk] at hj
    cases hj
theorem rf_f_step {V W : List Nat} {s t u : sx_S} (h2 : rf_f V t u) (hV : V.all W.contains = true) (h1 : rf_f W s t) : rf_f W s u := by
  intro k hk
  rw [h2 k ?_, h1 k hk]
  cases hc : V.contains k with
  | false => rfl
  | true =>
    have := List.all_eq_true.mp hV k (List.contains_iff_mem.mp hc)
    rw [hk] at this
    cases this
theorem rf_f_ua {W : List Nat} {s : sx_S} {F A : Nat → Nat → Int} {B : (Nat → Nat → Int) × Nat} {p k : Nat} {v : Int} (h : rf_f W s (F, A, B)) : rf_f W s (F, sx_ua A p k v, B) := h
theorem rf_f_F {V : List (Nat × Nat)} {W : List Nat} {s t u : sx_S} (h2 : cx_F V t u) (hV : cx_outb V 66 = true) (h1 : rf_f W s t) : rf_f W s u := by
  intro k hk
  rw [(h2.same 66 hV).1, h1 k hk]
def rf_A (T : Int) (s : sx_S) : Prop := True → rf_te (s.2.1 69) T
theorem rf_A_at {T : Int} {s : sx_S} (h : rf_A T s) : s.1 66 7 = T → s.2.1 69 (s.1 66 7).toNat = 7 ∨ s.2.1 69 (s.1 66 7).toNat = 8 := fun e => by
  rw [e]
  exact (h trivial).2.2.2
theorem rf_A_T {T : Int} {s : sx_S} (h : rf_A T s) : 0 ≤ T ∧ T ≤ 240 := ⟨(h trivial).1, (h trivial).2.1⟩
theorem rf_A_uf {T : Int} {F : Nat → Nat → Int} {B : (Nat → Nat → Int) × (Nat → Nat → Int) × Nat} {p k : Nat} {v : Int} (h : rf_A T (F, B)) : rf_A T (sx_uf F p k v, B) := h
theorem rf_A_ua {T : Int} {F A : Nat → Nat → Int} {B : (Nat → Nat → Int) × Nat} {p k : Nat} {v : Int} (hp : Nat.beq p 69 = false) (h : rf_A T (F, A, B)) : rf_A T (F, sx_ua A p k v, B) := by
  intro q
  show rf_te (sx_ua A p k v 69) T
  rw [sx_ua_ne (fun z => by rw [← z] at hp; exact absurd hp (by decide))]
  exact h q
theorem rf_A_F {V : List (Nat × Nat)} {T : Int} {s t : sx_S} (hF : cx_F V s t) (hV : cx_outb V 69 = true) (h : rf_A T s) : rf_A T t := by
  intro q
  rw [(hF.same 69 hV).2]
  exact h q
