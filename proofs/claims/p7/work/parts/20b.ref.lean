/-! ===== the reference: taking tokens, types ===== -/
theorem rf_f_refl (W : List Nat) (s : sx_S) : rf_f W s s := fun _ _ => rfl
theorem rf_f_uf {W : List Nat} {s : sx_S} {F : Nat → Nat → Int} {B : (Nat → Nat → Int) × (Nat → Nat → Int) × Nat} {k : Nat} {v : Int} (hk : W.contains k = true) (h : rf_f W s (F, B)) : rf_f W s (sx_uf F 66 k v, B) := by
  intro j hj
  show sx_uf F 66 k v 66 j = _
  rw [sx_uf_if, if_neg]
  · exact h j hj
  · rintro ⟨_, e⟩
    subst e
    rw [hk] at hj
    cases hj
theorem rf_f_step {V W : List Nat} {s t u : sx_S} (h2 : rf_f V t u) (hV : V.all W.contains = true) (h1 : rf_f W s t) : rf_f W s u := by
  intro k hk
  rw [h2 k ?_, h1 k hk]
  cases hc : V.contains k with
  | false => rfl
  | true =>
    have := List.all_eq_true.mp hV k (List.contains_iff_mem.mp hc)
    rw [hk] at this
    cases this
theorem rf_f_ua {W : List Nat} {s : sx_S} {F A : Nat → Nat → Int} {B : (Nat → Nat → Int) × Nat} {p k : Nat} {v : Int} (h : rf_f W s (F, A, B)) : rf_f W s (F, sx_ua A p k v, B) := h
theorem rf_f_F {V : List (Nat × Nat)} {W : List Nat} {s t u : sx_S} (h2 : cx_F V t u) (hV : cx_outb V 66 = true) (h1 : rf_f W s t) : rf_f W s u := by
  intro k hk
  rw [(h2.same 66 hV).1, h1 k hk]
def rf_A (T : Int) (s : sx_S) : Prop := True → rf_te (s.2.1 69) T
theorem rf_A_at {T : Int} {s : sx_S} (h : rf_A T s) : s.1 66 7 = T → s.2.1 69 (s.1 66 7).toNat = 7 ∨ s.2.1 69 (s.1 66 7).toNat = 8 := fun e => by
  rw [e]
  exact (h trivial).2.2.2
theorem rf_A_T {T : Int} {s : sx_S} (h : rf_A T s) : 0 ≤ T ∧ T ≤ 240 := ⟨(h trivial).1, (h trivial).2.1⟩
theorem rf_A_uf {T : Int} {F : Nat → Nat → Int} {B : (Nat → Nat → Int) × (Nat → Nat → Int) × Nat} {p k : Nat} {v : Int} (h : rf_A T (F, B)) : rf_A T (sx_uf F p k v, B) := h
theorem rf_A_ua {T : Int} {F A : Nat → Nat → Int} {B : (Nat → Nat → Int) × Nat} {p k : Nat} {v : Int} (hp : Nat.beq p 69 = false) (h : rf_A T (F, A, B)) : rf_A T (F, sx_ua A p k v, B) := by
  intro q
  show rf_te (sx_ua A p k v 69) T
  rw [sx_ua_ne (fun z => by rw [← z] at hp; exact absurd hp (by decide))]
  exact h q
theorem rf_A_F {V : List (Nat × Nat)} {T : Int} {s t : sx_S} (hF : cx_F V s t) (hV : cx_outb V 69 = true) (h : rf_A T s) : rf_A T t := by
  intro q
  rw [(hF.same 69 hV).2]
  exact h q

theorem w_r_take {CALL : sx_Ca} {T : Int} {sL : Nat} {sx : Nat → Int32} {Q : Nat → sx_L → sx_S → Prop} {R : Int → sx_S → Prop} {s : sx_S} {a0 : Int} (hI : cx_I s) (p0 : (-2147483648 ≤ a0 ∧ a0 ≤ 2147483647)) (p1 : (a0 ≠ 7 ∧ a0 ≠ 8)) (p2 : (rf_A T s)) (p3 : (0 ≤ s.1 66 7 ∧ s.1 66 7 ≤ T ∧ 2 ≤ s.1 66 9 ∧ s.1 66 9 ≤ 2 + s.1 66 7)) (hK : ∀ (z : Int) (t : sx_S), cx_I t → cx_F [(66, 66)] s t → (rf_A T t) → (0 ≤ t.1 66 7 ∧ t.1 66 7 ≤ T ∧ 2 ≤ t.1 66 9 ∧ t.1 66 9 ≤ 2 + t.1 66 7) → (rf_f [7, 8] s t) → (z = s.1 66 7) → ((t.1 66 8 = 0 ∧ s.1 66 8 = 0 ∧ t.1 66 7 = s.1 66 7 + 1) ∨ (t.1 66 8 = 1 ∧ t.1 66 7 = s.1 66 7)) → (t.1 66 9 = s.1 66 9 ∧ t.1 66 33 = s.1 66 33 ∧ t.1 66 12 = s.1 66 12) → R z t) : sx_wp true sL sx eX12_take CALL [] Q R 400 0 (sx_argsF 0 [.inr (.inl 66), .inl a0]) [] s := by
  have hT := rf_A_at p2
  have hT1 := rf_A_T p2
  repeat' (first | (with_reducible intro _) | (refine And.intro ?_ ?_) | (refine hK _ _ ?_ ?_ ?_ ?_ ?_ ?_ ?_ ?_))
  all_goals (try dsimp only)
  repeat' (first | (with_reducible assumption) | ((with_reducible (change cx_I (sx_uf _ _ _ _, _))); refine cx_I_uf rfl rfl ?_ ?_ ?_) | ((with_reducible (change cx_I (_, sx_ua _ _ _ _, _))); refine cx_I_ua rfl rfl ?_ ?_ ?_) | ((with_reducible (change cx_I (_, sx_ua _ 16 _ _, _))); refine cx_I_ari ?_ ?_ ?_) | ((with_reducible (change cx_I (sx_uf _ 11 6 _, _))); refine cx_I_ufA rfl ?_ ?_ ?_ ?_) | (with_reducible exact cx_F_refl _ _) | ((with_reducible (change cx_F _ _ (sx_uf _ _ _ _, _))); refine cx_F_uf rfl ?_) | ((with_reducible (change cx_F _ _ (_, sx_ua _ _ _ _, _))); refine cx_F_ua rfl ?_) | ((with_reducible (change cx_I (_, sx_cpy _ _ _ _ _ _, _))); refine cx_I_cpy rfl rfl rfl (by decide) ?_) | ((with_reducible (change cx_F _ _ (_, sx_cpy _ _ _ _ _ _, _))); refine cx_F_cpy rfl ?_) | ((with_reducible (change cx_F _ _ _)); refine cx_F_step (by assumption) rfl ?_) | ((with_reducible (change rf_f _ _ (sx_uf _ 66 _ _, _))); refine rf_f_uf rfl ?_) | ((with_reducible (change rf_f _ _ _)); exact (fun _ _ => rfl)) | ((with_reducible (change rf_f _ _ (_, sx_ua _ _ _ _, _))); refine rf_f_ua ?_) | ((with_reducible (change rf_f _ _ _)); assumption) | ((with_reducible (change rf_f _ _ _)); refine rf_f_step (by assumption) rfl ?_) | ((with_reducible (change rf_f _ _ _)); refine rf_f_F (by assumption) rfl ?_) | ((with_reducible (change rf_A _ (sx_uf _ _ _ _, _))); refine rf_A_uf ?_) | ((with_reducible (change rf_A _ (_, sx_ua _ _ _ _, _))); refine rf_A_ua rfl ?_) | ((with_reducible (change rf_A _ _)); assumption) | ((with_reducible (change rf_A _ _)); refine rf_A_F (by assumption) rfl ?_) | fail)
  all_goals (first | trivial | omega | (dsimp only at *; omega) | (simp only [sx_uf_if, sx_ua_if, sx_w_t, true_and, and_true, and_self, and_false, false_and, if_true, if_false, reduceIte] at *; omega) | (subst_vars; simp only [sx_uf_if, sx_ua_if, sx_w_t, true_and, and_true, and_self, and_false, false_and, if_true, if_false, reduceIte] at *; omega))

theorem c_r_take {sL : Nat} {sx : Nat → Int32} (hsL : sL ≤ 3072) (d : Nat) (hd : 2 ≤ d) (T : Int) : ∀ (a0 : Int) (s : sx_S) (K : Int → sx_S → Prop), cx_I s → (-2147483648 ≤ a0 ∧ a0 ≤ 2147483647) → (a0 ≠ 7 ∧ a0 ≠ 8) → (rf_A T s) → (0 ≤ s.1 66 7 ∧ s.1 66 7 ≤ T ∧ 2 ≤ s.1 66 9 ∧ s.1 66 9 ≤ 2 + s.1 66 7) → (∀ (z : Int) (t : sx_S), cx_I t → cx_F [(66, 66)] s t → (rf_A T t) → (0 ≤ t.1 66 7 ∧ t.1 66 7 ≤ T ∧ 2 ≤ t.1 66 9 ∧ t.1 66 9 ≤ 2 + t.1 66 7) → (rf_f [7, 8] s t) → (z = s.1 66 7) → ((t.1 66 8 = 0 ∧ s.1 66 8 = 0 ∧ t.1 66 7 = s.1 66 7 + 1) ∨ (t.1 66 8 = 1 ∧ t.1 66 7 = s.1 66 7)) → (t.1 66 9 = s.1 66 9 ∧ t.1 66 33 = s.1 66 33 ∧ t.1 66 12 = s.1 66 12) → K z t) → sx_C sL sx d 158 [.inr (.inl 66), .inl a0] s K := by
  intro a0 s K hI p0 p1 p2 p3 hK
  obtain ⟨d, rfl⟩ : ∃ e, d = e + 2 := ⟨d - 2, by omega⟩
  exact sx_meth (wr := true) (n := 400) hsL (e := eX12_take) rfl (w_r_take (Q := fun _ _ _ => False)  hI p0 p1 p2 p3 hK)
