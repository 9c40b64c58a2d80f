/-! ===== the reference: the variable that a long form is ===== -/
/-- j LAMs down from n is b -/
def rf_dn (b : rf_N) : Nat → rf_N → Prop
  | 0, n => n = b
  | _ + 1, .leaf => False
  | j + 1, .inner _ k _ f _ => k.1 = 0 ∧ rf_dn b j f
theorem rf_dn_snoc {i : Nat} {k : Int × Int} {u : Unit} {f x : rf_N} (hk : k.1 = 0) : ∀ {j : Nat} {n : rf_N}, rf_dn (.inner i k u f x) j n → rf_dn f (j + 1) n
  | 0, n, h => by
    have e : n = .inner i k u f x := h
    rw [e]
    exact ⟨hk, rfl⟩
  | j + 1, .leaf, h => h.elim
  | j + 1, .inner _ _ _ _ _, h => ⟨h.1, rf_dn_snoc hk h.2⟩
theorem w_var {CALL : sx_Ca} {sL : Nat} {sx : Nat → Int32} {Q : Nat → sx_L → sx_S → Prop} {R : Int → sx_S → Prop} {s : sx_S} {a0 : Int} (hI : cx_I s) (hQ : Q 4 [(0, .inr (.inl 66)), (1, .inl a0), (2, .inl 0), (3, .inl a0)] s) : sx_wp true sL sx eX12_variable CALL [(4, [0, 1, 2, 3]), (52, [0, 2, 3, 4, 5, 6])] Q R 400 0 (sx_argsF 0 [.inr (.inl 66), .inl a0]) [] s := by
  exact hQ
theorem w_var_4 {CALL : sx_Ca} {sL : Nat} {sx : Nat → Int32} {Q : Nat → sx_L → sx_S → Prop} {R : Int → sx_S → Prop} {s : sx_S} {a0 x2 x3 : Int} (hI : cx_I s) (q2 : 0 ≤ x2 ∧ x2 ≤ 1000000) (q3 : 0 ≤ x3 ∧ x3 ≤ 59999) (hQ4 : s.2.1 100 x3.toNat = 0 → ∀ u y2 : Int, u = s.2.1 102 x3.toNat → y2 = x2 + 1 → Q 4 [(0, .inr (.inl 66)), (1, .inl a0), (2, .inl y2), (3, .inl u)] s) (hQ52 : s.2.1 100 x3.toNat = 2 → ∀ u : Int, u = s.2.1 102 x3.toNat → Q 52 [(0, .inr (.inl 66)), (2, .inl x2), (3, .inl x3), (4, .inl a0), (5, .inl u), (6, .inl 0)] s) (hK : s.2.1 100 x3.toNat ≠ 0 → s.2.1 100 x3.toNat ≠ 2 → R (-1) s) : sx_wp true sL sx eX12_variable CALL [(4, [0, 1, 2, 3]), (52, [0, 2, 3, 4, 5, 6])] Q R 400 4 [(0, .inr (.inl 66)), (1, .inl a0), (2, .inl x2), (3, .inl x3)] [] s := by
  repeat' (first | (with_reducible intro _) | (refine And.intro ?_ ?_) | (refine hK ?_ ?_) | (refine hQ4 ?_ _ _ ?_ ?_) | (refine hQ52 ?_ _ ?_))
  all_goals (try dsimp only)
  all_goals (first | trivial | assumption | omega | (dsimp only at *; omega) | (simp only [sx_w_t] at *; omega) | (exfalso; omega) | (subst_vars; omega) | (subst_vars; assumption) | (subst_vars; dsimp only at *; omega) | (subst_vars; dsimp only at *; simp only [sx_w_t] at *; omega) | (exfalso; subst_vars; omega))
theorem rf_vt_inj {s : sx_S} {v : Int} {x y : rf_T} (h : rf_vt s v x) (g : rf_vt s v y) : x = y := rf_ty_inj h.2 g.2
theorem rf_H_0 {s : sx_S} {j : Nat} {k r : Int} {u : rf_T} (h : rf_H s j k r u) (hk : k = 0) : rf_vt s r u := by
  rcases h with ⟨_, h⟩ | ⟨h, _⟩ | ⟨h, _⟩ | ⟨h, _⟩
  · exact h
  · omega
  · omega
  · omega
theorem rf_H_2 {s : sx_S} {j : Nat} {k r : Int} {u : rf_T} (h : rf_H s j k r u) (hk : k = 2) : rf_vt s r u := by
  rcases h with ⟨h, _⟩ | ⟨h, _⟩ | ⟨_, h⟩ | ⟨h, _⟩
  · omega
  · omega
  · exact h
  · omega
theorem rf_wh_0 {j : Nat} {k : Int × Int} {u : Unit} {f x : rf_N} (h : k.1 = 0) : (rf_wh (.inner j k u f x)).1 = 1 + (rf_wh f).1 := by
  show (if k.1 = 3 then 5 else if k.1 = 0 then 1 + (rf_wh f).1 else 1 + (rf_wh f).2) = _
  rw [if_neg (by omega), if_pos h]
theorem rf_wh_2 {j : Nat} {k : Int × Int} {u : Unit} {f x : rf_N} (h : k.1 = 1 ∨ k.1 = 2) : (rf_wh (.inner j k u f x)).1 = 1 + (rf_wh f).2 := by
  show (if k.1 = 3 then 5 else if k.1 = 0 then 1 + (rf_wh f).1 else 1 + (rf_wh f).2) = _
  rw [if_neg (by omega), if_neg (by omega)]
theorem rf_wh_pos {j : Nat} {k : Int × Int} {u : Unit} {f x : rf_N} : 1 ≤ (rf_wh (.inner j k u f x)).1 := by
  show 1 ≤ (if k.1 = 3 then 5 else if k.1 = 0 then 1 + (rf_wh f).1 else 1 + (rf_wh f).2)
  split
  · decide
  · split <;> omega
theorem rf_wh_le {j : Nat} {k : Int × Int} {u : Unit} {f x : rf_N} : (rf_wh (.inner j k u f x)).1 ≤ (rf_wh (.inner j k u f x)).2 ∧ (rf_wh x).2 ≤ (rf_wh (.inner j k u f x)).2 := ⟨Nat.le_max_left _ _, Nat.le_max_right _ _⟩
