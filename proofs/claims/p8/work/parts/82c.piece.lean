section
/-! ===== the reference: writing, piece by piece, with what is read ===== -/
theorem w_e_isFull {CALL : sx_Ca} {sL : Nat} {sx : Nat → Int32} {Q : Nat → sx_L → sx_S → Prop} {R : Int → sx_S → Prop} {s : sx_S} (hI : cx_I s) (hK : ∀ z : Int, (0 ≤ z ∧ z ≤ 1) → (z = 0 ∨ (s.1 66 89 = 0 ∧ 4000 < s.1 66 86)) → R z s) : sx_wp true sL sx eX12_isFull CALL [] Q R 400 0 (sx_argsF 0 [.inr (.inl 66)]) [] s := by
  repeat' (first | (with_reducible intro _) | (refine And.intro ?_ ?_) | (refine hK _ ?_ ?_))
  all_goals (try dsimp only)
  repeat' (first | (with_reducible assumption) | ((with_reducible (change cx_I (sx_uf _ _ _ _, _))); refine cx_I_uf rfl rfl ?_ ?_ ?_) | ((with_reducible (change cx_I (_, sx_ua _ _ _ _, _))); refine cx_I_ua rfl rfl ?_ ?_ ?_) | ((with_reducible (change cx_I (_, sx_ua _ 16 _ _, _))); refine cx_I_ari ?_ ?_ ?_) | ((with_reducible (change cx_I (sx_uf _ 11 6 _, _))); refine cx_I_ufA rfl ?_ ?_ ?_ ?_) | (with_reducible exact cx_F_refl _ _) | ((with_reducible (change cx_F _ _ (sx_uf _ _ _ _, _))); refine cx_F_uf rfl ?_) | ((with_reducible (change cx_F _ _ (_, sx_ua _ _ _ _, _))); refine cx_F_ua rfl ?_) | ((with_reducible (change cx_I (_, sx_cpy _ _ _ _ _ _, _))); refine cx_I_cpy rfl rfl rfl (by decide) ?_) | ((with_reducible (change cx_F _ _ (_, sx_cpy _ _ _ _ _ _, _))); refine cx_F_cpy rfl ?_) | ((with_reducible (change cx_F _ _ _)); refine cx_F_step (by assumption) rfl ?_) | fail)
  all_goals (first | trivial | omega | (dsimp only at *; omega) | (simp only [sx_uf_if, sx_ua_if, sx_w_t, true_and, and_true, and_self, and_false, false_and, if_true, if_false, reduceIte] at *; omega) | (subst_vars; rfl) | (subst_vars; decide))
theorem c_e_isFull {sL : Nat} {sx : Nat → Int32} (hsL : sL ≤ 3072) (d : Nat) (hd : 2 ≤ d) : ∀ (s : sx_S) (K : Int → sx_S → Prop), cx_I s → (∀ z : Int, (0 ≤ z ∧ z ≤ 1) → (z = 0 ∨ (s.1 66 89 = 0 ∧ 4000 < s.1 66 86)) → K z s) → sx_C sL sx d 208 [.inr (.inl 66)] s K := by
  intro s K hI hK
  obtain ⟨d, rfl⟩ : ∃ e, d = e + 2 := ⟨d - 2, by omega⟩
  exact sx_meth (wr := true) (n := 400) hsL (e := eX12_isFull) rfl (w_e_isFull (Q := fun _ _ _ => False) hI hK)
theorem w_e_write {CALL : sx_Ca} {sL : Nat} {sx : Nat → Int32} {Q : Nat → sx_L → sx_S → Prop} {R : Int → sx_S → Prop} {s : sx_S} {x4 x5 dp : Int} (hF : ∀ K : Int → sx_S → Prop, (∀ z, (0 ≤ z ∧ z ≤ 1) → (z = 0 ∨ (s.1 66 89 = 0 ∧ 4000 < s.1 66 86)) → K z s) → CALL 208 [.inr (.inl 66)] s K) (hK : s.1 66 89 = 0 → 4000 < s.1 66 86 → R 0 s) (hQ : Q 14 [(0, .inr (.inl 66)), (3, .inl dp), (4, .inl x4), (5, .inl x5)] s) : sx_wp true sL sx eX12_write CALL [(14, [0, 3, 4, 5]), (63, [0, 3, 4, 5]), (103, [0, 3, 4, 5]), (131, [0, 3, 4, 5, 6]), (138, [0, 3, 4, 5, 6]), (168, [0, 3, 4, 5]), (189, [0, 3, 4, 5]), (243, [0, 3, 4, 5]), (252, [0, 3, 5, 6]), (264, [0, 3, 5, 6]), (274, [0, 3, 5, 6, 7]), (285, [0, 3, 5, 6, 7]), (318, [0, 3, 5, 6, 7]), (329, [0, 3, 5, 6])] Q R 400 0 (sx_argsF 0 [.inr (.inl 66), .inl x4, .inl x5, .inl dp]) [] s := by
  repeat' (first | (with_reducible intro _) | (refine And.intro ?_ ?_) | (exact hQ) | (refine hK ?_ ?_) | (refine hF _ ?_))
  all_goals (try dsimp only)
  all_goals (first | trivial | assumption | omega | (dsimp only at *; omega) | (simp only [sx_w_t] at *; omega) | (subst_vars; omega) | (subst_vars; assumption) | (subst_vars; dsimp only at *; omega) | (subst_vars; dsimp only at *; simp only [sx_w_t] at *; omega) | skip)
theorem w_e_write_14 {CALL : sx_Ca} {sL : Nat} {sx : Nat → Int32} {Q : Nat → sx_L → sx_S → Prop} {R : Int → sx_S → Prop} {s : sx_S} {x4 x5 dp : Int} (hI : cx_I s) (p4 : 0 ≤ x4 ∧ x4 ≤ 59999) (hr : s.2.1 100 x4.toNat = 3 → 0 ≤ s.2.1 101 x4.toNat ∧ s.2.1 101 x4.toNat ≤ 2999) (hK : s.2.1 100 x4.toNat = 3 → s.2.1 111 (s.2.1 101 x4.toNat).toNat ≠ 0 → s.1 66 89 ≠ 0 → s.2.1 119 (s.2.1 101 x4.toNat).toNat ≠ 0 → R 0 s) (hQ : s.2.1 100 x4.toNat = 3 → s.2.1 111 (s.2.1 101 x4.toNat).toNat ≠ 0 → Q 63 [(0, .inr (.inl 66)), (3, .inl dp), (4, .inl x4), (5, .inl x5)] s) (hX : (s.2.1 100 x4.toNat = 3 → s.2.1 111 (s.2.1 101 x4.toNat).toNat = 0) → Q 103 [(0, .inr (.inl 66)), (3, .inl dp), (4, .inl x4), (5, .inl x5)] s) : sx_wp true sL sx eX12_write CALL [(14, [0, 3, 4, 5]), (63, [0, 3, 4, 5]), (103, [0, 3, 4, 5]), (131, [0, 3, 4, 5, 6]), (138, [0, 3, 4, 5, 6]), (168, [0, 3, 4, 5]), (189, [0, 3, 4, 5]), (243, [0, 3, 4, 5]), (252, [0, 3, 5, 6]), (264, [0, 3, 5, 6]), (274, [0, 3, 5, 6, 7]), (285, [0, 3, 5, 6, 7]), (318, [0, 3, 5, 6, 7]), (329, [0, 3, 5, 6])] Q R 400 14 [(0, .inr (.inl 66)), (3, .inl dp), (4, .inl x4), (5, .inl x5)] [] s := by
  repeat' (first | (with_reducible intro _) | (refine And.intro ?_ ?_) | (refine hK ?_ ?_ ?_ ?_) | (refine hQ ?_ ?_) | (refine hX ?_))
  all_goals (try dsimp only)
  all_goals (first | trivial | assumption | omega | (dsimp only at *; omega) | (subst_vars; rfl) | (subst_vars; exact Eq.symm (by assumption)) | (intro q; subst_vars; first | assumption | omega) | (intro q; exfalso; omega) | (subst_vars; first | assumption | omega) | skip)
theorem w_e_write_189 {CALL : sx_Ca} {sL : Nat} {sx : Nat → Int32} {Q : Nat → sx_L → sx_S → Prop} {R : Int → sx_S → Prop} {s : sx_S} {x4 x5 dp lk : Int} {PW : sx_S → Prop} (hI : cx_I s) (p4 : 0 ≤ x4 ∧ x4 ≤ 59999) (hr : s.2.1 100 x4.toNat = 1 → 0 ≤ s.2.1 101 x4.toNat ∧ s.2.1 101 x4.toNat ≤ 7) (hlk : s.2.1 100 x4.toNat ≠ 1 → 0 ≤ lk ∧ lk ≤ 399999) (hN : s.2.1 100 x4.toNat = 1 → ∀ u : Int, u = s.2.1 95 (s.2.1 101 x4.toNat).toNat → (0 ≤ u ∧ u ≤ 241) → ∀ K : Int → sx_S → Prop, (∀ z t, PW t → K z t) → CALL 205 [.inr (.inl 66), .inl u] s K) (hL : s.2.1 100 x4.toNat ≠ 1 → ∀ u : Int, u = s.2.1 101 x4.toNat → ∀ K : Int → sx_S → Prop, K lk s → CALL 186 [.inr (.inl 66), .inl x5, .inl u] s K) (hP : s.2.1 100 x4.toNat ≠ 1 → ∀ u : Int, u = s.2.1 107 lk.toNat → ∀ K : Int → sx_S → Prop, (∀ z t, PW t → K z t) → CALL 204 [.inr (.inl 66), .inl 120, .inl u] s K) (hQ : ∀ t, PW t → Q 243 [(0, .inr (.inl 66)), (3, .inl dp), (4, .inl x4), (5, .inl x5)] t) : sx_wp true sL sx eX12_write CALL [(14, [0, 3, 4, 5]), (63, [0, 3, 4, 5]), (103, [0, 3, 4, 5]), (131, [0, 3, 4, 5, 6]), (138, [0, 3, 4, 5, 6]), (168, [0, 3, 4, 5]), (189, [0, 3, 4, 5]), (243, [0, 3, 4, 5]), (252, [0, 3, 5, 6]), (264, [0, 3, 5, 6]), (274, [0, 3, 5, 6, 7]), (285, [0, 3, 5, 6, 7]), (318, [0, 3, 5, 6, 7]), (329, [0, 3, 5, 6])] Q R 400 189 [(0, .inr (.inl 66)), (3, .inl dp), (4, .inl x4), (5, .inl x5)] [] s := by
  repeat' (first | (with_reducible intro _) | (refine And.intro ?_ ?_) | (refine hQ _ (by assumption)) | (refine hN ?_ _ ?_ ?_ _ ?_) | (refine hP ?_ _ ?_ _ ?_) | (refine hL ?_ _ ?_ _ ?_))
  all_goals (try dsimp only)
  all_goals (first | trivial | assumption | omega | (dsimp only at *; omega) | (simp only [sx_w_t] at *; omega) | (subst_vars; rfl) | (subst_vars; omega) | (subst_vars; assumption) | (subst_vars; dsimp only at *; omega) | (subst_vars; dsimp only at *; simp only [sx_w_t] at *; omega) | skip)
theorem w_e_write_264 {CALL : sx_Ca} {sL : Nat} {sx : Nat → Int32} {Q : Nat → sx_L → sx_S → Prop} {R : Int → sx_S → Prop} {s : sx_S} {x5 x6 dp : Int} {PZ : Int → Prop} (hP : ∀ K : Int → sx_S → Prop, (∀ z, PZ z → K z s) → CALL 210 [.inr (.inl 66), .inl x6, .inl x5] s K) (hQ : ∀ z : Int, PZ z → Q 274 [(0, .inr (.inl 66)), (3, .inl dp), (5, .inl x5), (6, .inl x6), (7, .inl z)] s) : sx_wp true sL sx eX12_write CALL [(14, [0, 3, 4, 5]), (63, [0, 3, 4, 5]), (103, [0, 3, 4, 5]), (131, [0, 3, 4, 5, 6]), (138, [0, 3, 4, 5, 6]), (168, [0, 3, 4, 5]), (189, [0, 3, 4, 5]), (243, [0, 3, 4, 5]), (252, [0, 3, 5, 6]), (264, [0, 3, 5, 6]), (274, [0, 3, 5, 6, 7]), (285, [0, 3, 5, 6, 7]), (318, [0, 3, 5, 6, 7]), (329, [0, 3, 5, 6])] Q R 400 264 [(0, .inr (.inl 66)), (3, .inl dp), (5, .inl x5), (6, .inl x6)] [] s := by
  repeat' (first | (with_reducible intro _) | (refine And.intro ?_ ?_) | (refine hQ _ (by assumption)) | (refine hP _ ?_))
  all_goals (try dsimp only)
  all_goals (first | trivial | assumption | omega | (dsimp only at *; omega) | (simp only [sx_w_t] at *; omega) | (subst_vars; omega) | (subst_vars; assumption) | (subst_vars; dsimp only at *; omega) | (subst_vars; dsimp only at *; simp only [sx_w_t] at *; omega) | skip)
theorem w_e_write_274 {CALL : sx_Ca} {sL : Nat} {sx : Nat → Int32} {Q : Nat → sx_L → sx_S → Prop} {R : Int → sx_S → Prop} {s : sx_S} {x5 x6 x7 dp : Int} {PW : sx_S → Prop} (p7 : 0 ≤ x7 ∧ x7 ≤ 1) (hP : x7 ≠ 0 → ∀ K : Int → sx_S → Prop, (∀ z t, PW t → K z t) → CALL 203 [.inr (.inl 66), .inl 40] s K) (hQ1 : x7 ≠ 0 → ∀ t, PW t → Q 285 [(0, .inr (.inl 66)), (3, .inl dp), (5, .inl x5), (6, .inl x6), (7, .inl x7)] t) (hQ2 : x7 = 0 → Q 285 [(0, .inr (.inl 66)), (3, .inl dp), (5, .inl x5), (6, .inl x6), (7, .inl x7)] s) : sx_wp true sL sx eX12_write CALL [(14, [0, 3, 4, 5]), (63, [0, 3, 4, 5]), (103, [0, 3, 4, 5]), (131, [0, 3, 4, 5, 6]), (138, [0, 3, 4, 5, 6]), (168, [0, 3, 4, 5]), (189, [0, 3, 4, 5]), (243, [0, 3, 4, 5]), (252, [0, 3, 5, 6]), (264, [0, 3, 5, 6]), (274, [0, 3, 5, 6, 7]), (285, [0, 3, 5, 6, 7]), (318, [0, 3, 5, 6, 7]), (329, [0, 3, 5, 6])] Q R 400 274 [(0, .inr (.inl 66)), (3, .inl dp), (5, .inl x5), (6, .inl x6), (7, .inl x7)] [] s := by
  repeat' (first | (with_reducible intro _) | (refine And.intro ?_ ?_) | (refine hQ2 ?_) | (refine hQ1 ?_ _ (by assumption)) | (refine hP ?_ _ ?_))
  all_goals (try dsimp only)
  all_goals (first | trivial | assumption | omega | (dsimp only at *; omega) | (simp only [sx_w_t] at *; omega) | (subst_vars; omega) | (subst_vars; assumption) | (subst_vars; dsimp only at *; omega) | (subst_vars; dsimp only at *; simp only [sx_w_t] at *; omega) | skip)
theorem w_e_write_318 {CALL : sx_Ca} {sL : Nat} {sx : Nat → Int32} {Q : Nat → sx_L → sx_S → Prop} {R : Int → sx_S → Prop} {s : sx_S} {x5 x6 x7 dp : Int} {PW : sx_S → Prop} (p7 : 0 ≤ x7 ∧ x7 ≤ 1) (hP : x7 ≠ 0 → ∀ K : Int → sx_S → Prop, (∀ z t, PW t → K z t) → CALL 203 [.inr (.inl 66), .inl 41] s K) (hQ1 : x7 ≠ 0 → ∀ t, PW t → Q 329 [(0, .inr (.inl 66)), (3, .inl dp), (5, .inl x5), (6, .inl x6)] t) (hQ2 : x7 = 0 → Q 329 [(0, .inr (.inl 66)), (3, .inl dp), (5, .inl x5), (6, .inl x6)] s) : sx_wp true sL sx eX12_write CALL [(14, [0, 3, 4, 5]), (63, [0, 3, 4, 5]), (103, [0, 3, 4, 5]), (131, [0, 3, 4, 5, 6]), (138, [0, 3, 4, 5, 6]), (168, [0, 3, 4, 5]), (189, [0, 3, 4, 5]), (243, [0, 3, 4, 5]), (252, [0, 3, 5, 6]), (264, [0, 3, 5, 6]), (274, [0, 3, 5, 6, 7]), (285, [0, 3, 5, 6, 7]), (318, [0, 3, 5, 6, 7]), (329, [0, 3, 5, 6])] Q R 400 318 [(0, .inr (.inl 66)), (3, .inl dp), (5, .inl x5), (6, .inl x6), (7, .inl x7)] [] s := by
  repeat' (first | (with_reducible intro _) | (refine And.intro ?_ ?_) | (refine hQ2 ?_) | (refine hQ1 ?_ _ (by assumption)) | (refine hP ?_ _ ?_))
  all_goals (try dsimp only)
  all_goals (first | trivial | assumption | omega | (dsimp only at *; omega) | (simp only [sx_w_t] at *; omega) | (subst_vars; omega) | (subst_vars; assumption) | (subst_vars; dsimp only at *; omega) | (subst_vars; dsimp only at *; simp only [sx_w_t] at *; omega) | skip)
theorem w_e_hasParts_2 {CALL : sx_Ca} {sL : Nat} {sx : Nat → Int32} {Q : Nat → sx_L → sx_S → Prop} {R : Int → sx_S → Prop} {s : sx_S} {x3 : Int} (hI : cx_I s) (p3 : 0 ≤ x3 ∧ x3 ≤ 59999) (hr : s.2.1 100 x3.toNat = 3 → 0 ≤ s.2.1 101 x3.toNat ∧ s.2.1 101 x3.toNat ≤ 2999) (hQ : s.2.1 100 x3.toNat = 3 → s.2.1 111 (s.2.1 101 x3.toNat).toNat ≠ 0 → ∀ u : Int, u = s.2.1 113 (s.2.1 101 x3.toNat).toNat → Q 2 [(0, .inr (.inl 66)), (3, .inl u)] s) (hK : ∀ z : Int, (0 ≤ z ∧ z ≤ 1) → (s.2.1 100 x3.toNat = 3 → s.2.1 111 (s.2.1 101 x3.toNat).toNat = 0) → (s.2.1 100 x3.toNat = 3 → 0 < s.2.1 108 (s.2.1 101 x3.toNat).toNat → z = 1) → (s.2.1 100 x3.toNat = 3 → s.2.1 108 (s.2.1 101 x3.toNat).toNat ≤ 0 → z = 0) → (s.2.1 100 x3.toNat ≠ 3 → s.2.1 102 x3.toNat ≠ -1 → z = 1) → (s.2.1 100 x3.toNat ≠ 3 → s.2.1 102 x3.toNat = -1 → z = 0) → R z s) : sx_wp true sL sx eX12_hasParts CALL [(2, [0, 3])] Q R 400 2 [(0, .inr (.inl 66)), (3, .inl x3)] [] s := by
  repeat' (first | (with_reducible (rintro _ rfl)) | (with_reducible intro _) | (refine And.intro ?_ ?_) | (refine hQ ?_ ?_ _ ?_) | (refine hK _ ?_ ?_ ?_ ?_ ?_ ?_))
  all_goals (try dsimp only at *)
  all_goals (first | trivial | assumption | omega | (dsimp only at *; omega) | (subst_vars; rfl) | (subst_vars; first | assumption | omega) | (exfalso; subst_vars; first | omega | contradiction) | skip)
theorem w_e_fresh_165 {CALL : sx_Ca} {sL : Nat} {sx : Nat → Int32} {Q : Nat → sx_L → sx_S → Prop} {R : Int → sx_S → Prop} {s : sx_S} {a0 a1 a2 x4 : Int} {PW : sx_S → Prop} (hI : cx_I s) (p4 : 0 ≤ x4 ∧ x4 ≤ 2999) (hP : ∀ u : Int, u = s.2.1 118 x4.toNat → ∀ K : Int → sx_S → Prop, (∀ z t, PW t → K z t) → CALL 204 [.inr (.inl 66), .inl 104, .inl u] s K) (hQ : ∀ t, PW t → Q 178 [(0, .inr (.inl 66)), (1, .inl a0), (2, .inl a1), (3, .inl a2), (4, .inl x4)] t) : sx_wp true sL sx eX12_writeFresh CALL [(19, [0, 1, 2, 3, 4]), (54, [0, 1, 2, 3, 4, 5]), (72, [0, 1, 2, 3, 4, 5, 6, 7]), (149, [0, 1, 2, 3, 4]), (165, [0, 1, 2, 3, 4]), (178, [0, 1, 2, 3, 4]), (181, [0, 1, 2, 3, 4, 5]), (199, [0, 1, 2, 3, 4, 5])] Q R 400 165 [(0, .inr (.inl 66)), (1, .inl a0), (2, .inl a1), (3, .inl a2), (4, .inl x4)] [] s := by
  repeat' (first | (with_reducible intro _) | (refine And.intro ?_ ?_) | (refine hQ _ (by assumption)) | (refine hP _ ?_ _ ?_))
  all_goals (try dsimp only)
  all_goals (first | trivial | assumption | omega | (dsimp only at *; omega) | (simp only [sx_w_t] at *; omega) | (subst_vars; omega) | (subst_vars; assumption) | (subst_vars; dsimp only at *; omega) | (subst_vars; dsimp only at *; simp only [sx_w_t] at *; omega) | skip)
theorem w_e_wvar {CALL : sx_Ca} {sL : Nat} {sx : Nat → Int32} {Q : Nat → sx_L → sx_S → Prop} {R : Int → sx_S → Prop} {s : sx_S} {a0 a1 : Int} {PW : sx_S → Prop} (hI : cx_I s) (p0 : 0 ≤ a0 ∧ a0 ≤ 399999) (hP : s.2.1 106 a0.toNat < 2 → ∀ u : Int, u = s.2.1 107 a0.toNat → ∀ K : Int → sx_S → Prop, (∀ z t, PW t → K z t) → CALL 204 [.inr (.inl 66), .inl 120, .inl u] s K) (hK : s.2.1 106 a0.toNat < 2 → ∀ t, PW t → R 0 t) (hQ : 2 ≤ s.2.1 106 a0.toNat → Q 25 [(0, .inr (.inl 66)), (1, .inl a0), (2, .inl a1)] s) : sx_wp true sL sx eX12_writeVar CALL [(25, [0, 1, 2]), (31, [0, 1, 2]), (66, [0])] Q R 400 0 (sx_argsF 0 [.inr (.inl 66), .inl a0, .inl a1]) [] s := by
  repeat' (first | (with_reducible intro _) | (refine And.intro ?_ ?_) | (refine hK ?_ _ (by assumption)) | (refine hQ ?_) | (refine hP ?_ _ ?_ _ ?_))
  all_goals (try dsimp only)
  all_goals (first | trivial | assumption | omega | (dsimp only at *; omega) | (simp only [sx_w_t] at *; omega) | (subst_vars; omega) | (subst_vars; assumption) | (subst_vars; dsimp only at *; omega) | (subst_vars; dsimp only at *; simp only [sx_w_t] at *; omega) | skip)
end
section
/-! ===== the reference: values as they are written ===== -/
section
variable {Ω : Type}
theorem we_D_eq {s t : sx_S} {dp : Int} (h58 : t.1 66 58 = s.1 66 58) (h1 : 1 ≤ s.1 66 58) (hd : ∀ j : Nat, (j : Int) < s.1 66 58 → t.2.1 107 j = s.2.1 107 j) : we_D t dp = we_D s dp := by
  funext v
  unfold we_D
  rw [h58]
  by_cases c : v < s.1 66 58
  · rw [if_pos c, if_pos c, hd v.toNat (by omega)]
  · rw [if_neg c, if_neg c]
theorem we_V_eq {E : we_E Ω} {s t : sx_S} {A : rf_N} {y : rf_Y} {dp : Int} (h58 : t.1 66 58 = s.1 66 58) (h1 : 1 ≤ s.1 66 58) (hd : ∀ j : Nat, (j : Int) < s.1 66 58 → t.2.1 107 j = s.2.1 107 j) : we_V E t A y dp = we_V E s A y dp ∧ we_X E t A y dp = we_X E s A y dp := by
  unfold we_V we_X
  rw [we_D_eq h58 h1 hd, h58]
  exact ⟨rfl, rfl⟩
theorem we_V_rig {E : we_E Ω} {s : sx_S} {j : Nat} {q : Int × Int} {u : Unit} {f x : rf_N} {y : rf_Y} {dp : Int} (h : q.1 = 1 ∨ q.1 = 2) : we_V E s (.inner j q u f x) y dp = rf_n 0 q.1 (if q.1 = 2 then we_D s dp (rf_look y q.2) else q.2) (we_X E s f y dp) .leaf := by
  unfold we_V we_X
  rw [vr_V_rig h, vx_re_in]
  dsimp only
  have e : (if q.1 = 2 then we_D s dp (if q.1 = 2 then rf_look y q.2 else q.2) else (if q.1 = 2 then rf_look y q.2 else q.2)) = (if q.1 = 2 then we_D s dp (rf_look y q.2) else q.2) := by
    by_cases h2 : q.1 = 2
    · rw [if_pos h2, if_pos h2, if_pos h2]
    · rw [if_neg h2, if_neg h2, if_neg h2]
  rw [e]
  rfl
theorem we_X_c {E : we_E Ω} (hg : ∀ m, vx_on (we_th E m)) {s : sx_S} {j : Nat} {q : Int × Int} {u : Unit} {f x : rf_N} {y : rf_Y} {dp : Int} : we_X E s (.inner j q u f x) y dp = vx_sb (we_V E s (.inner j q u f x) y dp) (we_X E s x y dp) := by
  unfold we_X we_V
  rw [vr_X_c hg, vx_re_sb]
theorem we_V_lam {E : we_E Ω} {s t : sx_S} {j : Nat} {q : Int × Int} {u : Unit} {f x : rf_N} {y : rf_Y} {dp v : Int} (h : q.1 = 0) (h1 : 1 ≤ s.1 66 58) (hv : v = s.1 66 58) (h58 : t.1 66 58 = s.1 66 58 + 1) (hd : ∀ j : Nat, (j : Int) < s.1 66 58 + 1 → t.2.1 107 j = if j = v.toNat then dp else s.2.1 107 j) : we_V E s (.inner j q u f x) y dp = rf_n 0 0 0 (we_V E t f (rf_one q.2 v y) (dp + 1)) .leaf := by
  have eD : we_D t (dp + 1) = we_D s dp := by
    funext z
    unfold we_D
    rw [h58]
    by_cases c : z < s.1 66 58
    · rw [if_pos (by omega), if_pos c, hd z.toNat (by omega), if_neg (by omega)]
    · rw [if_neg c]
      by_cases c2 : z = s.1 66 58
      · rw [if_pos (by omega), hd z.toNat (by omega), if_pos (by omega)]
        omega
      · rw [if_neg (by omega)]
        omega
  unfold we_V
  rw [vr_V_lam h, eD, h58, hv]
  rfl
theorem we_t_3 {s : sx_S} {AR : Nat → List Int} {j : Nat} {q : Int × Int} {u : Unit} {f x : rf_N} (h : vr_t s AR (.inner j q u f x)) (k : q.1 = 3) : vr_p s AR j q.2 := by
  obtain ⟨_, ⟨c, _⟩ | ⟨_, c⟩ | ⟨c, _⟩⟩ := h
  · omega
  · exact c
  · omega
theorem we_t_0 {s : sx_S} {AR : Nat → List Int} {j : Nat} {q : Int × Int} {u : Unit} {f x : rf_N} (h : vr_t s AR (.inner j q u f x)) (k : q.1 = 0) : vr_t s AR f := by
  obtain ⟨_, ⟨_, c⟩ | ⟨c, _⟩ | ⟨c, _⟩⟩ := h
  · exact c
  · omega
  · omega
theorem we_t_2 {s : sx_S} {AR : Nat → List Int} {j : Nat} {q : Int × Int} {u : Unit} {f x : rf_N} (h : vr_t s AR (.inner j q u f x)) (k : q.1 = 1 ∨ q.1 = 2) : vr_r s AR f := by
  obtain ⟨_, ⟨c, _⟩ | ⟨c, _⟩ | ⟨_, c⟩⟩ := h
  · omega
  · omega
  · exact c
theorem we_r_c {s : sx_S} {AR : Nat → List Int} {j : Nat} {q : Int × Int} {u : Unit} {f x : rf_N} (h : vr_r s AR (.inner j q u f x)) : vr_t s AR (.inner j q u f x) ∧ vr_r s AR x := h
/-- into a solved unknown -/
theorem we_V_en {E : we_E Ω} {nb ib : Int} {s t : sx_S} {g : rf_Gh} (hI : cx_I s) (hM : rf_MI nb ib s g) (hG : we_G E s g) {j : Nat} {kk : Int × Int} {u : Unit} {f n : rf_N} {y : rf_Y} {i dp : Int} (k3 : kk.1 = 3) (hp : vr_p s (we_AR E) j kk.2) (hs : s.2.1 111 kk.2.toNat ≠ 0) (hi : i.toNat = j) (h58 : t.1 66 58 = s.1 66 58) (hd : ∀ j : Nat, (j : Int) < s.1 66 58 → t.2.1 107 j = s.2.1 107 j) : we_V E t (g.1 kk.2) (rf_bh (g.2.1 kk.2) (rf_row (rf_fm s kk.2) (rf_vo s y i) (rf_aa s kk.2).toNat)) dp = we_V E s (.inner j kk u f n) y dp := by
  obtain ⟨⟨_, h2⟩, _, _, _, _, h7, _⟩ := hG trivial
  rw [(we_V_eq (E := E) h58 h7 hd).1]
  unfold we_V
  rw [vr_V_en hI hM h2 k3 hp hs hi]
/-- the call of an open unknown -/
theorem we_V_op {E : we_E Ω} {s : sx_S} {g : rf_Gh} (hG : we_G E s g) {j : Nat} {kk : Int × Int} {u : Unit} {f n : rf_N} {y : rf_Y} {dp : Int} (k3 : kk.1 = 3) (hp : vr_p s (we_AR E) j kk.2) (hr : 0 ≤ kk.2 ∧ kk.2 < s.1 66 61) (ho : s.2.1 111 kk.2.toNat = 0) (h0 : 0 ≤ rf_aa s kk.2) : ∃ Fv, we_V E s (.inner j kk u f n) y dp = rf_n 0 1 (-1 - kk.2) Fv .leaf ∧ dz_hs Fv = (List.range (rf_aa s kk.2).toNat).map (fun q => we_D s dp (rf_look y (rf_rv1 s j q))) := by
  obtain ⟨⟨_, h2⟩, h3, _⟩ := hG trivial
  refine ⟨vx_re (fun v => we_D s dp (vx_ix ((we_AR E j).map (rf_look y)) (s.1 66 58) v)) (vx_vs (rf_aa s kk.2).toNat 0), ?_, ?_⟩
  · unfold we_V
    rw [vr_V_call (fun m => (h2.1 m).1) k3, vx_re_re, h3 kk.2 hr.1 hr.2 ho]
    unfold vx_gn
    rw [vr_ar_at hr, vx_re_in]
    dsimp only
    rw [if_neg (by decide)]
    rfl
  · obtain ⟨a, b, c⟩ := wz_vs (rf_aa s kk.2).toNat 0
    rw [wz_hs_re _ a]
    refine List.ext_getElem? (fun i => ?_)
    rw [List.getElem?_map, List.getElem?_map]
    by_cases hi : i < (rf_aa s kk.2).toNat
    · rw [c i hi, List.getElem?_range hi]
      have hl : (we_AR E j).length = (rf_aa s kk.2).toNat := by
        rw [hp.2]
        exact vr_gl
      have hg : (we_AR E j)[i]? = some (rf_rv1 s j i) := by
        rw [hp.2]
        exact vr_gr.mpr ⟨hi, rfl⟩
      have e1 : vx_ix ((we_AR E j).map (rf_look y)) (s.1 66 58) (0 + (i : Int)) = rf_look y (rf_rv1 s j i) := by
        unfold vx_ix
        rw [List.length_map, hl, if_pos (by omega), show (0 + (i : Int)).toNat = i by omega]
        exact vx_getD (by rw [List.getElem?_map, hg]; rfl)
      show some (we_D s dp (vx_ix ((we_AR E j).map (rf_look y)) (s.1 66 58) (0 + (i : Int)))) = some (we_D s dp (rf_look y (rf_rv1 s j i)))
      rw [e1]
    · rw [List.getElem?_eq_none (by omega), List.getElem?_eq_none (by rw [List.length_range]; omega)]
      rfl
/-! brackets -/
def we_bk (v : rf_N) : Prop := (wz_q v).1 = 0 ∨ rf_len (wz_F v) ≠ 0
theorem we_len_re {ρ : Int → Int} : ∀ A : rf_N, rf_len (vx_re ρ A) = rf_len A
  | .leaf => rfl
  | .inner j q u F X => by
    show rf_len (vx_re ρ X) + 1 = rf_len X + 1
    rw [we_len_re X]
theorem we_bk_re {ρ : Int → Int} : ∀ {v : rf_N}, we_bk (vx_re ρ v) ↔ we_bk v
  | .leaf => Iff.rfl
  | .inner j q u F X => by
    show q.1 = 0 ∨ rf_len (vx_re ρ F) ≠ 0 ↔ q.1 = 0 ∨ rf_len F ≠ 0
    rw [we_len_re F]
theorem we_len_sb {a X : rf_N} (h : vx_on a) : rf_len (vx_sb a X) = rf_len X + 1 := by
  obtain ⟨k, h, F, rfl⟩ := h
  rfl
theorem we_len_val {th : Int → rf_N} {AR : Nat → List Int} (hg : ∀ m, vx_on (th m)) {e : Int → Int} {L : Int} : ∀ A : rf_N, rf_len (vx_val th AR A e L) = rf_len A
  | .leaf => rfl
  | .inner j q u F X => by
    rw [vx_val_1 hg, we_len_sb (vx_val_one hg j q u F e L), we_len_val hg X]
    rfl
theorem we_bk_val {th : Int → rf_N} {AR : Nat → List Int} (hg : ∀ m, vx_on (th m)) {j : Nat} {q : Int × Int} {u : Unit} {F : rf_N} {e : Int → Int} {L : Int} : we_bk (vx_val th AR (.inner j q u F .leaf) e L) ↔ (q.1 = 0 ∨ (q.1 = 3 ∧ we_bk (th q.2)) ∨ (q.1 ≠ 3 ∧ rf_len F ≠ 0)) := by
  rw [vx_val_in]
  by_cases h0 : q.1 = 0
  · rw [if_pos h0]
    exact ⟨fun _ => Or.inl h0, fun _ => Or.inl rfl⟩
  · rw [if_neg h0]
    by_cases h3 : q.1 = 3
    · rw [if_pos h3]
      have e1 : vx_val th AR .leaf e L = .leaf := rfl
      rw [e1, vx_sb_leaf (vx_re_on (hg _)), we_bk_re]
      exact ⟨fun h => Or.inr (Or.inl ⟨h3, h⟩), fun h => h.elim (fun c => absurd c h0) (fun h => h.elim (fun h => h.2) (fun h => absurd h3 h.1))⟩
    · rw [if_neg h3]
      show q.1 = 0 ∨ rf_len (vx_val th AR F e L) ≠ 0 ↔ _
      rw [we_len_val hg F]
      exact ⟨fun h => h.elim Or.inl (fun h => Or.inr (Or.inr ⟨h3, h⟩)), fun h => h.elim Or.inl (fun h => h.elim (fun h => absurd h.1 h3) (fun h => Or.inr h.2))⟩
/-- a bracket for the tree T: just if B -/
def we_bt (E : we_E Ω) (B : Prop) (T : rf_N) : Prop := ∀ (e : Int → Int) (L : Int), we_bk (vx_val (we_th E) (we_AR E) (vr_1 T) e L) ↔ B
theorem we_bt_V {E : we_E Ω} {s : sx_S} {j : Nat} {q : Int × Int} {u : Unit} {f x : rf_N} {y : rf_Y} {dp : Int} (hg : ∀ m, vx_on (we_th E m)) : we_bt E (we_bk (we_V E s (.inner j q u f x) y dp)) (.inner j q u f x) := fun e L => by
  unfold we_V vr_V
  rw [we_bk_re, vr_1_in, we_bk_val hg, we_bk_val hg]
theorem c_e_hasParts {sL : Nat} {sx : Nat → Int32} (hsL : sL ≤ 3072) (d : Nat) (hd : 2 ≤ d) {E : we_E Ω} : ∀ (B : Prop) (N : Int → rf_T → Prop) (A : rf_N) (y : rf_Y) (x : rf_T) (W : List Nat) (p : Nat) (i b nb ib : Int) (s : sx_S) (g : rf_Gh) (K : Int → sx_S → Prop), cx_I s → rf_MI nb ib s g → rf_ph s g ≤ 1150 → rf_CL s g N A y x W p i b → we_G E s g → vr_t s (we_AR E) A → we_bt E B A → (∀ z : Int, (0 ≤ z ∧ z ≤ 1) → (z ≠ 0 ↔ B) → K z s) → sx_C sL sx d 210 [.inr (.inl 66), .inl i, .inl b] s K := by
  intro B N A y x W p i b nb ib s g K hI hM hph k hG ht hB hK
  obtain ⟨d, rfl⟩ : ∃ e, d = e + 2 := ⟨d - 2, by omega⟩
  have r50 := hI.fld 66 50 (by decide) rfl
  have r61 := hI.fld 66 61 (by decide) rfl
  obtain ⟨⟨G1, G2⟩, G3, _⟩ := hG trivial
  have hg : ∀ m, vx_on (we_th E m) := fun m => (G2.1 m).1
  refine sx_methL (wr := true) (n := 400) (n' := 400) (stop := [(2, [0, 3])]) (fun ms pc ls u => (pc = 2 ∧ ∃ (x3 : Int) (T : rf_N) (t : rf_T) (N : Int → rf_T → Prop) (c : Int) (W : List Nat) (p : Nat), ls = [(0, .inr (.inl 66)), (3, .inl x3)] ∧ s = u ∧ rf_no s T x3 ∧ (rf_gt (rf_Hn c s N) rf_P T).1 t ∧ rf_wy s g W (rf_oc T).1 (rf_wh T).1 p ∧ (vr_t s (we_AR E) T ∧ we_bt E B T) ∧ ms = p)) hsL (e := eX12_hasParts) rfl ?_ ?_
  · exact w_hasParts ⟨_, rfl, i, A, x, N, _, W, p, rfl, rfl, k.1.1, k.1.2.1, k.2.2.2, ⟨ht, hB⟩, rfl⟩
  · rintro ms pc ls u ⟨rfl, x3, T, t, N, c, W, p, rfl, rfl, h1, h2, h3, ⟨tT, bT⟩, rfl⟩
    cases T with
    | leaf => exact h2.elim
    | inner j kk uu f n =>
      obtain ⟨⟨m0, m1⟩, ⟨m2, m3⟩, m4, m5⟩ := h1
      have ej : x3.toNat = j := by omega
      have hr : kk.1 = 3 → 0 ≤ kk.2 ∧ kk.2 < s.1 66 61 := fun q => by
        rcases h2 with ⟨e, _⟩ | ⟨_, w, q1, _⟩
        · omega
        · exact (rf_Hn_3 q1 q).2.1
      have bb := fun e L => (by
        have := bT e L
        rw [vr_1_in, we_bk_val hg] at this
        exact this : (kk.1 = 0 ∨ (kk.1 = 3 ∧ we_bk (we_th E kk.2)) ∨ (kk.1 ≠ 3 ∧ rf_len (vr_f kk.1 f) ≠ 0)) ↔ B)
      have bb0 := bb (fun _ => 0) 0
      refine w_e_hasParts_2 hI (by omega) (fun q => by rw [ej, m2] at q; have := hr q; rw [ej, m3]; omega) (fun q hs u hu => ?_) (fun z hz z1 z2 z3 z4 z5 => hK z hz ?_)
      · rw [ej, m2] at q
        rw [ej, m3] at hs hu
        have hrr := hr q
        have hSV := (hM.1 kk.2 hrr.1 hrr.2).2.2.2 hs
        have hpp := rf_wy_pos h3 hph
        have hw5 : (rf_wh (.inner j kk uu f n)).1 = 5 := if_pos q
        have hin := rf_wy_in h3 hM hph (x := kk.2) (Or.inl ⟨q, rfl⟩) (by omega) hrr.1 hrr.2 hs
        refine ⟨_, by omega, rfl, u, g.1 kk.2, .leaf, _, _, _, ms - 5, rfl, rfl, by rw [hu]; exact hSV.1.1, hSV.1.2.1, hin, ⟨G1 kk.2 hrr.1 hrr.2 hs, fun e L => ?_⟩, rfl⟩
        have hth := G2.2.2 kk.2 _ _ (vr_bo_at hrr hs)
        have h5 : we_bk (we_th E kk.2) ↔ B := by
          rw [← bb0]
          exact ⟨fun h => Or.inr (Or.inl ⟨q, h⟩), fun h => h.elim (fun c => by omega) (fun h => h.elim (fun h => h.2) (fun h => absurd q h.1))⟩
        rw [← h5]
        cases hgk : g.1 kk.2 with
        | leaf => exact absurd hgk (vr_t_ne (G1 kk.2 hrr.1 hrr.2 hs))
        | inner j2 q2 u2 f2 x2 =>
          have hth' : we_th E kk.2 = vx_val (we_th E) (we_AR E) (vr_1 (.inner j2 q2 u2 f2 x2)) (vr_e s g kk.2) (vr_ar s kk.2) := by
            rw [← hgk]
            exact hth
          rw [hth', vr_1_in, we_bk_val hg, we_bk_val hg]
      · rw [← bb0]
        rw [ej, m2] at z1 z2 z3 z4 z5
        rw [m3] at z1 z2 z3
        by_cases k3 : kk.1 = 3
        · have hrr := hr k3
          have ho := z1 k3
          have e1 := G3 kk.2 hrr.1 hrr.2 ho
          have e2 : we_bk (we_th E kk.2) ↔ 0 < s.2.1 108 kk.2.toNat := by
            rw [e1]
            show (1 : Int) = 0 ∨ rf_len (vx_vs (vr_ar s kk.2).toNat 0) ≠ 0 ↔ _
            have e3 := (wz_vs (vr_ar s kk.2).toNat 0).2.1
            rw [dz_hs_len] at e3
            rw [e3, vr_ar_at hrr]
            unfold rf_aa
            constructor
            · rintro (h | h)
              · exact absurd h (by decide)
              · omega
            · intro h
              exact Or.inr (by omega)
          constructor
          · intro hz0
            refine Or.inr (Or.inl ⟨k3, e2.mpr ?_⟩)
            apply Classical.byContradiction
            intro hc
            exact hz0 (z3 k3 (by omega))
          · rintro (h | ⟨_, h⟩ | ⟨h, _⟩)
            · omega
            · have := z2 k3 (e2.mp h)
              omega
            · exact absurd k3 h
        · have hfl : s.2.1 102 j ≠ -1 ↔ f ≠ .leaf := by
            cases f with
            | leaf =>
              have : s.2.1 102 j = -1 := m4
              exact ⟨fun h => absurd this h, fun h => absurd rfl h⟩
            | inner j1 k1 u1 f1 n1 =>
              have : s.2.1 102 j = (j1 : Int) := m4.1.1
              exact ⟨fun _ h => (by cases h), fun _ h => (by omega)⟩
          constructor
          · intro hz0
            have hf : f ≠ .leaf := hfl.mp (fun h => hz0 (z5 k3 h))
            by_cases k0 : kk.1 = 0
            · exact Or.inl k0
            · refine Or.inr (Or.inr ⟨k3, ?_⟩)
              unfold vr_f
              rw [if_neg k0, if_neg k3]
              cases f with
              | leaf => exact absurd rfl hf
              | inner j1 k1 u1 f1 n1 =>
                rw [vr_c_in]
                show rf_len (vr_c n1) + 1 ≠ 0
                omega
          · intro h
            have hf : f ≠ .leaf := by
              rcases h with h | ⟨h, _⟩ | ⟨_, h⟩
              · rcases h2 with ⟨_, A1, B1, _, _, hg1⟩ | ⟨c1, _⟩
                · intro hc
                  rw [hc] at hg1
                  exact hg1
                · exact absurd h c1
              · exact absurd h k3
              · intro hc
                apply h
                unfold vr_f
                rw [if_neg k3, hc]
                by_cases k0 : kk.1 = 0
                · rw [if_pos k0]
                  rfl
                · rw [if_neg k0]
                  rfl
            have := z4 k3 (hfl.mpr hf)
            omega
end
end
section
/-! ===== the reference: write, its contract; writeVar ===== -/
section
variable {Ω : Type}
def we_T (E : we_E Ω) (sL : Nat) (sx : Nat → Int32) (aM : Bool) (H d : Nat) : Prop := ∀ (Z : we_A Ω) (P : Int → Prop) (N : Int → rf_T → Prop) (A : rf_N) (y : rf_Y) (x : rf_T) (W : List Nat) (p q : Nat) (i b dp nb ib : Int) (s : sx_S) (g : rf_Gh) (K : Int → sx_S → Prop), rf_WW aM nb ib s g → rf_CL s g N A y x W p i b → rf_okw aM A p q → q ≤ H → rf_DI s y (rf_fo (rf_Wd s g.2.2) A).1 dp → (0 ≤ dp ∧ dp + (q : Int) ≤ 100000) → s.1 66 71 + (q : Int) ≤ 399900 → s.1 66 58 + (q : Int) ≤ 399900 → we_G E s g → vr_t s (we_AR E) A → we_J E Z P s (we_V E s A y dp) (vr_1 A) ((we_W E (we_V E s A y dp)).1 dp) → (∀ z t, cx_I t → rf_WF s t → rf_OD t → t.1 66 71 ≤ s.1 66 71 + (q : Int) → t.1 66 58 ≤ s.1 66 58 + (q : Int) → we_Z E Z P t → K z t) → sx_C sL sx d 209 [.inr (.inl 66), .inl i, .inl b, .inl dp] s K
/-- trees without unknowns -/
theorem we_g_no {s : sx_S} {n : Int} {p : Nat → Int → Prop} {H : Nat → Int → Int → rf_T → Prop} {Q : Nat → rf_T → Prop} (hn : s.1 66 50 ≤ n) (hH : ∀ j k r u, H j k r u → k = 0 ∨ k = 1 ∨ k = 2 ∨ k = 3) : ∀ {N : rf_N} {z : Int}, rf_no s N z → ((∀ m, ¬ (rf_oc N).1 m) → ∀ t, (rf_gt H Q N).1 t → (vr_g n p N).1) ∧ ((∀ m, ¬ (rf_oc N).2 m) → ∀ w t, (rf_gt H Q N).2 w t → (vr_g n p N).2)
  | .leaf, _, _ => ⟨fun _ _ h => h.elim, fun _ _ _ _ => trivial⟩
  | .inner j k u f x, z, h => by
    obtain ⟨⟨_, a2⟩, _, a5, a6⟩ := h
    have hf := we_g_no (p := p) (Q := Q) hn hH (N := f) a5
    have hx := we_g_no (p := p) (Q := Q) hn hH (N := x) a6
    have h1 : (∀ m, ¬ (rf_oc (.inner j k u f x)).1 m) → ∀ t, (rf_gt H Q (.inner j k u f x)).1 t → (vr_g n p (.inner j k u f x)).1 := by
      rintro hm t (⟨e, A, B, _, _, q3⟩ | ⟨e, w, q1, q2, _⟩)
      · exact ⟨by omega, Or.inl ⟨e, hf.1 (fun z hz => hm z (Or.inr (Or.inl ⟨e, hz⟩))) B q3⟩⟩
      · have e3 : k.1 ≠ 3 := fun c => hm k.2 (Or.inl ⟨c, rfl⟩)
        have e4 := hH _ _ _ _ q1
        have e5 : k.1 = 1 ∨ k.1 = 2 := by omega
        exact ⟨by omega, Or.inr (Or.inr ⟨e5, hf.2 (fun z hz => hm z (Or.inr (Or.inr ⟨e5, hz⟩))) w t q2⟩)⟩
    refine ⟨h1, ?_⟩
    rintro hm w t ⟨A, B, _, q2, q3⟩
    exact ⟨h1 (fun z hz => hm z (Or.inl hz)) A q2, hx.2 (fun z hz => hm z (Or.inr hz)) B t q3⟩
theorem c_e_writeVar {E : we_E Ω} (hL : we_L E) {sL : Nat} {sx : Nat → Int32} (hKE : we_K E sL sx) (hsL : sL ≤ 3072) (d : Nat) (hd : 30 ≤ d) (w0 : we_T E sL sx false 9 (d - 1)) : ∀ (Z : we_A Ω) (P : Int → Prop) (v0 T0 : rf_N) (kc : we_A Ω → we_A Ω) (v dp nb ib : Int) (T : rf_T) (s : sx_S) (g : rf_Gh) (K : Int → sx_S → Prop), rf_WW true nb ib s g → rf_vb (s.1 66 58) s v T → rf_at T ≤ 5 → (0 ≤ s.2.1 107 v.toNat ∧ s.2.1 107 v.toNat < dp) → (0 ≤ dp ∧ dp ≤ 99900) → s.1 66 71 ≤ 399850 → s.1 66 58 ≤ 399850 → we_G E s g → we_J E Z P s v0 T0 (fun w => kc (we_gv E.1.1 (vq_cv T (s.2.1 107 v.toNat) dp) (we_W0 E (vq_cv T (s.2.1 107 v.toNat) dp)).1 dp w)) → (∀ z t, cx_I t → rf_WF s t → rf_OD t → t.1 66 71 ≤ s.1 66 71 + 9 → t.1 66 58 = s.1 66 58 → we_J E Z P t v0 T0 kc → K z t) → sx_C sL sx d 212 [.inr (.inl 66), .inl v, .inl dp] s K := by
  intro Z P v0 T0 kc v dp nb ib T s g K hW hv hT hdv hdp h71 h58 hG hJ hK
  obtain ⟨kP, kN, kM, kA⟩ := hKE trivial
  have h1s := (hG trivial).2.2.2.2.2.1
  obtain ⟨d, rfl⟩ : ∃ e, d = e + 2 := ⟨d - 2, by omega⟩
  have hI := hW.1.1
  have hv0 := hv.1
  have hO := hW.2.2.2.2.2
  have r107 := hI.arr 107 (by decide) rfl v.toNat
  refine sx_methL (wr := true) (n := 400) (n' := 400) (stop := [(25, [0, 1, 2]), (31, [0, 1, 2]), (66, [0])]) (fun ms pc ls u => (pc = 25 ∧ ls = [(0, .inr (.inl 66)), (1, .inl v), (2, .inl dp)] ∧ s = u ∧ 2 ≤ s.2.1 106 v.toNat ∧ ms = 2) ∨ (pc = 31 ∧ ls = [(0, .inr (.inl 66)), (1, .inl v), (2, .inl dp)] ∧ (cx_I u ∧ rf_WF s u ∧ rf_OD u ∧ u.1 66 71 = s.1 66 71 ∧ u.1 66 58 = s.1 66 58 ∧ u.2.1 107 = s.2.1 107) ∧ we_J E Z P u v0 T0 (fun w => kc (we_b E [41] ((we_W0 E (vq_cv T (s.2.1 107 v.toNat) dp)).1 dp w))) ∧ ms = 1) ∨ (pc = 66 ∧ ls = [(0, .inr (.inl 66))] ∧ (cx_I u ∧ rf_WF s u ∧ rf_OD u ∧ u.1 66 71 ≤ s.1 66 71 + 9 ∧ u.1 66 58 = s.1 66 58) ∧ we_J E Z P u v0 T0 (fun w => kc (we_b E [41] w)) ∧ ms = 0)) hsL (e := eX12_writeVar) rfl ?_ ?_
  · refine w_e_wvar (PW := fun t => we_PT E s t (120 :: E.1.2.1 (s.2.1 107 v.toNat))) hI (by omega) (fun q u hu K' hK' => by rw [hu]; exact kN (d + 1) (by omega) 120 _ s K' hI (by omega) (by omega) hK') ?_ (fun q => ⟨_, Or.inl ⟨rfl, rfl, rfl, q, rfl⟩⟩)
    intro q t hpt
    obtain ⟨c1, c2, c3, _⟩ := id hpt
    obtain ⟨e1, e2, e3, e4, e5⟩ := rf_WF_put c2 c3
    refine hK 0 t c1 e1 (e2 hO) (by omega) e4 (we_J_put hL hpt (fun w => ?_) hJ)
    have eT : T = .leaf := by
      have h2 := hv.2
      cases T with
      | leaf => rfl
      | inner n1 u1 v1 A1 B1 =>
        have := h2.1
        omega
    subst eT
    show kc (we_gv E.1.1 (rf_n 0 2 (s.2.1 107 v.toNat) .leaf .leaf) _ dp w) = _
    unfold we_gv we_g
    rw [if_neg (by
      rintro (c | c)
      · exact absurd c wz_n20
      · exact c rfl)]
    exact congrArg kc (we_var 0 (s.2.1 107 v.toNat) .leaf .leaf dp w)
  · rintro ms pc ls u (⟨rfl, rfl, rfl, q, rfl⟩ | ⟨rfl, rfl, ⟨u1, u2, u3, u4, u5, u6⟩, hJu, rfl⟩ | ⟨rfl, rfl, ⟨u1, u2, u3, u4, u5⟩, hJu, rfl⟩)
    · refine w_wvar_25 (PW := fun t => we_PT E s t [40]) (fun K' hK' => kP (d + 1) (by omega) 40 s K' hI (by omega) hK') ?_
      intro t hpt
      obtain ⟨c1, c2, c3, _⟩ := id hpt
      obtain ⟨e1, e2, e3, e4, e5⟩ := rf_WF_put c2 c3
      refine ⟨_, by omega, Or.inr (Or.inl ⟨rfl, rfl, ⟨c1, e1, e2 hO, e3, e4, e5⟩, we_J_put hL hpt (fun w => ?_) hJ, rfl⟩)⟩
      have eT : ∃ A1 B1, T = rf_a A1 B1 := by
        have h2 := hv.2
        cases T with
        | leaf =>
          have h2' : 0 ≤ s.2.1 106 v.toNat ∧ s.2.1 106 v.toNat < 2 := h2
          omega
        | inner n1 u1 v1 A1 B1 =>
          have hn := h2.1.1
          subst hn
          exact ⟨A1, B1, rfl⟩
      obtain ⟨A1, B1, eT⟩ := eT
      subst eT
      show kc (we_gv E.1.1 (rf_n 0 0 0 _ .leaf) _ dp w) = _
      unfold we_gv we_g
      split
      · rfl
      · rename_i hno
        exact absurd (Or.inl rfl) hno
    · have hWu := rf_WW_up hW u1 u2 u3
      obtain ⟨⟨_, hMu, hnb, hib, hph⟩, h70, h61, h9, ⟨h50, h56⟩, _⟩ := hWu
      have h50' : u.1 66 50 ≤ 59950 := h50
      obtain ⟨hEu, hNu⟩ := rf_WF_EX u2
      have hvu : rf_vt u v T := by
        have := (hEu.vb (Int.le_refl _) v T).mpr hv
        rw [← u5] at this
        exact this
      refine w_wvar_31 (PL := fun z t => cx_I t ∧ cx_F [(66, 66), (100, 103), (105, 106)] u t ∧ rf_f [50, 56, 58] u t ∧ rf_xu u t ∧ rf_ag 100 103 (u.1 66 50) u t ∧ (t.1 66 50 + 1 ≤ u.1 66 50 + 2 * (rf_at T : Int) ∧ t.1 66 58 + 1 ≤ u.1 66 58 + (rf_at T : Int) ∧ t.1 66 56 = u.1 66 56) ∧ rf_made (u.1 66 50) T t z (fun n => (rf_wh n).1 + 1 ≤ 2 * rf_at T ∧ (∀ m, ¬ (rf_oc n).1 m) ∧ rf_lf n v ∧ (rf_sc rf_G0 n).1 [v] ∧ vq_n T v n)) (PW := fun t2 => ∃ t Z1 P1, (we_Z E Z1 P1 t2 ∧ (t.1 66 89 = u.1 66 89 ∧ t.1 66 61 = u.1 66 61) ∧ ∀ w : we_A Ω, w = Z1 → we_N t2 w.1 → we_Sp E t2 w.2 → kc (we_b E [41] w) = Z ∧ we_M E t2 w Z v0 T0 P P1) ∧ (cx_F [(66, 66), (100, 103), (105, 106)] u t ∧ rf_f [50, 56, 58] u t ∧ rf_xu u t ∧ rf_ag 100 103 (u.1 66 50) u t ∧ t.1 66 56 = u.1 66 56) ∧ cx_I t2 ∧ rf_WF t t2 ∧ rf_OD t2 ∧ t2.1 66 71 ≤ t.1 66 71 + 9) u1 ?_ ?_ ?_
      · intro K' hK'
        exact (c_v_clv hsL 5 d (by omega)).2 T v u K' hT u1 hvu hT h9 (by omega) (by omega) (by omega) (fun z t c1 c2 c3 c4 c5 c6 c7 => hK' z t ⟨c1, c2, c3, c4, c5, c6, c7⟩)
      · rintro z t ⟨c1, c2, c3, c4, c5, ⟨c6, c7, c8⟩, n, n1, n2, n3, n4, n5, n6, n7, n8, n9, n10⟩ K' hK'
        obtain ⟨hE, hN⟩ := rf_lv_EX c2 c3 c4 c5
        have e61 := c3 61 rfl
        have e70 := c3 70 rfl
        have e71 := c3 71 rfl
        have x3 := (c4.2 0).1
        obtain ⟨kC, kD⟩ := rf_lv_CL (v := v) (dp := dp) hMu h70.1 c2 c3 hE n1 n5 (by omega) n7 n9 (by rw [u6]; exact hdv)
        have hOt : rf_OD t := rf_OD_same u3 e61 (c3 83 rfl) (c3 79 rfl) (fun p hp => by
          rcases hp with rfl | rfl | rfl | rfl <;> exact (c2.same _ rfl).2)
        have hWt : rf_WW false nb ib t g := ⟨⟨c1, rf_NC_MI (rf_EX_le hE hnb hib) hN (Int.le_refl _) (Int.le_refl _) hMu, by omega, by omega, by rw [rf_NC_ph hE hN]; exact hph⟩, by omega, by omega, by rw [c3 9 rfl]; exact h9, ⟨by show t.1 66 50 ≤ 59990; omega, by omega⟩, hOt⟩
        have hGu := we_G_WF hL hW u2 hG
        have hGt : we_G E t g := we_G_up hL u1 hMu (rf_EX_le hE hnb hib) hN (by omega) (fun p h1 h2 => ((c2 p).1 (fun q hq => by
          simp only [List.mem_cons, List.not_mem_nil, or_false] at hq
          rcases hq with rfl | rfl | rfl <;> (dsimp only; omega))).2) (c3 3 rfl) hGu
        have tn : vr_t t (we_AR E) n := (we_g_no (Int.le_refl _) (fun j k r u h => by
          rcases h with ⟨h, _⟩ | ⟨h, _⟩ | ⟨h, _⟩ | ⟨h, _⟩ <;> omega) n1).1 n7 T n5
        have hgt := (hGt trivial).1.2.1
        have hon : ∀ m, vx_on (we_th E m) := fun m => (hgt m).1
        have eD : we_D t dp v = s.2.1 107 v.toNat := by
          unfold we_D
          rw [if_pos (by omega), (c2.same 107 rfl).2, u6]
        have eV : we_V E t n .leaf dp = vq_cv T (s.2.1 107 v.toNat) dp := by
          unfold we_V vr_V
          rw [n10.1, vx_val_re hgt (fun i hi => (by unfold we_D; rw [if_neg (by omega)]; omega : we_D t dp (t.1 66 58 + i) = dp + i)), n10.2 _ _ _ _ hon]
          show vq_cv T (we_D t dp v) dp = _
          rw [eD]
        obtain ⟨w, P1, ⟨j1, j2⟩, j3, j4⟩ := we_J_F c2 c3 rfl rfl hJu
        obtain ⟨j5, j6⟩ := j4 trivial
        have eW : (we_W E (vq_cv T (s.2.1 107 v.toNat) dp)).1 dp w = (we_W0 E (vq_cv T (s.2.1 107 v.toNat) dp)).1 dp w := by
          unfold we_W we_W0
          rw [we_noh (hf' := fun _ _ _ w => w) (fun x => wz_cv_oc T _ _)]
        have eA : ((we_W0 E (vq_cv T (s.2.1 107 v.toNat) dp)).1 dp w).1 = w.1 := (we_fst0 _ _).1
        refine w0 ((we_W0 E (vq_cv T (s.2.1 107 v.toNat) dp)).1 dp w) P1 _ n .leaf T [] _ 9 z (-1) dp nb ib t g K' hWt kC (Or.inl ⟨n7, by omega⟩) (Nat.le_refl _) kD (by omega) (by omega) (by omega) hGt tn ?_ (fun zz t2 f1 f2 f3 f4 f5 f6 => hK' zz t2 ⟨t, _, P1, ⟨f6, ⟨c3 89 rfl, c3 61 rfl⟩, fun w' hw' _ _ => ?_⟩, ⟨c2, c3, c4, c5, c8⟩, f1, f2, f3, f4⟩)
        · rw [eV]
          refine ⟨w, P1, ⟨j1, j2⟩, eW, fun _ => ⟨fun _ x hx => absurd hx (wz_cv_oc T _ _), fun c => ⟨(j6 c).1, fun m hm => ⟨fun x hx => absurd (vr_mt.1 tn hx) (n7 x), Or.inl hm⟩, (j6 c).2.2⟩⟩⟩
        · have g89 := f2.1.2.1 89 rfl
          obtain ⟨_, z2⟩ := f6 trivial
          rw [hw']
          refine ⟨j3, fun _ => ⟨fun c x hx => ?_, fun c => ⟨(z2 c).1, (j6 (by rw [← g89]; exact c)).2.1, (z2 c).2⟩⟩⟩
          rw [eA]
          exact j5 (by rw [← g89]; exact c) x hx
      · rintro t2 ⟨t, Z1, P1, ⟨hZ1, ⟨t89, t61⟩, hZ2⟩, ⟨c2, c3, c4, c5, c8⟩, f1, f2, f3, f4⟩ a b ha hb
        have e71 := c3 71 rfl
        have hwf := rf_lv_WF c2 c3 c4 c5 c8 f2 ha hb
        have r50 := u1.fld 66 50 (by decide) rfl
        have r58 := u1.fld 66 58 (by decide) rfl
        have o : ∀ k, k ≠ 50 → k ≠ 58 → sx_uf (sx_uf t2.1 66 50 a) 66 58 b 66 k = t2.1 66 k := fun k h1 h2 => by
          rw [sx_uf_if, if_neg (fun c => h2 c.2), sx_uf_if, if_neg (fun c => h1 c.2)]
        refine ⟨_, by omega, Or.inr (Or.inr ⟨rfl, rfl, ⟨cx_I_uf rfl rfl (cx_I_uf rfl rfl f1 (by omega) (by omega)) (by omega) (by omega), rf_WF_trans hwf u2, rf_OD_same f3 (o 61 (by decide) (by decide)) (o 83 (by decide) (by decide)) (o 79 (by decide) (by decide)) (fun _ _ => rfl), ?_, ?_⟩, ?_, rfl⟩)⟩
        · show sx_uf (sx_uf t2.1 66 50 a) 66 58 b 66 71 ≤ _
          rw [o 71 (by decide) (by decide)]
          omega
        · show sx_uf (sx_uf t2.1 66 50 a) 66 58 b 66 58 = _
          rw [sx_uf_if, if_pos ⟨rfl, rfl⟩]
          omega
        · obtain ⟨⟨y1, y2⟩, _⟩ := hZ1 trivial
          obtain ⟨y3, y4⟩ := hZ2 Z1 rfl y1 y2
          exact we_J_same (u := t2) (fun k hk => o k (by omega) (by omega)) (fun _ _ => rfl) ⟨Z1, P1, ⟨y1, y2⟩, y3, y4⟩
    · refine w_wvar_66 (PW := fun t => we_PT E u t [41]) (fun K' hK' => kP (d + 1) (by omega) 41 u K' u1 (by omega) hK') ?_
      intro t hpt
      obtain ⟨c1, c2, c3, _⟩ := id hpt
      obtain ⟨e1, e2, e3, e4, e5⟩ := rf_WF_put c2 c3
      exact hK 0 t c1 (rf_WF_trans e1 u2) (e2 u3) (by omega) (by omega) (we_J_put hL hpt (fun _ => rfl) hJu)
end
end
section
/-! ===== numbers and orders of open unknowns ===== -/
theorem we_rnk_cg {D D' : Nat → Int} {n k : Nat} (h : ∀ i, i < n → D i = D' i) (hk : k < n) : rf_rnk D n k = rf_rnk D' n k := by
  have e : ∀ i, i < n → rf_r1 D k i = rf_r1 D' k i := fun i hi => by
    unfold rf_r1
    rw [h i hi, h k hk]
  exact Nat.le_antisymm (rf_sum_le2 (fun i hi => Nat.le_of_eq (e i hi))) (rf_sum_le2 (fun i hi => Nat.le_of_eq (e i hi).symm))
theorem we_find {a : List (Int × List Int)} {h : Int} {xs : List Int} : ∀ {i : Nat}, (a.map Prod.fst).Nodup → a[i]? = some (h, xs) → a.find? (fun p => decide (p.1 = h)) = some (h, xs) := by
  induction a with
  | nil => intro i _ hi; simp at hi
  | cons p a ih =>
    intro i hn hi
    rw [List.map_cons] at hn
    obtain ⟨n1, n2⟩ := List.nodup_cons.mp hn
    cases i with
    | zero =>
      rw [List.getElem?_cons_zero] at hi
      have e := Option.some.inj hi
      subst e
      rw [List.find?_cons_of_pos (by exact decide_eq_true rfl)]
    | succ i =>
      rw [List.getElem?_cons_succ] at hi
      have hm : h ∈ a.map Prod.fst := List.mem_map.mpr ⟨(h, xs), List.mem_of_getElem? hi, rfl⟩
      have hne : p.1 ≠ h := fun e => n1 (by rw [e]; exact hm)
      rw [List.find?_cons_of_neg (by rw [decide_eq_false hne]; decide)]
      exact ih n2 hi
theorem we_rw_at {a : List (Int × List Int)} {h : Int} {xs : List Int} {i : Nat} (hn : (a.map Prod.fst).Nodup) (hi : a[i]? = some (h, xs)) : we_rw a h = xs := by
  unfold we_rw
  rw [we_find hn hi]
  rfl
theorem we_ii_at {a : List (Int × List Int)} {h : Int} {xs : List Int} {i : Nat} (hn : (a.map Prod.fst).Nodup) (hi : a[i]? = some (h, xs)) : vx_ii (a.map Prod.fst) h = (i : Int) := vx_ii_at hn (by rw [List.getElem?_map, hi]; rfl)
theorem we_od_at {xs : List Int} {k : Nat} (hx : ∀ p q : Nat, p < xs.length → q < xs.length → xs.getD p (-1) = xs.getD q (-1) → p = q) (hk : k < xs.length) : we_od xs (rf_rnk (fun i => xs.getD i (-1)) xs.length k) = k := by
  unfold we_od
  cases hf : (List.range xs.length).find? (fun j => decide (rf_rnk (fun i => xs.getD i (-1)) xs.length j = rf_rnk (fun i => xs.getD i (-1)) xs.length k)) with
  | none =>
    have := List.find?_eq_none.mp hf k (List.mem_range.mpr hk)
    exact absurd (decide_eq_true rfl) this
  | some j =>
    have h1 := List.find?_some hf
    have h2 := List.mem_range.mp (List.mem_of_find?_eq_some hf)
    exact rf_rnk_inj (D := fun i => xs.getD i (-1)) hx h2 hk (of_decide_eq_true h1)
/-- an open unknown that is numbered: its number, its order -/
theorem we_N_at {s : sx_S} {a : List (Int × List Int)} {m : Int} (h : we_N s a) (m0 : 0 ≤ m) (m1 : m < s.1 66 61) (r108 : 0 ≤ rf_aa s m ∧ rf_aa s m ≤ 4) (hm : -1 - m ∈ a.map Prod.fst) : s.2.1 118 m.toNat = vx_ii (a.map Prod.fst) (-1 - m) ∧ s.2.1 118 m.toNat ≠ -1 ∧ ∀ p : Nat, (p : Int) < rf_aa s m → s.2.1 121 (s.2.1 120 m.toNat + (p : Int)).toNat = ((we_od (we_rw a (-1 - m)) p : Nat) : Int) := by
  obtain ⟨_, hn, h3⟩ := h trivial
  rcases h3 m m0 m1 with ⟨_, c⟩ | ⟨i, xs, c1, c2, c3, c4, c5⟩
  · exact absurd hm c
  · refine ⟨by rw [we_ii_at hn c1]; exact c2, by omega, fun p hp => ?_⟩
    rw [we_rw_at hn c1]
    obtain ⟨k, k1, k2⟩ := rf_rnk_sur (D := fun i => xs.getD i (-1)) (n := xs.length) (by omega) c4 (r := p) (by omega)
    have := c5 k k1
    rw [k2] at this
    rw [this, ← k2, we_od_at c4 k1]
theorem we_N_no {s : sx_S} {a : List (Int × List Int)} {m : Int} (h : we_N s a) (m0 : 0 ≤ m) (m1 : m < s.1 66 61) : s.2.1 118 m.toNat = -1 ↔ -1 - m ∉ a.map Prod.fst := by
  obtain ⟨_, _, h3⟩ := h trivial
  rcases h3 m m0 m1 with ⟨c1, c2⟩ | ⟨i, xs, c1, c2, _⟩
  · exact ⟨fun _ => c2, fun _ => c1⟩
  · refine ⟨fun c => by omega, fun c => absurd ?_ c⟩
    exact List.mem_map.mpr ⟨(-1 - m, xs), List.mem_of_getElem? c1, rfl⟩
/-- one more is numbered -/
theorem we_N_add {s u : sx_S} {a : List (Int × List Int)} {m v : Int} {D : Nat → Int} (h : we_N s a) (m0 : 0 ≤ m) (m1 : m < s.1 66 61) (hs : s.2.1 118 m.toNat = -1) (hO : rf_OD s) (r108 : 0 ≤ s.2.1 108 m.toNat ∧ s.2.1 108 m.toNat ≤ 4) (hD : ∀ a b, a < (s.2.1 108 m.toNat).toNat → b < (s.2.1 108 m.toNat).toNat → D a = D b → a = b) (hA : rf_FA s u m D (s.2.1 108 m.toNat)) : we_N (sx_uf u.1 66 83 v, u.2) (a ++ [(-1 - m, (List.range (s.2.1 108 m.toNat).toNat).map D)]) := fun _ => by
  have hno := (we_N_no h m0 m1).mp hs
  obtain ⟨h1, h2, h3⟩ := h trivial
  obtain ⟨⟨a1, a2, a3, a4⟩, a5, a6, a7, a8⟩ := hA
  have o : ∀ k, k ≠ 83 → sx_uf u.1 66 83 v 66 k = u.1 66 k := fun k hk => by
    rw [sx_uf_if]
    exact if_neg (fun c => hk c.2)
  have e61 := a3 61 rfl
  have e108 : u.2.1 108 = s.2.1 108 := (a2.same 108 rfl).2
  have hlen : ((List.range (s.2.1 108 m.toNat).toNat).map D).length = (s.2.1 108 m.toNat).toNat := by rw [List.length_map, List.length_range]
  have hget : ∀ i, i < (s.2.1 108 m.toNat).toNat → ((List.range (s.2.1 108 m.toNat).toNat).map D).getD i (-1) = D i := fun i hi => vx_getD (by rw [List.getElem?_map, List.getElem?_range hi]; rfl)
  dsimp only
  unfold rf_aa
  rw [o 79 (by decide), o 61 (by decide), e61, a4]
  refine ⟨by rw [List.length_append, h1]; rfl, ?_, fun x x0 x1 => ?_⟩
  · rw [List.map_append, List.nodup_append]
    refine ⟨h2, List.nodup_cons.mpr ⟨List.not_mem_nil, List.nodup_nil⟩, fun z hz w hw e => hno ?_⟩
    have : w = -1 - m := List.mem_singleton.mp hw
    rw [← this, ← e]
    exact hz
  · by_cases c : x = m
    · subst c
      refine Or.inr ⟨a.length, _, by rw [List.getElem?_append_right (Nat.le_refl _), Nat.sub_self]; rfl, by rw [a5, if_pos rfl]; exact h1, by rw [hlen, e108]; omega, fun p q hp hq e => ?_, fun k hk => ?_⟩
      · rw [hlen] at hp hq
        rw [hget p hp, hget q hq] at e
        exact hD p q hp hq e
      · rw [hlen] at hk
        rw [hlen, we_rnk_cg (D' := D) hget hk, a6, if_pos rfl]
        exact a8 k (by omega)
    · have hxn : x.toNat ≠ m.toNat := by omega
      rcases h3 x x0 x1 with ⟨c1, c2⟩ | ⟨i, xs, c1, c2, c3, c4, c5⟩
      · refine Or.inl ⟨by rw [a5, if_neg hxn]; exact c1, ?_⟩
        rw [List.map_append, List.mem_append]
        rintro (z | z)
        · exact c2 z
        · have : -1 - x = -1 - m := List.mem_singleton.mp z
          omega
      · refine Or.inr ⟨i, xs, ?_, by rw [a5, if_neg hxn]; exact c2, by rw [e108]; exact c3, c4, fun k hk => ?_⟩
        · have hi : i < a.length := (List.getElem?_eq_some_iff.mp c1).1
          rw [List.getElem?_append_left hi]
          exact c1
        · have hne : s.2.1 118 x.toNat ≠ -1 := by omega
          obtain ⟨⟨o1, o2⟩, _⟩ := hO.2 x.toNat (by omega) hne
          have hrk := rf_rnk_lt (D := fun i => xs.getD i (-1)) (n := xs.length) hk
          have c3' : (xs.length : Int) = s.2.1 108 x.toNat := c3
          rw [a6, if_neg hxn, a7 _ (by omega)]
          exact c5 k hk
end
section
/-! ===== the reference: writeFresh, with what it writes ===== -/
section
variable {Ω : Type}
theorem we_gv_1 {pb : Int → Ω → Ω} {v : rf_N} {o : Int → we_A Ω → we_A Ω} (ho : ∀ dp w, (o dp w).1 = w.1) (dp : Int) (w : we_A Ω) : (we_gv pb v o dp w).1 = w.1 := by
  unfold we_gv we_g
  by_cases c : (wz_q v).1 = 0 ∨ rf_len (wz_F v) ≠ 0
  · rw [if_pos c, we_bs_1, ho, we_bs_1]
  · rw [if_neg c, ho]
theorem we_rl_c {E : we_E Ω} {Ts : List rf_T} {Ls : List Int} {p : Nat} {dp : Int} {w : we_A Ω} (hT : p < Ts.length) (hL : p < Ls.length) : (we_W0 E (vq_rl (Ts.drop p) (Ls.drop p) dp)).2 dp w = (we_W0 E (vq_rl (Ts.drop (p + 1)) (Ls.drop (p + 1)) dp)).2 dp (we_gv E.1.1 (vq_cv (Ts.getD p .leaf) (Ls.getD p (-1)) dp) (we_W0 E (vq_cv (Ts.getD p .leaf) (Ls.getD p (-1)) dp)).1 dp (we_b E [32] w)) := by
  have e1 : Ts.getD p .leaf = Ts[p] := by rw [List.getD_eq_getElem?_getD, List.getElem?_eq_getElem hT]; rfl
  have e2 : Ls.getD p (-1) = Ls[p] := by rw [List.getD_eq_getElem?_getD, List.getElem?_eq_getElem hL]; rfl
  rw [List.drop_eq_getElem_cons hT, List.drop_eq_getElem_cons hL, e1, e2]
  exact (we_w_sb (vq_cv_on _ _ _) dp w).2
theorem c_e_writeFresh {E : we_E Ω} (hL : we_L E) {sL : Nat} {sx : Nat → Int32} (hKE : we_K E sL sx) (hsL : sL ≤ 3072) (d : Nat) (hd : 120 ≤ d) (w0 : we_T E sL sx false 9 d) : ∀ (Z : we_A Ω) (P : Int → Prop) (N : Int → rf_T → Prop) (A : rf_N) (y : rf_Y) (x : rf_T) (W : List Nat) (p : Nat) (i b dp nb ib : Int) (s : sx_S) (g : rf_Gh) (K : Int → sx_S → Prop), rf_WW true nb ib s g → rf_CL s g N A y x W p i b → s.2.1 100 i.toNat = 3 → s.2.1 111 (s.2.1 101 i.toNat).toNat = 0 → rf_DI s y (rf_fo (rf_Wd s g.2.2) A).1 dp → (0 ≤ dp ∧ dp ≤ 99900) → s.1 66 71 ≤ 399800 → s.1 66 58 ≤ 399800 → we_G E s g → vr_t s (we_AR E) A → we_J E Z P s (we_V E s A y dp) (vr_1 A) ((we_W E (we_V E s A y dp)).1 dp) → (∀ z t, cx_I t → rf_WF s t → rf_OD t → t.1 66 71 ≤ s.1 66 71 + 36 → t.1 66 58 = s.1 66 58 → we_Z E Z P t → K z t) → sx_C sL sx (d + 2) 211 [.inr (.inl 66), .inl i, .inl b, .inl dp] s K := by
  intro Z P N A y x W p i b dp nb ib s g K hW k h3 ho hDI hdp h71 h58 hG hVt hJ hK
  obtain ⟨kP, kN, kM, kA⟩ := hKE trivial
  have hW0 := hW
  obtain ⟨⟨hI, hM, hnb, hib, hph⟩, h70, h61, h9, ⟨h50, h56⟩, hO⟩ := hW
  have pA := rf_CL_b hI k
  obtain ⟨hr, hbn, hx, j, kk, uu, f, n, eA, ej, k3, ek⟩ := rf_CL_3 k h3
  subst eA
  rw [← ek] at hr hbn ho
  have kNM := k.1.2.2.2
  have dY : rf_dp y ≤ 100 := by have := kNM.2.2.2; omega
  have r108 := hI.arr 108 (by decide) rfl kk.2.toNat
  have raa : rf_aa s kk.2 = s.2.1 108 kk.2.toNat := rfl
  have hbd := rf_OD_bd hO h61
  have hU := (hM.1 kk.2 hr.1 hr.2).2.2.1 ho
  have hF : ∀ q : Nat, (q : Int) < s.2.1 108 kk.2.toNat → (rf_fo (rf_Wd s g.2.2) (.inner j kk uu f n)).1 (rf_rv1 s j q) := fun q hq => Or.inl ⟨k3, q, hU q hq, rfl⟩
  have hvo : ∀ q, rf_vo s y i q = rf_look y (rf_rv1 s j q) := fun q => by
    unfold rf_vo rf_rv1
    rw [ej]
  have hty : ∀ q : Nat, (q : Int) < s.2.1 108 kk.2.toNat → ∃ T, rf_at T ≤ 5 ∧ rf_vb (s.1 66 58) s (rf_look y (rf_rv1 s j q)) T ∧ rf_py s kk.2 q T := fun q hq => by
    rcases k.1.2.1 with ⟨c, _⟩ | ⟨_, w, hw, _⟩
    · omega
    · obtain ⟨T, t1, t2⟩ := (rf_Hn_3 hw k3).2.2.2 q hq
      exact ⟨T, t1.2.2, kNM.2.2.1 _ T t2, t1⟩
  obtain ⟨D, hDdef⟩ : ∃ D : Nat → Int, ∀ q, D q = s.2.1 107 (rf_look y (rf_rv1 s j q)).toNat := ⟨_, fun _ => rfl⟩
  have hDin : ∀ a b, a < (s.2.1 108 kk.2.toNat).toNat → b < (s.2.1 108 kk.2.toNat).toNat → D a = D b → a = b := fun a b ha hb e => by
    rw [hDdef, hDdef] at e
    exact k.2.1.1.1 k3 a b (hU a (by omega)) (hU b (by omega)) ((hDI _ (hF a (by omega))).2 _ (hF b (by omega)) e)
  obtain ⟨⟨_, GS⟩, _, _, _, Gpy, G58, _⟩ := hG trivial
  obtain ⟨Fv, eV, hFv⟩ := we_V_op (E := E) (u := uu) (f := f) (n := n) (y := y) (dp := dp) hG k3 (we_t_3 hVt k3) hr ho r108.1
  have hxs : dz_hs Fv = (List.range (s.2.1 108 kk.2.toNat).toNat).map D := by
    rw [hFv]
    refine List.map_congr_left (fun q hq => ?_)
    have hq' := List.mem_range.mp hq
    obtain ⟨T, _, hT, _⟩ := hty q (by omega)
    have := hT.1
    unfold we_D
    rw [if_pos (by omega), hDdef]
  obtain ⟨w, P1, ⟨hNs, hSs⟩, hZ, hMs⟩ := hJ
  rw [eV] at hMs
  rw [eV, show (we_W E (rf_n 0 1 (-1 - kk.2) Fv .leaf)).1 dp w = we_hf E.1.1 E.1.2.1 E.1.2.2 E.2.2.1 (-1 - kk.2) (dz_hs Fv) dp w from we_hol 0 (-1 - kk.2) Fv .leaf (by omega) dp w, hxs] at hZ
  have eA : wz_ad w.1 (-1 - kk.2) ((List.range (s.2.1 108 kk.2.toNat).toNat).map D) = Z.1 := by
    rw [← hZ, we_hf_1]
  unfold we_hf at hZ
  rw [eA] at hZ
  have hxl : ((List.range (s.2.1 108 kk.2.toNat).toNat).map D).length = (s.2.1 108 kk.2.toNat).toNat := by rw [List.length_map, List.length_range]
  rw [hxl] at hZ
  have hxg : ∀ q, q < (s.2.1 108 kk.2.toNat).toNat → ((List.range (s.2.1 108 kk.2.toNat).toNat).map D).getD q (-1) = D q := fun q hq => vx_getD (by rw [List.getElem?_map, List.getElem?_range hq]; rfl)
  have hmem : -1 - kk.2 ∈ Z.1.map Prod.fst := by
    rw [← eA, wz_ad_mem]
    exact Or.inr rfl
  obtain ⟨Ts, hTs⟩ : ∃ l : List rf_T, l = (List.range (s.2.1 108 kk.2.toNat).toNat).map (fun p => (E.2.2.1 (-1 - kk.2)).getD (we_od (we_rw Z.1 (-1 - kk.2)) p) .leaf) := ⟨_, rfl⟩
  obtain ⟨Ls, hLs⟩ : ∃ l : List Int, l = (List.range (s.2.1 108 kk.2.toNat).toNat).map (fun p => ((List.range (s.2.1 108 kk.2.toNat).toNat).map D).getD (we_od (we_rw Z.1 (-1 - kk.2)) p) (-1)) := ⟨_, rfl⟩
  have lTs : Ts.length = (s.2.1 108 kk.2.toNat).toNat := by rw [hTs, List.length_map, List.length_range]
  have lLs : Ls.length = (s.2.1 108 kk.2.toNat).toNat := by rw [hLs, List.length_map, List.length_range]
  have hZ2 : (we_W0 E (vq_rl Ts Ls dp)).2 dp (we_b E (104 :: E.1.2.1 (vx_ii (Z.1.map Prod.fst) (-1 - kk.2))) (Z.1, w.2)) = Z := by
    rw [hTs, hLs]
    exact hZ
  -- what is there once it is numbered
  have hM1 : ∀ u : sx_S, u.1 66 89 = s.1 66 89 → u.1 66 61 = s.1 66 61 → u.2.1 119 = s.2.1 119 → we_M E u (Z.1, w.2) Z (rf_n 0 1 (-1 - kk.2) Fv .leaf) (vr_1 (.inner j kk uu f n)) P P1 := fun u e89 e61 e119 _ => by
    obtain ⟨c1, c2⟩ := hMs trivial
    rw [e89, e61, e119]
    refine ⟨fun _ x hx => ?_, fun c => ⟨(c2 c).1, (c2 c).2.1, fun m m0 m1 hs => ((c2 c).2.2 m m0 m1 hs).imp id (fun z x hx => ?_)⟩⟩
    · have hx' : wz_oc x (.inner 0 (1, -1 - kk.2) () Fv .leaf) := hx
      rw [wz_oc_in, if_pos ⟨rfl, by show -1 - kk.2 < 0; omega⟩] at hx'
      rcases hx' with hx' | hx'
      · rw [← hx']
        exact hmem
      · exact hx'.elim
    · show x ∈ Z.1.map Prod.fst
      rw [← eA, wz_ad_mem]
      exact Or.inl (z x hx)
  have hNZ : ∀ (u : sx_S) (k0 : we_A Ω → we_A Ω), (∀ w', (k0 w').1 = w'.1) → we_J E Z P u (rf_n 0 1 (-1 - kk.2) Fv .leaf) (vr_1 (.inner j kk uu f n)) k0 → we_N u Z.1 := fun u k0 hk0 hJu => by
    obtain ⟨w', _, ⟨n1, _⟩, n2, _⟩ := hJu
    rw [← n2, hk0]
    exact n1
  refine sx_methL (wr := true) (n := 400) (n' := 400) (stop := [(19, [0, 1, 2, 3, 4]), (54, [0, 1, 2, 3, 4, 5]), (72, [0, 1, 2, 3, 4, 5, 6, 7]), (149, [0, 1, 2, 3, 4]), (165, [0, 1, 2, 3, 4]), (178, [0, 1, 2, 3, 4]), (181, [0, 1, 2, 3, 4, 5]), (199, [0, 1, 2, 3, 4, 5])]) (fun ms pc ls u => (pc = 19 ∧ ls = [(0, .inr (.inl 66)), (1, .inl i), (2, .inl b), (3, .inl dp), (4, .inl kk.2)] ∧ s = u ∧ s.2.1 118 kk.2.toNat = -1 ∧ ms = 900) ∨ (pc = 54 ∧ ∃ x5 : Int, ls = [(0, .inr (.inl 66)), (1, .inl i), (2, .inl b), (3, .inl dp), (4, .inl kk.2), (5, .inl x5)] ∧ s.2.1 118 kk.2.toNat = -1 ∧ rf_FA s u kk.2 D x5 ∧ (0 ≤ x5 ∧ x5 ≤ s.2.1 108 kk.2.toNat) ∧ ms = 500 + 10 * (4 - x5).toNat + 9) ∨ (pc = 72 ∧ ∃ x5 x6 x7 : Int, ls = [(0, .inr (.inl 66)), (1, .inl i), (2, .inl b), (3, .inl dp), (4, .inl kk.2), (5, .inl x5), (6, .inl x6), (7, .inl x7)] ∧ s.2.1 118 kk.2.toNat = -1 ∧ rf_FA s u kk.2 D x5 ∧ (0 ≤ x5 ∧ x5 < s.2.1 108 kk.2.toNat) ∧ (0 ≤ x7 ∧ x7 ≤ s.2.1 108 kk.2.toNat) ∧ x6 = ((rf_sum (rf_r1 D x5.toNat) x7.toNat : Nat) : Int) ∧ ms = 500 + 10 * (4 - x5).toNat + (4 - x7).toNat) ∨ (pc = 149 ∧ ls = [(0, .inr (.inl 66)), (1, .inl i), (2, .inl b), (3, .inl dp), (4, .inl kk.2)] ∧ s.2.1 118 kk.2.toNat = -1 ∧ rf_FA s u kk.2 D (s.2.1 108 kk.2.toNat) ∧ ms = 400) ∨ (pc = 165 ∧ ls = [(0, .inr (.inl 66)), (1, .inl i), (2, .inl b), (3, .inl dp), (4, .inl kk.2)] ∧ (cx_I u ∧ rf_WF s u ∧ rf_OD u ∧ u.2.1 118 kk.2.toNat ≠ -1 ∧ u.1 66 71 = s.1 66 71 ∧ u.1 66 58 = s.1 66 58) ∧ we_J E Z P u (rf_n 0 1 (-1 - kk.2) Fv .leaf) (vr_1 (.inner j kk uu f n)) (fun w => (we_W0 E (vq_rl Ts Ls dp)).2 dp (we_b E (104 :: E.1.2.1 (vx_ii (Z.1.map Prod.fst) (-1 - kk.2))) w)) ∧ ms = 300) ∨ (pc = 178 ∧ ls = [(0, .inr (.inl 66)), (1, .inl i), (2, .inl b), (3, .inl dp), (4, .inl kk.2)] ∧ (cx_I u ∧ rf_WF s u ∧ rf_OD u ∧ u.2.1 118 kk.2.toNat ≠ -1 ∧ u.1 66 71 = s.1 66 71 ∧ u.1 66 58 = s.1 66 58) ∧ we_J E Z P u (rf_n 0 1 (-1 - kk.2) Fv .leaf) (vr_1 (.inner j kk uu f n)) ((we_W0 E (vq_rl Ts Ls dp)).2 dp) ∧ ms = 200) ∨ (pc = 181 ∧ ∃ x5 : Int, ls = [(0, .inr (.inl 66)), (1, .inl i), (2, .inl b), (3, .inl dp), (4, .inl kk.2), (5, .inl x5)] ∧ (cx_I u ∧ rf_WF s u ∧ rf_OD u ∧ u.2.1 118 kk.2.toNat ≠ -1 ∧ u.1 66 71 ≤ s.1 66 71 + 9 * x5 ∧ u.1 66 58 = s.1 66 58) ∧ we_J E Z P u (rf_n 0 1 (-1 - kk.2) Fv .leaf) (vr_1 (.inner j kk uu f n)) ((we_W0 E (vq_rl (Ts.drop x5.toNat) (Ls.drop x5.toNat) dp)).2 dp) ∧ (0 ≤ x5 ∧ x5 ≤ s.2.1 108 kk.2.toNat) ∧ ms = 2 * (4 - x5).toNat + 1) ∨ (pc = 199 ∧ ∃ x5 : Int, ls = [(0, .inr (.inl 66)), (1, .inl i), (2, .inl b), (3, .inl dp), (4, .inl kk.2), (5, .inl x5)] ∧ (cx_I u ∧ rf_WF s u ∧ rf_OD u ∧ u.2.1 118 kk.2.toNat ≠ -1 ∧ u.1 66 71 ≤ s.1 66 71 + 9 * x5 ∧ u.1 66 58 = s.1 66 58) ∧ we_J E Z P u (rf_n 0 1 (-1 - kk.2) Fv .leaf) (vr_1 (.inner j kk uu f n)) (fun w => (we_W0 E (vq_rl (Ts.drop (x5.toNat + 1)) (Ls.drop (x5.toNat + 1)) dp)).2 dp (we_gv E.1.1 (vq_cv (Ts.getD x5.toNat .leaf) (Ls.getD x5.toNat (-1)) dp) (we_W0 E (vq_cv (Ts.getD x5.toNat .leaf) (Ls.getD x5.toNat (-1)) dp)).1 dp w)) ∧ (0 ≤ x5 ∧ x5 < s.2.1 108 kk.2.toNat) ∧ ms = 2 * (4 - x5).toNat)) hsL (e := eX12_writeFresh) rfl ?_ ?_
  · refine w_fresh hI pA (by rw [← ek]; omega) (fun m hm q => ?_) (fun m hm q => ?_)
    · rw [← ek] at hm
      subst hm
      exact ⟨_, Or.inl ⟨rfl, rfl, rfl, q, rfl⟩⟩
    · rw [← ek] at hm
      subst hm
      have e0 : w.1 = Z.1 := by
        rw [← eA]
        unfold wz_ad
        have hin : -1 - kk.2 ∈ w.1.map Prod.fst := Classical.byContradiction (fun c => q ((we_N_no hNs hr.1 hr.2).mpr c))
        rw [if_pos hin]
      exact ⟨_, Or.inr (Or.inr (Or.inr (Or.inr (Or.inl ⟨rfl, rfl, ⟨hI, rf_WF_refl s, hO, q, rfl, rfl⟩, ⟨(Z.1, w.2), P1, ⟨by rw [← e0]; exact hNs, hSs⟩, hZ2, hM1 s rfl rfl rfl⟩, rfl⟩))))⟩
  · rintro ms pc ls u (⟨rfl, rfl, rfl, hf, rfl⟩ | ⟨rfl, x5, rfl, hf, hA, h5, rfl⟩ | ⟨rfl, x5, x6, x7, rfl, hf, hA, h5, h7, h6, rfl⟩ | ⟨rfl, rfl, hf, hA, rfl⟩ | ⟨rfl, rfl, ⟨u1, u2, u3, u4, u5, u6⟩, hJu, rfl⟩ | ⟨rfl, rfl, ⟨u1, u2, u3, u4, u5, u6⟩, hJu, rfl⟩ | ⟨rfl, x5, rfl, ⟨u1, u2, u3, u4, u5, u6⟩, hJu, h5, rfl⟩ | ⟨rfl, x5, rfl, ⟨u1, u2, u3, u4, u5, u6⟩, hJu, h5, rfl⟩)
    · -- 19
      refine w_fresh_19 hI (by omega) (by omega) (fun ff w v hff hw hv => ⟨_, by omega, Or.inr (Or.inl ⟨rfl, 0, rfl, hf, ⟨⟨?_, ?_, ?_, ?_⟩, fun q => ?_, fun q => ?_, fun q _ => ?_, fun q hq => by omega⟩, by omega, rfl⟩)⟩)
      · exact cx_I_ua rfl rfl (cx_I_ua rfl rfl (cx_I_uf rfl rfl hI (by omega) (by omega)) (by omega) (by omega)) (by omega) (by omega)
      · exact cx_F_ua rfl (cx_F_ua rfl (cx_F_uf rfl (cx_F_refl _ _)))
      · exact rf_f_uf rfl (rf_f_refl _ _)
      · show sx_uf s.1 66 79 w 66 79 = _
        rw [sx_uf_if, if_pos ⟨rfl, rfl⟩]
        exact hw
      · show sx_ua (sx_ua s.2.1 118 kk.2.toNat ff) 120 kk.2.toNat v 118 q = _
        rw [sx_ua_ne (by decide), sx_ua_same, hff]
      · show sx_ua (sx_ua s.2.1 118 kk.2.toNat ff) 120 kk.2.toNat v 120 q = _
        rw [sx_ua_same, sx_ua_ne (by decide), hv]
      · show sx_ua (sx_ua s.2.1 118 kk.2.toNat ff) 120 kk.2.toNat v 121 q = _
        rw [sx_ua_ne (by decide), sx_ua_ne (by decide)]
    · -- 54
      have e108 : u.2.1 108 = s.2.1 108 := (hA.1.2.1.same 108 rfl).2
      refine w_fresh_54 hA.1.1 (by omega) (by omega) (fun q => ?_) (fun q => ?_)
      · rw [e108] at q
        have ex : x5 = s.2.1 108 kk.2.toNat := by omega
        rw [ex] at hA
        exact ⟨_, by omega, Or.inr (Or.inr (Or.inr (Or.inl ⟨rfl, rfl, hf, hA, rfl⟩)))⟩
      · rw [e108] at q
        exact ⟨_, by omega, Or.inr (Or.inr (Or.inl ⟨rfl, x5, 0, 0, rfl, hf, hA, by omega, by omega, rfl, rfl⟩))⟩
    · -- 72
      have hA0 := hA
      obtain ⟨⟨a1, a2, a3, a4⟩, a5, a6, a7, a8⟩ := hA
      have e108 : u.2.1 108 = s.2.1 108 := (a2.same 108 rfl).2
      have e107 : u.2.1 107 = s.2.1 107 := (a2.same 107 rfl).2
      have e83 := a3 83 rfl
      have hyu : rf_bs u y b := by
        unfold rf_bs
        rw [(a2.same 115 rfl).2, (a2.same 116 rfl).2, (a2.same 117 rfl).2, a3 71 rfl]
        exact kNM.1
      have hvu : ∀ q, rf_vo u y i q = rf_look y (rf_rv1 s j q) := fun q => by
        rw [← hvo]
        unfold rf_vo
        rw [(a2.same 104 rfl).2, (a2.same 105 rfl).2]
      have hs6 : rf_sum (rf_r1 D x5.toNat) x7.toNat ≤ 3 := by
        have q1 : rf_sum (rf_r1 D x5.toNat) x7.toNat ≤ rf_rnk D (s.2.1 108 kk.2.toNat).toNat x5.toNat := by
          have : ∀ a c : Nat, rf_sum (rf_r1 D x5.toNat) a ≤ rf_sum (rf_r1 D x5.toNat) (a + c) := fun a c => by
            induction c with
            | zero => exact Nat.le_refl _
            | succ c ih =>
              rw [show a + (c + 1) = (a + c) + 1 from rfl, rf_sum_s]
              omega
          have q2 := this x7.toNat ((s.2.1 108 kk.2.toNat).toNat - x7.toNat)
          rw [show x7.toNat + ((s.2.1 108 kk.2.toNat).toNat - x7.toNat) = (s.2.1 108 kk.2.toNat).toNat by omega] at q2
          exact q2
        have q3 := rf_rnk_lt (D := D) (n := (s.2.1 108 kk.2.toNat).toNat) (k := x5.toNat) (by omega)
        omega
      have b104 : (u.2.1 104 i.toNat) = s.2.1 104 i.toNat := by rw [(a2.same 104 rfl).2]
      refine w_fresh_72 (w1 := rf_vo u y i x7.toNat) (w2 := rf_vo u y i x5.toNat) a1 (by omega) (by omega) (by omega) (by omega) ?_ ?_ (by omega) ?_ ?_ ?_ ?_
      · intro q
        rw [e108] at q
        obtain ⟨T, _, hT, _⟩ := hty x7.toNat (by omega)
        rw [hvu]
        have := hT.1
        omega
      · intro q
        obtain ⟨T, _, hT, _⟩ := hty x5.toNat (by omega)
        rw [hvu]
        have := hT.1
        omega
      · intro q K' hK'
        rw [e108] at q
        exact c_r_varOf hsL 100 (d + 1) (by omega) y i b x7 u K' a1 pA (by omega) (by omega) dY hyu hK'
      · intro q K' hK'
        exact c_r_varOf hsL 100 (d + 1) (by omega) y i b x5 u K' a1 pA (by omega) (by omega) dY hyu hK'
      · intro q bb yy hbb hyy
        rw [e108] at q
        refine ⟨_, by omega, Or.inr (Or.inr (Or.inl ⟨rfl, x5, bb, yy, rfl, hf, hA0, h5, by omega, ?_, rfl⟩))⟩
        have ey : yy.toNat = x7.toNat + 1 := by omega
        rw [ey, rf_sum_s]
        rw [hvu, hvu, e107, ← hDdef, ← hDdef] at hbb
        push_cast
        rcases hbb with ⟨z1, z2⟩ | ⟨z1, z2⟩
        · have : rf_r1 D x5.toNat x7.toNat = 1 := if_pos z1
          rw [this]
          omega
        · have : rf_r1 D x5.toNat x7.toNat = 0 := if_neg (by omega)
          rw [this]
          omega
      · intro q nn yy hnn hyy
        rw [e108] at q
        have ex7 : x7.toNat = (s.2.1 108 kk.2.toNat).toNat := by omega
        rw [ex7] at h6
        have h6' : x6 = ((rf_rnk D (s.2.1 108 kk.2.toNat).toNat x5.toNat : Nat) : Int) := h6
        refine ⟨_, by omega, Or.inr (Or.inl ⟨rfl, yy, rfl, hf, ⟨⟨cx_I_ua rfl rfl a1 (by omega) (by omega), cx_F_ua rfl a2, rf_f_ua a3, a4⟩, fun q => ?_, fun q => ?_, fun q hq => ?_, fun q hq => ?_⟩, by omega, rfl⟩)⟩
        · show sx_ua u.2.1 121 nn.toNat x5 118 q = _
          rw [sx_ua_ne (by decide)]
          exact a5 q
        · show sx_ua u.2.1 121 nn.toNat x5 120 q = _
          rw [sx_ua_ne (by decide)]
          exact a6 q
        · show sx_ua u.2.1 121 nn.toNat x5 121 q = _
          rw [sx_ua_same]
          dsimp only
          rw [if_neg (by omega)]
          exact a7 q hq
        · show sx_ua u.2.1 121 nn.toNat x5 121 _ = _
          rw [sx_ua_same]
          dsimp only
          by_cases c : (q : Int) = x5
          · have : q = x5.toNat := by omega
            rw [this, if_pos (by omega)]
            omega
          · have hne : rf_rnk D (s.2.1 108 kk.2.toNat).toNat q ≠ rf_rnk D (s.2.1 108 kk.2.toNat).toNat x5.toNat := fun e => by
              have := rf_rnk_inj hDin (by omega) (by omega) e
              omega
            rw [if_neg (by omega)]
            exact a8 q (by omega)
    · -- 149
      have e83 := hA.1.2.2.1 83 rfl
      have e108 : u.2.1 108 = s.2.1 108 := (hA.1.2.1.same 108 rfl).2
      have hA0 := hA
      obtain ⟨⟨a1, a2, a3, a4⟩, a5, a6, a7, a8⟩ := hA
      refine w_fresh_149 a1 (by omega) (by omega) (fun v hv => ?_)
      rw [e108, e83] at hv
      have o : ∀ q, q ≠ 83 → sx_uf u.1 66 83 v 66 q = u.1 66 q := fun q hq => by
        rw [sx_uf_if]
        exact if_neg (fun c => hq c.2)
      refine ⟨_, by omega, Or.inr (Or.inr (Or.inr (Or.inr (Or.inl ⟨rfl, rfl, ⟨cx_I_uf rfl rfl a1 (by omega) (by omega), ?_, rf_FA_OD hr hf hO r108 hDin hA0 hv, ?_, (o 71 (by decide)).trans (a3 71 rfl), (o 58 (by decide)).trans (a3 58 rfl)⟩, ⟨(Z.1, w.2), P1, ⟨?_, ?_⟩, hZ2, hM1 _ ((o 89 (by decide)).trans (a3 89 rfl)) ((o 61 (by decide)).trans (a3 61 rfl)) (a2.same 119 rfl).2⟩, rfl⟩))))⟩
      · have e50 : sx_uf u.1 66 83 v 66 50 = s.1 66 50 := (o 50 (by decide)).trans (a3 50 rfl)
        have e58 : sx_uf u.1 66 83 v 66 58 = s.1 66 58 := (o 58 (by decide)).trans (a3 58 rfl)
        have e71 : sx_uf u.1 66 83 v 66 71 = s.1 66 71 := (o 71 (by decide)).trans (a3 71 rfl)
        refine ⟨⟨cx_F_uf rfl (cx_F_step a2 rfl (cx_F_refl _ _)), rf_f_uf rfl (rf_f_step a3 rfl (rf_f_refl _ _)), e50⟩, ⟨(show rf_ag 100 103 _ s u from rf_ag_F a2 rfl (rf_ag_refl _ _ _ _)), (show rf_ag 105 105 _ s u from rf_ag_F a2 rfl (rf_ag_refl _ _ _ _)), (show rf_ag 106 107 _ s u from rf_ag_F a2 rfl (rf_ag_refl _ _ _ _)), (show rf_ag 115 117 _ s u from rf_ag_F a2 rfl (rf_ag_refl _ _ _ _))⟩, Int.le_of_eq e58.symm, Int.le_of_eq e71.symm, fun q hq => ?_⟩
        show u.2.1 118 q ≠ -1
        rw [a5 q]
        by_cases c : q = kk.2.toNat
        · rw [if_pos c]
          omega
        · rw [if_neg c]
          exact hq
      · show u.2.1 118 kk.2.toNat ≠ -1
        rw [a5, if_pos rfl]
        omega
      · have e1 := we_N_add (v := v) hNs hr.1 hr.2 hf hO r108 hDin hA0
        have e2 : w.1 ++ [(-1 - kk.2, (List.range (s.2.1 108 kk.2.toNat).toNat).map D)] = Z.1 := by
          rw [← eA]
          unfold wz_ad
          rw [if_neg ((we_N_no hNs hr.1 hr.2).mp hf)]
        rw [e2] at e1
        exact e1
      · have e1 : sx_uf u.1 66 83 v 66 86 = s.1 66 86 := (o 86 (by decide)).trans (a3 86 rfl)
        have e2 : u.2.1 122 = s.2.1 122 := (a2.same 122 rfl).2
        show E.2.1.1 (sx_uf u.1 66 83 v 66 86) (u.2.1 122) w.2
        rw [e1, e2]
        exact hSs
    · -- 165
      have hNu := hNZ u _ (by intro w'; exact (we_fst0 _ _).2) hJu
      have e61u := u2.1.2.1 61 rfl
      have e108u : u.2.1 108 = s.2.1 108 := (u2.1.1.same 108 rfl).2
      have r108u : 0 ≤ rf_aa u kk.2 ∧ rf_aa u kk.2 ≤ 4 := by
        unfold rf_aa
        rw [e108u]
        exact r108
      have e118 := (we_N_at hNu hr.1 (by omega) r108u hmem).1
      have r118 := u1.arr 118 (by decide) rfl kk.2.toNat
      refine w_e_fresh_165 (PW := fun t => we_PT E u t (104 :: E.1.2.1 (vx_ii (Z.1.map Prod.fst) (-1 - kk.2)))) u1 (by omega) (fun q hq K' hK' => by rw [hq]; exact kN (d + 1) (by omega) 104 _ u K' u1 (by omega) (by omega) (by rw [e118]; exact hK')) ?_
      intro t hpt
      obtain ⟨c1, c2, c3, _⟩ := id hpt
      obtain ⟨e1, e2, e3, e4, e5⟩ := rf_WF_put c2 c3
      exact ⟨_, by omega, Or.inr (Or.inr (Or.inr (Or.inr (Or.inr (Or.inl ⟨rfl, rfl, ⟨c1, rf_WF_trans e1 u2, e2 u3, e1.2.2.2.2 _ u4, by omega, by omega⟩, we_J_put hL hpt (fun _ => rfl) hJu, rfl⟩)))))⟩
    · -- 178
      exact w_fresh_178 ⟨_, by omega, Or.inr (Or.inr (Or.inr (Or.inr (Or.inr (Or.inr (Or.inl ⟨rfl, 0, rfl, ⟨u1, u2, u3, u4, by omega, u6⟩, hJu, by omega, rfl⟩))))))⟩
    · -- 181
      have e108 : u.2.1 108 = s.2.1 108 := (u2.1.1.same 108 rfl).2
      refine w_fresh_181 (PW := fun t => we_PT E u t [32]) u1 (by omega) (by omega) (fun q => ?_) (fun q K' hK' => kP (d + 1) (by omega) 32 u K' u1 (by omega) hK') ?_
      · rw [e108] at q
        refine hK 0 u u1 u2 u3 (by omega) u6 (we_J_Z (fun w' => ?_) hJu)
        rw [List.drop_eq_nil_of_le (by omega), List.drop_eq_nil_of_le (by omega)]
        rfl
      · intro q t hpt
        obtain ⟨c1, c2, c3, _⟩ := id hpt
        rw [e108] at q
        obtain ⟨e1, e2, e3, e4, e5⟩ := rf_WF_put c2 c3
        exact ⟨_, by omega, Or.inr (Or.inr (Or.inr (Or.inr (Or.inr (Or.inr (Or.inr ⟨rfl, x5, rfl, ⟨c1, rf_WF_trans e1 u2, e2 u3, e1.2.2.2.2 _ u4, by omega, by omega⟩, we_J_put hL hpt (fun w' => we_rl_c (by omega) (by omega)) hJu, by omega, rfl⟩))))))⟩
    · -- 199
      obtain ⟨hEu, hNu⟩ := rf_WF_EX u2
      have e108 : u.2.1 108 = s.2.1 108 := (u2.1.1.same 108 rfl).2
      have e61 := u2.1.2.1 61 rfl
      have hWu := rf_WW_up hW0 u1 u2 u3
      have hbu := rf_OD_bd u3 (by omega)
      obtain ⟨w1, w2⟩ := u3.2 kk.2.toNat (by omega) u4
      rw [e108] at w1 w2
      have ex : ((x5.toNat : Nat) : Int) = x5 := by omega
      have w3 := w2 x5.toNat (by omega)
      rw [ex] at w3
      obtain ⟨oq, hoq⟩ : ∃ q, q = u.2.1 121 (u.2.1 120 kk.2.toNat + x5).toNat := ⟨_, rfl⟩
      rw [← hoq] at w3
      have ku := rf_CL_up hEu u2.2.2.2.1 (Int.le_of_eq u6.symm) (rf_EG_refl s g) hM.ub k
      have kuN := ku.1.2.2.2
      have hrv : ∀ q : Nat, (q : Int) < s.2.1 108 kk.2.toNat → rf_rv1 u j q = rf_rv1 s j q := fun q hq => hEu.rv (by obtain ⟨j0, kk0, uu0, f0, n0, eA, z1, z2, z3, _⟩ := rf_CL_node k; cases eA; exact z3) (by rw [← ej]; exact hbn.1) (by rw [← ej]; omega)
      have hvu : rf_vo u y i oq.toNat = rf_look y (rf_rv1 s j oq.toNat) := by
        rw [← hrv oq.toNat (by omega)]
        unfold rf_vo rf_rv1
        rw [ej]
      obtain ⟨T, hT5, hT, hTp⟩ := hty oq.toNat (by omega)
      have hTu : rf_vb (u.1 66 58) u (rf_look y (rf_rv1 s j oq.toNat)) T := by
        rw [u6]
        exact (hEu.vb (Int.le_refl _) _ _).mpr hT
      have hT0 := hT.1
      have hdep : u.2.1 107 (rf_look y (rf_rv1 s j oq.toNat)).toNat = s.2.1 107 (rf_look y (rf_rv1 s j oq.toNat)).toNat := u2.2.1.2.2.1 107 _ (by omega) (by omega) (by omega)
      have hDq := (hDI _ (hF oq.toNat (by omega))).1
      have b104 : u.2.1 104 i.toNat = s.2.1 104 i.toNat := by rw [(u2.1.1.same 104 rfl).2]
      have hNu := hNZ u _ (fun w' => by
        rw [show ((we_W0 E (vq_rl (Ts.drop (x5.toNat + 1)) (Ls.drop (x5.toNat + 1)) dp)).2 dp (we_gv E.1.1 (vq_cv (Ts.getD x5.toNat .leaf) (Ls.getD x5.toNat (-1)) dp) (we_W0 E (vq_cv (Ts.getD x5.toNat .leaf) (Ls.getD x5.toNat (-1)) dp)).1 dp w')).1 = _ from (we_fst0 _ _).2]
        exact we_gv_1 (fun dp w => (we_fst0 dp w).1) _ _) hJu
      have r108u : 0 ≤ rf_aa u kk.2 ∧ rf_aa u kk.2 ≤ 4 := by
        unfold rf_aa
        rw [e108]
        exact r108
      have e121 := (we_N_at hNu hr.1 (by omega) r108u hmem).2.2 x5.toNat (by unfold rf_aa; rw [e108]; omega)
      rw [ex, ← hoq] at e121
      have eT : Ts.getD x5.toNat .leaf = T := by
        rw [List.getD_eq_getElem?_getD, hTs, List.getElem?_map, List.getElem?_range (by omega)]
        show (E.2.2.1 (-1 - kk.2)).getD (we_od (we_rw Z.1 (-1 - kk.2)) x5.toNat) .leaf = T
        rw [show we_od (we_rw Z.1 (-1 - kk.2)) x5.toNat = oq.toNat by omega]
        exact rf_py_inj (Gpy kk.2 oq.toNat hr.1 hr.2 (by unfold rf_aa; omega)) hTp
      have eLv : Ls.getD x5.toNat (-1) = u.2.1 107 (rf_vo u y i oq.toNat).toNat := by
        rw [List.getD_eq_getElem?_getD, hLs, List.getElem?_map, List.getElem?_range (by omega)]
        show ((List.range (s.2.1 108 kk.2.toNat).toNat).map D).getD (we_od (we_rw Z.1 (-1 - kk.2)) x5.toNat) (-1) = _
        rw [show we_od (we_rw Z.1 (-1 - kk.2)) x5.toNat = oq.toNat by omega, hxg _ (by omega), hvu, hdep, hDdef]
      rw [eT, eLv] at hJu
      have hGu := we_G_WF hL hW0 u2 hG
      refine w_fresh_199 (w := rf_vo u y i oq.toNat) (PW := fun t => cx_I t ∧ rf_WF u t ∧ rf_OD t ∧ t.1 66 71 ≤ u.1 66 71 + 9 ∧ t.1 66 58 = u.1 66 58 ∧ we_J E Z P t (rf_n 0 1 (-1 - kk.2) Fv .leaf) (vr_1 (.inner j kk uu f n)) ((we_W0 E (vq_rl (Ts.drop (x5.toNat + 1)) (Ls.drop (x5.toNat + 1)) dp)).2 dp)) u1 (by omega) (by omega) (by omega) ?_ ?_ ?_
      · intro q hq K' hK'
        rw [← hoq] at hq
        rw [hq]
        exact c_r_varOf hsL 100 (d + 1) (by omega) y i b oq u K' u1 pA (by omega) (by omega) dY kuN.1 hK'
      · intro K' hK'
        rw [hvu] at hJu ⊢
        exact c_e_writeVar hL hKE hsL (d + 1) (by omega) w0 Z P _ _ _ _ dp nb ib T u g K' hWu hTu hT5 (by rw [hdep]; exact hDq) hdp (by omega) (by omega) hGu hJu (fun z t f1 f2 f3 f4 f5 f6 => hK' z t ⟨f1, f2, f3, f4, f5, f6⟩)
      · rintro t ⟨f1, f2, f3, f4, f5, f6⟩ yy hyy
        exact ⟨_, by omega, Or.inr (Or.inr (Or.inr (Or.inr (Or.inr (Or.inr (Or.inl ⟨rfl, yy, rfl, ⟨f1, rf_WF_trans f2 u2, f3, f2.2.2.2.2 _ u4, by omega, by omega⟩, by rw [show yy.toNat = x5.toNat + 1 by omega]; exact f6, by omega, rfl⟩))))))⟩
end
end
section
/-! ===== the reference: write, step by step ===== -/
section
variable {Ω : Type}
def wz_X : rf_N → rf_N
  | .leaf => .leaf
  | .inner _ _ _ _ x => x
/-- a node is to be written; a row of ARGs -/
def we_4 (E : we_E Ω) (Z : we_A Ω) (P : Int → Prop) (u : sx_S) (A : rf_N) (y : rf_Y) (dp : Int) : Prop := vr_t u (we_AR E) A ∧ we_J E Z P u (we_V E u A y dp) (vr_1 A) ((we_W E (we_V E u A y dp)).1 dp)
def we_5 (E : we_E Ω) (Z : we_A Ω) (P : Int → Prop) (u : sx_S) (f : rf_N) (y : rf_Y) (dp : Int) : Prop := vr_r u (we_AR E) f ∧ we_J E Z P u (we_X E u f y dp) (vr_c f) ((we_W E (we_X E u f y dp)).2 dp)
def we_c7 (E : we_E Ω) (x7 : Int) (w : we_A Ω) : we_A Ω := if x7 = 0 then w else we_b E [41] w
/-- an ARG: behind its blank; behind its bracket; written; behind it -/
def we_6a (E : we_E Ω) (Z : we_A Ω) (P : Int → Prop) (u : sx_S) (f : rf_N) (y : rf_Y) (dp : Int) : Prop := vr_r u (we_AR E) f ∧ we_J E Z P u (we_X E u f y dp) (vr_c f) (fun w => (we_W E (we_X E u (wz_X f) y dp)).2 dp (we_gv E.1.1 (we_V E u f y dp) (we_W E (we_V E u f y dp)).1 dp w))
def we_6b (E : we_E Ω) (Z : we_A Ω) (P : Int → Prop) (u : sx_S) (f : rf_N) (y : rf_Y) (dp x7 : Int) : Prop := vr_r u (we_AR E) f ∧ we_J E Z P u (we_X E u f y dp) (vr_c f) (fun w => (we_W E (we_X E u (wz_X f) y dp)).2 dp (we_c7 E x7 ((we_W E (we_V E u f y dp)).1 dp w)))
def we_6c (E : we_E Ω) (Z : we_A Ω) (P : Int → Prop) (u : sx_S) (f : rf_N) (y : rf_Y) (dp x7 : Int) : Prop := vr_r u (we_AR E) f ∧ we_J E Z P u (we_X E u (wz_X f) y dp) (vr_c (wz_X f)) (fun w => (we_W E (we_X E u (wz_X f) y dp)).2 dp (we_c7 E x7 w))
def we_6d (E : we_E Ω) (Z : we_A Ω) (P : Int → Prop) (u : sx_S) (f : rf_N) (y : rf_Y) (dp : Int) : Prop := vr_r u (we_AR E) f ∧ we_J E Z P u (we_X E u (wz_X f) y dp) (vr_c (wz_X f)) ((we_W E (we_X E u (wz_X f) y dp)).2 dp)
theorem we_4_full {E : we_E Ω} (hL : we_L E) {Z : we_A Ω} {P : Int → Prop} {u : sx_S} {g : rf_Gh} {A : rf_N} {y : rf_Y} {dp : Int} (hI : cx_I u) (hG : we_G E u g) (hn : wz_nn (vr_1 A)) (h89 : u.1 66 89 = 0) (h86 : 4000 < u.1 66 86) (h : we_4 E Z P u A y dp) : we_Z E Z P u := we_J_full hL (we_V_ok hI hG h.1 hn y dp) (we_V_on hG h.1 y dp) (fun w P' hS hM => ⟨(hL trivial).2.2.1 _ _ _ hS h86, (hM trivial).1 h89⟩) h.2
theorem we_V_oc {E : we_E Ω} (hg : ∀ m, vx_on (we_th E m)) {s : sx_S} {j : Nat} {q : Int × Int} {u : Unit} {f x : rf_N} {y : rf_Y} {dp z : Int} (k3 : q.1 = 3) : wz_oc z (we_V E s (.inner j q u f x) y dp) ↔ wz_oc z (we_th E q.2) := by
  unfold we_V
  rw [vr_V_call hg k3, wz_oc_re, wz_oc_re]
theorem we_mt_3 {j : Nat} {q : Int × Int} {u : Unit} {f x : rf_N} (k3 : q.1 = 3) : vx_mt q.2 (vr_1 (.inner j q u f x)) := by
  rw [vr_1_in]
  exact Or.inl ⟨k3, rfl⟩
theorem we_4_skip {E : we_E Ω} (hL : we_L E) {Z : we_A Ω} {P : Int → Prop} {s : sx_S} {g : rf_Gh} {j : Nat} {q : Int × Int} {u : Unit} {f x : rf_N} {y : rf_Y} {dp : Int} (hI : cx_I s) (hG : we_G E s g) (hn : wz_nn (vr_1 (.inner j q u f x))) (k3 : q.1 = 3) (hr : 0 ≤ q.2 ∧ q.2 < s.1 66 61) (h89 : s.1 66 89 ≠ 0) (h119 : s.2.1 119 q.2.toNat ≠ 0) (h : we_4 E Z P s (.inner j q u f x) y dp) : we_Z E Z P s := we_J_full hL (we_V_ok hI hG h.1 hn y dp) (we_V_on hG h.1 y dp) (fun w P' _ hM => by
  obtain ⟨b1, b2, b3⟩ := (hM trivial).2 h89
  refine ⟨b1, fun z hz => ?_⟩
  rcases b3 q.2 hr.1 hr.2 h119 with c | c
  · have := (b2 q.2 c).1 q.2 (we_mt_3 k3)
    exact absurd this (Nat.lt_irrefl _)
  · exact c z ((we_V_oc (fun m => ((hG trivial).1.2.1 m).1) k3).mp hz)) h.2
/-- into a solved unknown -/
theorem we_4_en {E : we_E Ω} {nb ib : Int} {Z : we_A Ω} {P : Int → Prop} {s t : sx_S} {g : rf_Gh} {j : Nat} {q : Int × Int} {u : Unit} {f x : rf_N} {y : rf_Y} {dp i : Int} (hI : cx_I s) (hM : rf_MI nb ib s g) (hG : we_G E s g) (hn : wz_nn (vr_1 (.inner j q u f x))) (k3 : q.1 = 3) (hr : 0 ≤ q.2 ∧ q.2 < s.1 66 61) (hs : s.2.1 111 q.2.toNat ≠ 0) (hi : i.toNat = j) (hE : rf_EX nb ib s t) (ef : ∀ k, k = 58 ∨ k = 61 ∨ k = 79 ∨ k = 86 ∨ k = 89 → t.1 66 k = s.1 66 k) (ea : ∀ p, p = 107 ∨ p = 108 ∨ p = 118 ∨ p = 120 ∨ p = 121 ∨ p = 122 → t.2.1 p = s.2.1 p) (e119 : ∀ p : Nat, p ≠ q.2.toNat → t.2.1 119 p = s.2.1 119 p) (h : we_4 E Z P s (.inner j q u f x) y dp) : we_4 E Z P t (g.1 q.2) (rf_bh (g.2.1 q.2) (rf_row (rf_fm s q.2) (rf_vo s y i) (rf_aa s q.2).toNat)) dp := by
  obtain ⟨h1, w, P', ⟨h2, h3⟩, h4, h5⟩ := h
  have hg : ∀ m, vx_on (we_th E m) := fun m => ((hG trivial).1.2.1 m).1
  have eV := we_V_en (E := E) (t := t) (u := u) (f := f) (n := x) (y := y) (dp := dp) hI hM hG k3 (we_t_3 h1 k3) hs hi (ef 58 (by omega)) (fun p _ => by rw [ea 107 (by omega)])
  have hb := (hG trivial).1.1 q.2 hr.1 hr.2 hs
  have hrk := (hG trivial).2.2.2.1
  have e61 := ef 61 (by omega)
  have e86 := ef 86 (by omega)
  have e89 := ef 89 (by omega)
  have hac : ∀ z, wz_oc z (we_th E q.2) → z ∈ Z.1.map Prod.fst := fun z hz => by
    rw [← h4, we_W_acc (we_V_ok hI hG h1 hn y dp) (we_V_on hG h1 y dp), wz_go_mem]
    exact Or.inr ((we_V_oc hg k3).mpr hz)
  refine ⟨(vr_t_up hE (fun _ _ => rfl)).1 hb, ?_⟩
  rw [eV]
  refine ⟨w, fun m => P' m ∨ m = q.2, ⟨we_N_same (ef 79 (by omega)) e61 (fun p hp => ea p (by omega)) h2, ?_⟩, h4, fun _ => ?_⟩
  · unfold we_Sp
    rw [e86, ea 122 (by omega)]
    exact h3
  · obtain ⟨a, b⟩ := h5 trivial
    rw [e61, e89]
    refine ⟨a, fun c => ?_⟩
    obtain ⟨b1, b2, b3⟩ := b c
    refine ⟨b1, fun m hm => ?_, fun m m0 m1 hs' => ?_⟩
    · rcases hm with hm | hm
      · refine ⟨fun z hz => ?_, (b2 m hm).2⟩
        have r1 := (b2 m hm).1 q.2 (we_mt_3 k3)
        have r2 := hrk q.2 z hr.1 hr.2 hs hz
        omega
      · rw [hm]
        exact ⟨fun z hz => hrk q.2 z hr.1 hr.2 hs hz, Or.inr hac⟩
    · by_cases c2 : m = q.2
      · exact Or.inl (Or.inr c2)
      · rw [e119 m.toNat (by omega)] at hs'
        exact (b3 m m0 m1 hs').imp Or.inl id
/-- into a \ -/
theorem we_4_lam {E : we_E Ω} (hL : we_L E) {Z : we_A Ω} {P : Int → Prop} {s t : sx_S} {j : Nat} {q : Int × Int} {u : Unit} {f x : rf_N} {y : rf_Y} {dp v nb ib : Int} (h1 : 1 ≤ s.1 66 58) (k0 : q.1 = 0) (hE : rf_EX nb ib s t) (hv : v = s.1 66 58) (h58 : t.1 66 58 = s.1 66 58 + 1) (hd : ∀ j : Nat, (j : Int) < s.1 66 58 + 1 → t.2.1 107 j = if j = v.toNat then dp else s.2.1 107 j) (ef : ∀ k, k = 61 ∨ k = 79 ∨ k = 89 → t.1 66 k = s.1 66 k) (ea : ∀ p, p = 108 ∨ (118 ≤ p ∧ p ≤ 121) → t.2.1 p = s.2.1 p) (hS : ∀ o, we_Sp E s o → we_Sp E t ((92 :: 120 :: (E.1.2.1 dp ++ [46])).foldl (fun o c => E.1.1 c o) o)) (h : we_4 E Z P s (.inner j q u f x) y dp) : we_4 E Z P t f (rf_one q.2 v y) (dp + 1) := by
  obtain ⟨a, b⟩ := h
  have eV := we_V_lam (E := E) (t := t) (j := j) (u := u) (f := f) (x := x) (y := y) k0 h1 hv h58 hd
  rw [eV] at b
  refine ⟨(vr_t_up hE (fun _ _ => rfl)).1 (we_t_0 a k0), we_J_le (fun z hz => ?_) (fun m hm => ?_) (we_J_pt hL ef ea hS (fun w => we_lam 0 0 _ .leaf dp w) b)⟩
  · refine (wz_oc_in (j := 0) (q := (0, 0)) (u := ())).mpr (Or.inl ?_)
    rw [if_neg (by decide)]
    exact hz
  · rw [vr_1_in, vr_f_0 k0]
    exact Or.inr (Or.inl ⟨by omega, hm⟩)
/-- a head is put: then its ARGs -/
theorem we_4_hd {E : we_E Ω} (hL : we_L E) {Z : we_A Ω} {P : Int → Prop} {s t : sx_S} {j : Nat} {q : Int × Int} {u : Unit} {f x : rf_N} {y : rf_Y} {dp nb ib : Int} (h1 : 1 ≤ s.1 66 58) (k0 : q.1 = 1 ∨ q.1 = 2) (hc : q.1 = 1 → 0 ≤ q.2) (hE : rf_EX nb ib s t) (hP : we_PT E s t (if q.1 = 1 then E.1.2.2 q.2 else 120 :: E.1.2.1 (we_D s dp (rf_look y q.2)))) (h : we_4 E Z P s (.inner j q u f x) y dp) : we_5 E Z P t f y dp := by
  obtain ⟨a, b⟩ := h
  rw [we_V_rig k0] at b
  obtain ⟨_, hF, hf, _⟩ := id hP
  have eX := (we_V_eq (E := E) (A := f) (y := y) (dp := dp) (hf 58 rfl) h1 (fun p _ => by rw [(hF.same 107 rfl).2])).2
  refine ⟨(vr_t_up hE (fun _ _ => rfl)).2 (we_t_2 a k0), ?_⟩
  rw [eX]
  refine we_J_le (fun z hz => ?_) (fun m hm => ?_) (we_J_put hL hP (fun w => ?_) b)
  · refine (wz_oc_in (j := 0) (u := ())).mpr (Or.inl ?_)
    rw [if_neg (fun c => ?_)]
    · exact hz
    · obtain ⟨c1, c2⟩ := c
      have c1' : q.1 = 1 := c1
      have c2' : (if q.1 = 2 then we_D s dp (rf_look y q.2) else q.2) < 0 := c2
      rw [if_neg (by omega)] at c2'
      have := hc c1'
      omega
  · rw [vr_1_in, vr_f_2 k0]
    exact Or.inr (Or.inl ⟨by omega, hm⟩)
  · rcases k0 with k0 | k0
    · have e1 : (if q.1 = 2 then we_D s dp (rf_look y q.2) else q.2) = q.2 := if_neg (by omega)
      rw [e1, if_pos k0, k0]
      exact we_con 0 q.2 _ .leaf (hc k0) dp w
    · have e1 : (if q.1 = 2 then we_D s dp (rf_look y q.2) else q.2) = we_D s dp (rf_look y q.2) := if_pos k0
      rw [e1, if_neg (by omega), k0]
      exact we_var 0 _ _ .leaf dp w
theorem we_5_0 {E : we_E Ω} {Z : we_A Ω} {P : Int → Prop} {s : sx_S} {y : rf_Y} {dp : Int} (h : we_5 E Z P s .leaf y dp) : we_Z E Z P s := we_J_Z (fun _ => rfl) h.2
/-- a blank -/
theorem we_5_6 {E : we_E Ω} (hL : we_L E) {Z : we_A Ω} {P : Int → Prop} {s t : sx_S} {g : rf_Gh} {j : Nat} {q : Int × Int} {u : Unit} {f x : rf_N} {y : rf_Y} {dp nb ib : Int} (hG : we_G E s g) (hE : rf_EX nb ib s t) (hP : we_PT E s t [32]) (h : we_5 E Z P s (.inner j q u f x) y dp) : we_6a E Z P t (.inner j q u f x) y dp := by
  obtain ⟨a, b⟩ := h
  obtain ⟨⟨_, GS⟩, _, _, _, _, h1, _⟩ := hG trivial
  have hg : ∀ m, vx_on (we_th E m) := fun m => (GS.1 m).1
  obtain ⟨_, hF, hf, _⟩ := id hP
  have e := fun A => we_V_eq (E := E) (A := A) (y := y) (dp := dp) (hf 58 rfl) h1 (fun p _ => by rw [(hF.same 107 rfl).2])
  refine ⟨(vr_t_up hE (fun _ _ => rfl)).2 a, ?_⟩
  rw [(e _).1, (e _).2, (e _).2]
  refine we_J_put hL hP (fun w => ?_) b
  rw [we_X_c hg]
  exact (we_w_sb (we_V_on hG (we_r_c a).1 y dp) dp w).2
theorem we_gv_if {E : we_E Ω} {v : rf_N} {o : Int → we_A Ω → we_A Ω} {dp : Int} {w : we_A Ω} : (we_bk v → we_gv E.1.1 v o dp w = we_b E [41] (o dp (we_b E [40] w))) ∧ (¬ we_bk v → we_gv E.1.1 v o dp w = o dp w) := ⟨fun c => if_pos c, fun c => if_neg c⟩
/-- a bracket, or none -/
theorem we_6_b {E : we_E Ω} (hL : we_L E) {Z : we_A Ω} {P : Int → Prop} {s t : sx_S} {f : rf_N} {y : rf_Y} {dp x7 nb ib : Int} (h1 : 1 ≤ s.1 66 58) (h7 : x7 ≠ 0 ↔ we_bk (we_V E s f y dp)) (hE : rf_EX nb ib s t) (hP : (x7 = 0 ∧ t = s) ∨ (x7 ≠ 0 ∧ we_PT E s t [40])) (h : we_6a E Z P s f y dp) : we_6b E Z P t f y dp x7 := by
  obtain ⟨a, b⟩ := h
  rcases hP with ⟨c, rfl⟩ | ⟨c, hP⟩
  · refine ⟨a, we_J_k (fun w => ?_) b⟩
    rw [we_gv_if.2 (fun z => h7.mpr z c)]
    unfold we_c7
    rw [if_pos c]
  · obtain ⟨_, hF, hf, _⟩ := id hP
    have e := fun A => we_V_eq (E := E) (A := A) (y := y) (dp := dp) (hf 58 rfl) h1 (fun p _ => by rw [(hF.same 107 rfl).2])
    refine ⟨(vr_t_up hE (fun _ _ => rfl)).2 a, ?_⟩
    rw [(e _).1, (e _).2, (e _).2]
    refine we_J_put hL hP (fun w => ?_) b
    rw [we_gv_if.1 (h7.mp c)]
    unfold we_c7
    rw [if_neg c]
/-- the ARG itself: what the call needs, and what it leaves -/
theorem we_6_w {E : we_E Ω} {Z : we_A Ω} {P : Int → Prop} {s : sx_S} {g : rf_Gh} {j : Nat} {q : Int × Int} {u : Unit} {f x : rf_N} {y : rf_Y} {dp x7 : Int} (hG : we_G E s g) (h : we_6b E Z P s (.inner j q u f x) y dp x7) : ∃ (Z1 : we_A Ω) (P1 : Int → Prop), we_4 E Z1 P1 s (.inner j q u f x) y dp ∧ ∀ (t t' : sx_S) (nb ib : Int), rf_EX nb ib s t' → we_Z E Z1 P1 t → t.1 66 89 = s.1 66 89 → (∀ k, k = 61 ∨ k = 79 ∨ k = 86 ∨ k = 89 → t'.1 66 k = t.1 66 k) → (∀ p, p = 108 ∨ (118 ≤ p ∧ p ≤ 122) → t'.2.1 p = t.2.1 p) → t'.1 66 58 = s.1 66 58 → (∀ p : Nat, (p : Int) < s.1 66 58 → t'.2.1 107 p = s.2.1 107 p) → we_6c E Z P t' (.inner j q u f x) y dp x7 := by
  obtain ⟨a, w, P', ⟨b1, b2⟩, b3, b4⟩ := h
  obtain ⟨⟨_, GS⟩, _, _, _, _, h1, _⟩ := hG trivial
  have hg : ∀ m, vx_on (we_th E m) := fun m => (GS.1 m).1
  obtain ⟨c1, c2⟩ := b4 trivial
  have hoc : ∀ z, wz_oc z (we_X E s (.inner j q u f x) y dp) ↔ wz_oc z (we_V E s (.inner j q u f x) y dp) ∨ wz_oc z (we_X E s x y dp) := fun z => by
    rw [we_X_c hg, wz_sb_oc (we_V_on hG (we_r_c a).1 y dp)]
  have hmt : ∀ m, vx_mt m (vr_c (.inner j q u f x)) ↔ vx_mt m (vr_1 (.inner j q u f x)) ∨ vx_mt m (vr_c x) := fun m => by
    rw [vr_c_in, vr_1_in]
    constructor
    · rintro (h | h | h)
      · exact Or.inl (Or.inl h)
      · exact Or.inl (Or.inr (Or.inl h))
      · exact Or.inr h
    · rintro ((h | h | h) | h)
      · exact Or.inl h
      · exact Or.inr (Or.inl h)
      · exact h.elim
      · exact Or.inr (Or.inr h)
  refine ⟨(we_W E (we_V E s (.inner j q u f x) y dp)).1 dp w, P', ⟨(we_r_c a).1, w, P', ⟨b1, b2⟩, rfl, fun _ => ⟨fun c z hz => c1 c z ((hoc z).mpr (Or.inl hz)), fun c => ⟨(c2 c).1, fun m hm => ⟨fun z hz => ((c2 c).2.1 m hm).1 z ((hmt z).mpr (Or.inl hz)), Or.inl hm⟩, (c2 c).2.2⟩⟩⟩, fun t t' nb ib hE hZ e89 ef ea e58 e107 => ?_⟩
  obtain ⟨⟨z1, z2⟩, z3⟩ := hZ trivial
  have e := fun A => we_V_eq (E := E) (A := A) (y := y) (dp := dp) e58 h1 e107
  refine ⟨(vr_t_up hE (fun _ _ => rfl)).2 a, ?_⟩
  rw [(e _).2]
  refine we_J_same ef ea ⟨(we_W E (we_V E s (.inner j q u f x) y dp)).1 dp w, P', ⟨z1, z2⟩, b3, fun _ => ⟨fun c z hz => ?_, fun c => ⟨(z3 c).1, fun m hm => ⟨fun z hz => ((c2 (by rw [← e89]; exact c)).2.1 m hm).1 z ((hmt z).mpr (Or.inr hz)), ((c2 (by rw [← e89]; exact c)).2.1 m hm).2⟩, (z3 c).2⟩⟩⟩
  have hz' := c1 (by rw [← e89]; exact c) z ((hoc z).mpr (Or.inr hz))
  exact we_W_sub _ _ hz'
/-- the bracket behind it -/
theorem we_6_d {E : we_E Ω} (hL : we_L E) {Z : we_A Ω} {P : Int → Prop} {s t : sx_S} {f : rf_N} {y : rf_Y} {dp x7 nb ib : Int} (h1 : 1 ≤ s.1 66 58) (hE : rf_EX nb ib s t) (hP : (x7 = 0 ∧ t = s) ∨ (x7 ≠ 0 ∧ we_PT E s t [41])) (h : we_6c E Z P s f y dp x7) : we_6d E Z P t f y dp := by
  obtain ⟨a, b⟩ := h
  rcases hP with ⟨c, rfl⟩ | ⟨c, hP⟩
  · refine ⟨a, we_J_k (fun w => ?_) b⟩
    unfold we_c7
    rw [if_pos c]
  · obtain ⟨_, hF, hf, _⟩ := id hP
    have e := fun A => we_V_eq (E := E) (A := A) (y := y) (dp := dp) (hf 58 rfl) h1 (fun p _ => by rw [(hF.same 107 rfl).2])
    refine ⟨(vr_t_up hE (fun _ _ => rfl)).2 a, ?_⟩
    rw [(e _).2]
    refine we_J_put hL hP (fun w => ?_) b
    unfold we_c7
    rw [if_neg c]
theorem we_6_5 {E : we_E Ω} {Z : we_A Ω} {P : Int → Prop} {s : sx_S} {j : Nat} {q : Int × Int} {u : Unit} {f x : rf_N} {y : rf_Y} {dp : Int} (h : we_6d E Z P s (.inner j q u f x) y dp) : we_5 E Z P s x y dp := ⟨(we_r_c h.1).2, h.2⟩
end
end
