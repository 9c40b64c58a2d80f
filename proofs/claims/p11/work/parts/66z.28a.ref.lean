section
/-! ===== the reference: solve, number, writeUnknown, papers and what calls them, piece by piece ===== -/
theorem w_wunk {CALL : sx_Ca} {sL : Nat} {sx : Nat → Int32} {Q : Nat → sx_L → sx_S → Prop} {R : Int → sx_S → Prop} {s : sx_S} {k : Int} {PM : Int → sx_S → Prop} (hM : ∀ K : Int → sx_S → Prop, (∀ z t, PM z t → K z t) → CALL 178 [.inr (.inl 66), .inl 3, .inl k] s K) (hMI : ∀ z t, PM z t → cx_I t ∧ (0 ≤ z ∧ z ≤ 59999)) (hQ : ∀ z t, PM z t → ∀ w : Int, w = t.1 66 56 → Q 22 [(0, .inr (.inl 66)), (1, .inl k), (2, .inl z), (3, .inl 0), (4, .inl 0)] (t.1, sx_ua t.2.1 104 z.toNat w, t.2.2)) : sx_wp true sL sx eX12_writeUnknown CALL [(22, [0, 1, 2, 3, 4]), (74, [0, 1, 2, 3, 4, 5]), (90, [0, 2, 3])] Q R 400 0 (sx_argsF 0 [.inr (.inl 66), .inl k]) [] s := by
  repeat' (first | (with_reducible intro _) | (refine And.intro ?_ ?_) | (refine hQ _ _ (by assumption) _ ?_) | (refine hM _ ?_))
  all_goals (try dsimp only)
  all_goals (first | trivial | assumption | omega | (exact (hMI _ _ (by assumption)).1) | (have hmi := hMI _ _ (by assumption); omega) | skip)
theorem w_wunk_22 {CALL : sx_Ca} {sL : Nat} {sx : Nat → Int32} {Q : Nat → sx_L → sx_S → Prop} {R : Int → sx_S → Prop} {s : sx_S} {k n dp i : Int} {PV : Int → sx_S → Prop} (hI : cx_I s) (pk : 0 ≤ k ∧ k ≤ 2999) (q : 0 ≤ i ∧ i ≤ 4) (h109 : i < s.2.1 108 k.toNat → s.2.1 109 k.toNat + i ≤ 19999) (hE : s.2.1 108 k.toNat ≤ i → Q 90 [(0, .inr (.inl 66)), (2, .inl n), (3, .inl dp)] s) (hV : i < s.2.1 108 k.toNat → ∀ u : Int, u = s.2.1 110 (s.2.1 109 k.toNat + i).toNat → ∀ K : Int → sx_S → Prop, (∀ z t, PV z t → K z t) → CALL 167 [.inr (.inl 66), .inl u] s K) (hVI : ∀ z t, PV z t → cx_I t ∧ (0 ≤ t.1 66 56 ∧ t.1 66 56 ≤ 119990) ∧ (0 ≤ z ∧ z ≤ 399999)) (hQ : i < s.2.1 108 k.toNat → ∀ z t, PV z t → ∀ m w : Int, m = t.1 66 56 → w = t.1 66 56 + 1 → Q 74 [(0, .inr (.inl 66)), (1, .inl k), (2, .inl n), (3, .inl dp), (4, .inl i), (5, .inl z)] (sx_uf t.1 66 56 w, sx_ua t.2.1 105 m.toNat z, t.2.2)) : sx_wp true sL sx eX12_writeUnknown CALL [(22, [0, 1, 2, 3, 4]), (74, [0, 1, 2, 3, 4, 5]), (90, [0, 2, 3])] Q R 400 22 [(0, .inr (.inl 66)), (1, .inl k), (2, .inl n), (3, .inl dp), (4, .inl i)] [] s := by
  have h108 := hI.arr 108 (by decide) rfl k.toNat
  have h109b := hI.arr 109 (by decide) rfl k.toNat
  have e2 : i ≤ 4 → sx_w true (s.2.1 109 k.toNat + i) = s.2.1 109 k.toNat + i := fun _ => rf_wid (by omega) (by omega)
  repeat' (first | (with_reducible intro _) | (refine And.intro ?_ ?_) | (refine hE ?_) | (refine hQ ?_ _ _ (by assumption) _ _ ?_ ?_) | (refine hV ?_ _ ?_ _ ?_))
  all_goals (try dsimp only)
  all_goals (first | trivial | assumption | omega | (dsimp only at *; omega) | (exact (hVI _ _ (by assumption)).1) | (have hti := hVI _ _ (by assumption); dsimp only at *; first | omega | (simp only [sx_w_t] at *; omega) | (subst_vars; omega) | (exact cx_I_ua rfl rfl hti.1 (by omega) (by omega))) | (subst_vars; dsimp only at *; rw [e2 (by omega)]; have hq := h109 (by assumption); omega) | (subst_vars; dsimp only at *; rw [e2 (by omega)]) | (exact Eq.trans (by assumption) (by dsimp only; rw [e2 (by omega)])) | (subst_vars; dsimp only at *; rw [e2 (by omega)] at *; first | assumption | omega) | (have hq := h109 (by assumption); omega) | (simp only [sx_w_t] at *; omega) | (subst_vars; omega) | (subst_vars; assumption) | (subst_vars; dsimp only at *; omega) | (subst_vars; dsimp only at *; simp only [sx_w_t] at *; omega) | skip)
theorem w_wunk_74 {CALL : sx_Ca} {sL : Nat} {sx : Nat → Int32} {Q : Nat → sx_L → sx_S → Prop} {R : Int → sx_S → Prop} {s : sx_S} {k n dp i v : Int} {PL : sx_S → Prop} (hdp : 0 ≤ dp ∧ dp ≤ 1000) (q : 0 ≤ i ∧ i ≤ 3) (hL : ∀ K : Int → sx_S → Prop, (∀ z t, PL t → K z t) → CALL 206 [.inr (.inl 66), .inl v, .inl dp] s K) (hQ : ∀ t, PL t → ∀ a b : Int, a = dp + 1 → b = i + 1 → Q 22 [(0, .inr (.inl 66)), (1, .inl k), (2, .inl n), (3, .inl a), (4, .inl b)] t) : sx_wp true sL sx eX12_writeUnknown CALL [(22, [0, 1, 2, 3, 4]), (74, [0, 1, 2, 3, 4, 5]), (90, [0, 2, 3])] Q R 400 74 [(0, .inr (.inl 66)), (1, .inl k), (2, .inl n), (3, .inl dp), (4, .inl i), (5, .inl v)] [] s := by
  repeat' (first | (with_reducible intro _) | (refine And.intro ?_ ?_) | (refine hQ _ (by assumption) _ _ ?_ ?_) | (refine hL _ ?_))
  all_goals (try dsimp only)
  all_goals (first | trivial | assumption | omega | (dsimp only at *; omega) | (simp only [sx_w_t] at *; omega) | (subst_vars; omega) | (subst_vars; assumption) | (subst_vars; dsimp only at *; omega) | (subst_vars; dsimp only at *; simp only [sx_w_t] at *; omega) | skip)
theorem w_wunk_90 {CALL : sx_Ca} {sL : Nat} {sx : Nat → Int32} {Q : Nat → sx_L → sx_S → Prop} {R : Int → sx_S → Prop} {s : sx_S} {n dp : Int} {PW : sx_S → Prop} (hW : ∀ K : Int → sx_S → Prop, (∀ z t, PW t → K z t) → CALL 209 [.inr (.inl 66), .inl n, .inl (-1), .inl dp] s K) (hK : ∀ t, PW t → R 0 t) : sx_wp true sL sx eX12_writeUnknown CALL [(22, [0, 1, 2, 3, 4]), (74, [0, 1, 2, 3, 4, 5]), (90, [0, 2, 3])] Q R 400 90 [(0, .inr (.inl 66)), (2, .inl n), (3, .inl dp)] [] s := by
  repeat' (first | (with_reducible intro _) | (refine And.intro ?_ ?_) | (refine hK _ (by assumption)) | (refine hW _ ?_))
  all_goals (try dsimp only)
  all_goals (first | trivial | assumption | omega | (dsimp only at *; omega) | (simp only [sx_w_t] at *; omega) | (subst_vars; omega) | (subst_vars; assumption) | (subst_vars; dsimp only at *; omega) | (subst_vars; dsimp only at *; simp only [sx_w_t] at *; omega) | skip)

theorem w_number {CALL : sx_Ca} {sL : Nat} {sx : Nat → Int32} {Q : Nat → sx_L → sx_S → Prop} {R : Int → sx_S → Prop} {s : sx_S} (hQ : Q 12 [(0, .inr (.inl 66)), (1, .inl 0)] (sx_uf (sx_uf s.1 66 79 0) 66 83 0, s.2)) : sx_wp true sL sx eX12_number CALL [(12, [0, 1]), (40, [0]), (54, [0, 1])] Q R 400 0 (sx_argsF 0 [.inr (.inl 66)]) [] s := by
  repeat' (first | (with_reducible intro _) | (refine And.intro ?_ ?_) | (exact hQ))
  all_goals (try dsimp only)
  repeat' (first | (with_reducible assumption) | ((with_reducible (change cx_I (sx_uf _ _ _ _, _))); refine cx_I_uf rfl rfl ?_ ?_ ?_) | ((with_reducible (change cx_I (_, sx_ua _ _ _ _, _))); refine cx_I_ua rfl rfl ?_ ?_ ?_) | ((with_reducible (change cx_I (_, sx_ua _ 16 _ _, _))); refine cx_I_ari ?_ ?_ ?_) | ((with_reducible (change cx_I (sx_uf _ 11 6 _, _))); refine cx_I_ufA rfl ?_ ?_ ?_ ?_) | (with_reducible exact cx_F_refl _ _) | ((with_reducible (change cx_F _ _ (sx_uf _ _ _ _, _))); refine cx_F_uf rfl ?_) | ((with_reducible (change cx_F _ _ (_, sx_ua _ _ _ _, _))); refine cx_F_ua rfl ?_) | ((with_reducible (change cx_I (_, sx_cpy _ _ _ _ _ _, _))); refine cx_I_cpy rfl rfl rfl (by decide) ?_) | ((with_reducible (change cx_F _ _ (_, sx_cpy _ _ _ _ _ _, _))); refine cx_F_cpy rfl ?_) | ((with_reducible (change cx_F _ _ _)); refine cx_F_step (by assumption) rfl ?_) | ((with_reducible (change rf_f _ _ (sx_uf _ 66 _ _, _))); refine rf_f_uf rfl ?_) | ((with_reducible (change rf_f _ _ _)); exact (fun _ _ => rfl)) | ((with_reducible (change rf_f _ _ (_, sx_ua _ _ _ _, _))); refine rf_f_ua ?_) | ((with_reducible (change rf_f _ _ _)); assumption) | ((with_reducible (change rf_f _ _ _)); refine rf_f_step (by assumption) rfl ?_) | ((with_reducible (change rf_f _ _ _)); refine rf_f_F (by assumption) rfl ?_) | fail)
  all_goals (first | trivial | assumption | omega | (dsimp only at *; omega) | (simp only [sx_w_t] at *; omega) | (subst_vars; omega) | (subst_vars; assumption) | (subst_vars; dsimp only at *; omega) | (subst_vars; dsimp only at *; simp only [sx_w_t] at *; omega) | (simp only [sx_uf_if, sx_ua_if, sx_w_t, true_and, and_true, and_self, and_false, false_and, if_true, if_false, reduceIte] at *; omega) | (subst_vars; simp only [sx_uf_if, sx_ua_if, sx_w_t, true_and, and_true, and_self, and_false, false_and, if_true, if_false, reduceIte] at *; omega) | skip)
theorem w_number_12 {CALL : sx_Ca} {sL : Nat} {sx : Nat → Int32} {Q : Nat → sx_L → sx_S → Prop} {R : Int → sx_S → Prop} {s : sx_S} {m : Int} (hI : cx_I s) (h61 : s.1 66 61 ≤ 2999) (q : 0 ≤ m ∧ m ≤ 2999) (hE : s.1 66 61 ≤ m → Q 40 [(0, .inr (.inl 66))] s) (hQ : m < s.1 66 61 → ∀ y : Int, y = m + 1 → Q 12 [(0, .inr (.inl 66)), (1, .inl y)] (s.1, sx_ua (sx_ua s.2.1 118 m.toNat (-1)) 119 m.toNat 0, s.2.2)) : sx_wp true sL sx eX12_number CALL [(12, [0, 1]), (40, [0]), (54, [0, 1])] Q R 400 12 [(0, .inr (.inl 66)), (1, .inl m)] [] s := by
  repeat' (first | (with_reducible intro _) | (refine And.intro ?_ ?_) | (refine hE ?_) | (refine hQ ?_ _ ?_))
  all_goals (try dsimp only)
  repeat' (first | (with_reducible assumption) | ((with_reducible (change cx_I (sx_uf _ _ _ _, _))); refine cx_I_uf rfl rfl ?_ ?_ ?_) | ((with_reducible (change cx_I (_, sx_ua _ _ _ _, _))); refine cx_I_ua rfl rfl ?_ ?_ ?_) | ((with_reducible (change cx_I (_, sx_ua _ 16 _ _, _))); refine cx_I_ari ?_ ?_ ?_) | ((with_reducible (change cx_I (sx_uf _ 11 6 _, _))); refine cx_I_ufA rfl ?_ ?_ ?_ ?_) | (with_reducible exact cx_F_refl _ _) | ((with_reducible (change cx_F _ _ (sx_uf _ _ _ _, _))); refine cx_F_uf rfl ?_) | ((with_reducible (change cx_F _ _ (_, sx_ua _ _ _ _, _))); refine cx_F_ua rfl ?_) | ((with_reducible (change cx_I (_, sx_cpy _ _ _ _ _ _, _))); refine cx_I_cpy rfl rfl rfl (by decide) ?_) | ((with_reducible (change cx_F _ _ (_, sx_cpy _ _ _ _ _ _, _))); refine cx_F_cpy rfl ?_) | ((with_reducible (change cx_F _ _ _)); refine cx_F_step (by assumption) rfl ?_) | ((with_reducible (change rf_f _ _ (sx_uf _ 66 _ _, _))); refine rf_f_uf rfl ?_) | ((with_reducible (change rf_f _ _ _)); exact (fun _ _ => rfl)) | ((with_reducible (change rf_f _ _ (_, sx_ua _ _ _ _, _))); refine rf_f_ua ?_) | ((with_reducible (change rf_f _ _ _)); assumption) | ((with_reducible (change rf_f _ _ _)); refine rf_f_step (by assumption) rfl ?_) | ((with_reducible (change rf_f _ _ _)); refine rf_f_F (by assumption) rfl ?_) | fail)
  all_goals (first | trivial | assumption | omega | (dsimp only at *; omega) | (simp only [sx_w_t] at *; omega) | (subst_vars; omega) | (subst_vars; assumption) | (subst_vars; dsimp only at *; omega) | (subst_vars; dsimp only at *; simp only [sx_w_t] at *; omega) | (simp only [sx_uf_if, sx_ua_if, sx_w_t, true_and, and_true, and_self, and_false, false_and, if_true, if_false, reduceIte] at *; omega) | (subst_vars; simp only [sx_uf_if, sx_ua_if, sx_w_t, true_and, and_true, and_self, and_false, false_and, if_true, if_false, reduceIte] at *; omega) | skip)
theorem w_number_40 {CALL : sx_Ca} {sL : Nat} {sx : Nat → Int32} {Q : Nat → sx_L → sx_S → Prop} {R : Int → sx_S → Prop} {s : sx_S} (hQ : Q 54 [(0, .inr (.inl 66)), (1, .inl 0)] (sx_uf (sx_uf s.1 66 86 4001) 66 89 1, s.2)) : sx_wp true sL sx eX12_number CALL [(12, [0, 1]), (40, [0]), (54, [0, 1])] Q R 400 40 [(0, .inr (.inl 66))] [] s := by
  repeat' (first | (with_reducible intro _) | (refine And.intro ?_ ?_) | (exact hQ))
  all_goals (try dsimp only)
  repeat' (first | (with_reducible assumption) | ((with_reducible (change cx_I (sx_uf _ _ _ _, _))); refine cx_I_uf rfl rfl ?_ ?_ ?_) | ((with_reducible (change cx_I (_, sx_ua _ _ _ _, _))); refine cx_I_ua rfl rfl ?_ ?_ ?_) | ((with_reducible (change cx_I (_, sx_ua _ 16 _ _, _))); refine cx_I_ari ?_ ?_ ?_) | ((with_reducible (change cx_I (sx_uf _ 11 6 _, _))); refine cx_I_ufA rfl ?_ ?_ ?_ ?_) | (with_reducible exact cx_F_refl _ _) | ((with_reducible (change cx_F _ _ (sx_uf _ _ _ _, _))); refine cx_F_uf rfl ?_) | ((with_reducible (change cx_F _ _ (_, sx_ua _ _ _ _, _))); refine cx_F_ua rfl ?_) | ((with_reducible (change cx_I (_, sx_cpy _ _ _ _ _ _, _))); refine cx_I_cpy rfl rfl rfl (by decide) ?_) | ((with_reducible (change cx_F _ _ (_, sx_cpy _ _ _ _ _ _, _))); refine cx_F_cpy rfl ?_) | ((with_reducible (change cx_F _ _ _)); refine cx_F_step (by assumption) rfl ?_) | ((with_reducible (change rf_f _ _ (sx_uf _ 66 _ _, _))); refine rf_f_uf rfl ?_) | ((with_reducible (change rf_f _ _ _)); exact (fun _ _ => rfl)) | ((with_reducible (change rf_f _ _ (_, sx_ua _ _ _ _, _))); refine rf_f_ua ?_) | ((with_reducible (change rf_f _ _ _)); assumption) | ((with_reducible (change rf_f _ _ _)); refine rf_f_step (by assumption) rfl ?_) | ((with_reducible (change rf_f _ _ _)); refine rf_f_F (by assumption) rfl ?_) | fail)
  all_goals (first | trivial | assumption | omega | (dsimp only at *; omega) | (simp only [sx_w_t] at *; omega) | (subst_vars; omega) | (subst_vars; assumption) | (subst_vars; dsimp only at *; omega) | (subst_vars; dsimp only at *; simp only [sx_w_t] at *; omega) | (simp only [sx_uf_if, sx_ua_if, sx_w_t, true_and, and_true, and_self, and_false, false_and, if_true, if_false, reduceIte] at *; omega) | (subst_vars; simp only [sx_uf_if, sx_ua_if, sx_w_t, true_and, and_true, and_self, and_false, false_and, if_true, if_false, reduceIte] at *; omega) | skip)
theorem w_number_54 {CALL : sx_Ca} {sL : Nat} {sx : Nat → Int32} {Q : Nat → sx_L → sx_S → Prop} {R : Int → sx_S → Prop} {s : sx_S} {k : Int} {PW : sx_S → Prop} (hI : cx_I s) (q : 0 ≤ k ∧ k ≤ 5) (hE : s.1 66 45 ≤ k → R 0 (sx_uf s.1 66 89 0, s.2)) (hW : k < s.1 66 45 → ∀ K : Int → sx_S → Prop, (∀ z t, PW t → K z t) → CALL 207 [.inr (.inl 66), .inl k] s K) (hQ : k < s.1 66 45 → ∀ t, PW t → ∀ y : Int, y = k + 1 → Q 54 [(0, .inr (.inl 66)), (1, .inl y)] t) : sx_wp true sL sx eX12_number CALL [(12, [0, 1]), (40, [0]), (54, [0, 1])] Q R 400 54 [(0, .inr (.inl 66)), (1, .inl k)] [] s := by
  repeat' (first | (with_reducible intro _) | (refine And.intro ?_ ?_) | (refine hE ?_) | (refine hQ ?_ _ (by assumption) _ ?_) | (refine hW ?_ _ ?_))
  all_goals (try dsimp only)
  repeat' (first | (with_reducible assumption) | ((with_reducible (change cx_I (sx_uf _ _ _ _, _))); refine cx_I_uf rfl rfl ?_ ?_ ?_) | ((with_reducible (change cx_I (_, sx_ua _ _ _ _, _))); refine cx_I_ua rfl rfl ?_ ?_ ?_) | ((with_reducible (change cx_I (_, sx_ua _ 16 _ _, _))); refine cx_I_ari ?_ ?_ ?_) | ((with_reducible (change cx_I (sx_uf _ 11 6 _, _))); refine cx_I_ufA rfl ?_ ?_ ?_ ?_) | (with_reducible exact cx_F_refl _ _) | ((with_reducible (change cx_F _ _ (sx_uf _ _ _ _, _))); refine cx_F_uf rfl ?_) | ((with_reducible (change cx_F _ _ (_, sx_ua _ _ _ _, _))); refine cx_F_ua rfl ?_) | ((with_reducible (change cx_I (_, sx_cpy _ _ _ _ _ _, _))); refine cx_I_cpy rfl rfl rfl (by decide) ?_) | ((with_reducible (change cx_F _ _ (_, sx_cpy _ _ _ _ _ _, _))); refine cx_F_cpy rfl ?_) | ((with_reducible (change cx_F _ _ _)); refine cx_F_step (by assumption) rfl ?_) | ((with_reducible (change rf_f _ _ (sx_uf _ 66 _ _, _))); refine rf_f_uf rfl ?_) | ((with_reducible (change rf_f _ _ _)); exact (fun _ _ => rfl)) | ((with_reducible (change rf_f _ _ (_, sx_ua _ _ _ _, _))); refine rf_f_ua ?_) | ((with_reducible (change rf_f _ _ _)); assumption) | ((with_reducible (change rf_f _ _ _)); refine rf_f_step (by assumption) rfl ?_) | ((with_reducible (change rf_f _ _ _)); refine rf_f_F (by assumption) rfl ?_) | fail)
  all_goals (first | trivial | assumption | omega | (dsimp only at *; omega) | (simp only [sx_w_t] at *; omega) | (subst_vars; omega) | (subst_vars; assumption) | (subst_vars; dsimp only at *; omega) | (subst_vars; dsimp only at *; simp only [sx_w_t] at *; omega) | (simp only [sx_uf_if, sx_ua_if, sx_w_t, true_and, and_true, and_self, and_false, false_and, if_true, if_false, reduceIte] at *; omega) | (subst_vars; simp only [sx_uf_if, sx_ua_if, sx_w_t, true_and, and_true, and_self, and_false, false_and, if_true, if_false, reduceIte] at *; omega) | skip)

theorem w_papers {CALL : sx_Ca} {sL : Nat} {sx : Nat → Int32} {Q : Nat → sx_L → sx_S → Prop} {R : Int → sx_S → Prop} {s : sx_S} {k eq si : Int} {PW : sx_S → Prop} (hI : cx_I s) (q : 0 ≤ k ∧ k ≤ 4) (hq : eq = 0 ∨ (eq = 1 ∧ k ≤ 3)) (psi : -2147483648 ≤ si ∧ si ≤ 2147483647) (hW1 : eq ≠ 0 → si = 0 → ∀ u : Int, u = s.2.1 98 k.toNat → ∀ K : Int → sx_S → Prop, (∀ z t, PW t → K z t) → CALL 209 [.inr (.inl 66), .inl u, .inl (-1), .inl 0] (sx_uf s.1 66 86 0, s.2) K) (hW2 : eq ≠ 0 → si ≠ 0 → ∀ u : Int, u = s.2.1 99 k.toNat → ∀ K : Int → sx_S → Prop, (∀ z t, PW t → K z t) → CALL 209 [.inr (.inl 66), .inl u, .inl (-1), .inl 0] (sx_uf s.1 66 86 0, s.2) K) (hU : eq = 0 → ∀ K : Int → sx_S → Prop, (∀ z t, PW t → K z t) → CALL 207 [.inr (.inl 66), .inl k] (sx_uf s.1 66 86 0, s.2) K) (hQ : ∀ t, PW t → ∀ a b c e : Int, a = s.1 66 50 → b = s.1 66 56 → c = s.1 66 58 → e = s.1 66 71 → Q 66 [(0, .inr (.inl 66)), (4, .inl a), (5, .inl b), (6, .inl c), (7, .inl e)] t) : sx_wp true sL sx eX12_papers CALL [(66, [0, 4, 5, 6, 7])] Q R 400 0 (sx_argsF 0 [.inr (.inl 66), .inl k, .inl eq, .inl si]) [] s := by
  repeat' (first | (with_reducible intro _) | (refine And.intro ?_ ?_) | (refine hQ _ (by assumption) _ _ _ _ ?_ ?_ ?_ ?_) | (refine hU ?_ _ ?_) | (refine hW1 ?_ (by assumption) _ ?_ _ ?_) | (refine hW2 ?_ (by assumption) _ ?_ _ ?_))
  all_goals (try dsimp only)
  repeat' (first | (with_reducible assumption) | ((with_reducible (change cx_I (sx_uf _ _ _ _, _))); refine cx_I_uf rfl rfl ?_ ?_ ?_) | ((with_reducible (change cx_I (_, sx_ua _ _ _ _, _))); refine cx_I_ua rfl rfl ?_ ?_ ?_) | ((with_reducible (change cx_I (_, sx_ua _ 16 _ _, _))); refine cx_I_ari ?_ ?_ ?_) | ((with_reducible (change cx_I (sx_uf _ 11 6 _, _))); refine cx_I_ufA rfl ?_ ?_ ?_ ?_) | (with_reducible exact cx_F_refl _ _) | ((with_reducible (change cx_F _ _ (sx_uf _ _ _ _, _))); refine cx_F_uf rfl ?_) | ((with_reducible (change cx_F _ _ (_, sx_ua _ _ _ _, _))); refine cx_F_ua rfl ?_) | ((with_reducible (change cx_I (_, sx_cpy _ _ _ _ _ _, _))); refine cx_I_cpy rfl rfl rfl (by decide) ?_) | ((with_reducible (change cx_F _ _ (_, sx_cpy _ _ _ _ _ _, _))); refine cx_F_cpy rfl ?_) | ((with_reducible (change cx_F _ _ _)); refine cx_F_step (by assumption) rfl ?_) | ((with_reducible (change rf_f _ _ (sx_uf _ 66 _ _, _))); refine rf_f_uf rfl ?_) | ((with_reducible (change rf_f _ _ _)); exact (fun _ _ => rfl)) | ((with_reducible (change rf_f _ _ (_, sx_ua _ _ _ _, _))); refine rf_f_ua ?_) | ((with_reducible (change rf_f _ _ _)); assumption) | ((with_reducible (change rf_f _ _ _)); refine rf_f_step (by assumption) rfl ?_) | ((with_reducible (change rf_f _ _ _)); refine rf_f_F (by assumption) rfl ?_) | fail)
  all_goals (first | trivial | assumption | omega | (dsimp only at *; omega) | (simp only [sx_w_t] at *; omega) | (subst_vars; omega) | (subst_vars; assumption) | (subst_vars; dsimp only at *; omega) | (subst_vars; dsimp only at *; simp only [sx_w_t] at *; omega) | (simp only [sx_uf_if, sx_ua_if, sx_w_t, true_and, and_true, and_self, and_false, false_and, if_true, if_false, reduceIte] at *; omega) | (subst_vars; simp only [sx_uf_if, sx_ua_if, sx_w_t, true_and, and_true, and_self, and_false, false_and, if_true, if_false, reduceIte] at *; omega) | skip)
theorem w_size {CALL : sx_Ca} {sL : Nat} {sx : Nat → Int32} {Q : Nat → sx_L → sx_S → Prop} {R : Int → sx_S → Prop} {s : sx_S} {k : Int} {PP : Int → sx_S → Prop} (hI : cx_I s) (pk : -2147483648 ≤ k ∧ k ≤ 2147483647) (hP : s.1 66 78 ≠ 0 → (0 ≤ k ∧ k < s.1 66 45) → ∀ K : Int → sx_S → Prop, (∀ z t, PP z t → K z t) → CALL 213 [.inr (.inl 66), .inl k, .inl 0, .inl 0] s K) (hK : ∀ z t, PP z t → R z t) (hN : R (-1) s) : sx_wp true sL sx eX12_size CALL [] Q R 400 0 (sx_argsF 0 [.inr (.inl 66), .inl k]) [] s := by
  repeat' (first | (with_reducible intro _) | (refine And.intro ?_ ?_) | (exact hN) | (refine hK _ _ (by assumption)) | (refine hP ?_ ?_ _ ?_))
  all_goals (try dsimp only)
  all_goals (first | trivial | assumption | omega | (dsimp only at *; omega) | (simp only [sx_w_t] at *; omega) | (subst_vars; omega) | (subst_vars; assumption) | (subst_vars; dsimp only at *; omega) | (subst_vars; dsimp only at *; simp only [sx_w_t] at *; omega) | skip)
theorem w_letter {CALL : sx_Ca} {sL : Nat} {sx : Nat → Int32} {Q : Nat → sx_L → sx_S → Prop} {R : Int → sx_S → Prop} {s : sx_S} {k i : Int} {PS : Int → sx_S → Prop} (pi : -2147483648 ≤ i ∧ i ≤ 2147483647) (hS : ∀ K : Int → sx_S → Prop, (∀ z t, PS z t → K z t) → CALL 215 [.inr (.inl 66), .inl k] s K) (hSI : ∀ z t, PS z t → cx_I t ∧ (-1 ≤ z ∧ z ≤ 4000)) (hK : ∀ z t, PS z t → ∀ w : Int, (-2147483648 ≤ w ∧ w ≤ 2147483647) → R w t) : sx_wp true sL sx eX12_letter CALL [] Q R 400 0 (sx_argsF 0 [.inr (.inl 66), .inl k, .inl i]) [] s := by
  repeat' (first | (with_reducible intro _) | (refine And.intro ?_ ?_) | (refine hK _ _ (by assumption) _ ?_) | (refine hS _ ?_))
  all_goals (try dsimp only)
  all_goals (first | trivial | assumption | omega | (exact (hSI _ _ (by assumption)).1) | (have hsi := hSI _ _ (by assumption); omega) | (simp only [sx_w_t] at *; omega) | (subst_vars; omega) | (subst_vars; assumption) | (subst_vars; dsimp only at *; omega) | (subst_vars; dsimp only at *; simp only [sx_w_t] at *; omega) | skip)
theorem w_side {CALL : sx_Ca} {sL : Nat} {sx : Nat → Int32} {Q : Nat → sx_L → sx_S → Prop} {R : Int → sx_S → Prop} {s : sx_S} {k i : Int} {PP : Int → sx_S → Prop} (hI : cx_I s) (pk : -2147483648 ≤ k ∧ k ≤ 2147483647) (pi : -2147483648 ≤ i ∧ i ≤ 2147483647) (hP : s.1 66 78 ≠ 0 → (0 ≤ k ∧ k < s.1 66 47) → (0 ≤ i ∧ i ≤ 1) → ∀ K : Int → sx_S → Prop, (∀ z t, PP z t → K z t) → CALL 213 [.inr (.inl 66), .inl k, .inl 1, .inl i] s K) (hK : ∀ z t, PP z t → R z t) (hN : R (-1) s) : sx_wp true sL sx eX12_side CALL [] Q R 400 0 (sx_argsF 0 [.inr (.inl 66), .inl k, .inl i]) [] s := by
  repeat' (first | (with_reducible intro _) | (refine And.intro ?_ ?_) | (exact hN) | (refine hK _ _ (by assumption)) | (refine hP ?_ ?_ ?_ _ ?_))
  all_goals (try dsimp only)
  all_goals (first | trivial | assumption | omega | (dsimp only at *; omega) | (simp only [sx_w_t] at *; omega) | (subst_vars; omega) | (subst_vars; assumption) | (subst_vars; dsimp only at *; omega) | (subst_vars; dsimp only at *; simp only [sx_w_t] at *; omega) | skip)
theorem w_solve {CALL : sx_Ca} {sL : Nat} {sx : Nat → Int32} {Q : Nat → sx_L → sx_S → Prop} {R : Int → sx_S → Prop} {s : sx_S} (hI : cx_I s) (hK : s.1 66 37 = 0 → R (-1) s) (hQ : s.1 66 37 ≠ 0 → ∀ a b c : Int, a = s.1 66 75 → b = s.1 66 76 → c = s.1 66 77 → Q 60 [(0, .inr (.inl 66)), (1, .inl 0)] (sx_uf (sx_uf (sx_uf (sx_uf (sx_uf (sx_uf (sx_uf (sx_uf s.1 66 50 a) 66 56 b) 66 58 c) 66 71 0) 66 61 0) 66 64 0) 66 70 0) 66 78 0, s.2)) : sx_wp true sL sx eX12_solve CALL [(60, [0, 1]), (80, [0, 1, 2, 3]), (114, [0, 1]), (151, [0])] Q R 400 0 (sx_argsF 0 [.inr (.inl 66)]) [] s := by
  repeat' (first | (with_reducible intro _) | (refine And.intro ?_ ?_) | (refine hK ?_) | (refine hQ ?_ _ _ _ ?_ ?_ ?_))
  all_goals (try dsimp only)
  repeat' (first | (with_reducible assumption) | ((with_reducible (change cx_I (sx_uf _ _ _ _, _))); refine cx_I_uf rfl rfl ?_ ?_ ?_) | ((with_reducible (change cx_I (_, sx_ua _ _ _ _, _))); refine cx_I_ua rfl rfl ?_ ?_ ?_) | ((with_reducible (change cx_I (_, sx_ua _ 16 _ _, _))); refine cx_I_ari ?_ ?_ ?_) | ((with_reducible (change cx_I (sx_uf _ 11 6 _, _))); refine cx_I_ufA rfl ?_ ?_ ?_ ?_) | (with_reducible exact cx_F_refl _ _) | ((with_reducible (change cx_F _ _ (sx_uf _ _ _ _, _))); refine cx_F_uf rfl ?_) | ((with_reducible (change cx_F _ _ (_, sx_ua _ _ _ _, _))); refine cx_F_ua rfl ?_) | ((with_reducible (change cx_I (_, sx_cpy _ _ _ _ _ _, _))); refine cx_I_cpy rfl rfl rfl (by decide) ?_) | ((with_reducible (change cx_F _ _ (_, sx_cpy _ _ _ _ _ _, _))); refine cx_F_cpy rfl ?_) | ((with_reducible (change cx_F _ _ _)); refine cx_F_step (by assumption) rfl ?_) | ((with_reducible (change rf_f _ _ (sx_uf _ 66 _ _, _))); refine rf_f_uf rfl ?_) | ((with_reducible (change rf_f _ _ _)); exact (fun _ _ => rfl)) | ((with_reducible (change rf_f _ _ (_, sx_ua _ _ _ _, _))); refine rf_f_ua ?_) | ((with_reducible (change rf_f _ _ _)); assumption) | ((with_reducible (change rf_f _ _ _)); refine rf_f_step (by assumption) rfl ?_) | ((with_reducible (change rf_f _ _ _)); refine rf_f_F (by assumption) rfl ?_) | fail)
  all_goals (first | trivial | assumption | omega | (dsimp only at *; omega) | (simp only [sx_w_t] at *; omega) | (subst_vars; omega) | (subst_vars; assumption) | (subst_vars; dsimp only at *; omega) | (subst_vars; dsimp only at *; simp only [sx_w_t] at *; omega) | (simp only [sx_uf_if, sx_ua_if, sx_w_t, true_and, and_true, and_self, and_false, false_and, if_true, if_false, reduceIte] at *; omega) | (subst_vars; simp only [sx_uf_if, sx_ua_if, sx_w_t, true_and, and_true, and_self, and_false, false_and, if_true, if_false, reduceIte] at *; omega) | skip)
theorem w_solve_60 {CALL : sx_Ca} {sL : Nat} {sx : Nat → Int32} {Q : Nat → sx_L → sx_S → Prop} {R : Int → sx_S → Prop} {s : sx_S} {k : Int} {PN : Int → sx_S → Prop} (hI : cx_I s) (q : 0 ≤ k ∧ k ≤ 5) (hE : s.1 66 45 ≤ k → Q 114 [(0, .inr (.inl 66)), (1, .inl 0)] s) (hN : k < s.1 66 45 → ∀ K : Int → sx_S → Prop, (∀ z t, PN z t → K z t) → CALL 189 [.inr (.inl 66)] s K) (hNI : ∀ z t, PN z t → cx_I t) (hQ : k < s.1 66 45 → ∀ z t, PN z t → ∀ u : Int, u = t.2.1 123 k.toNat → Q 80 [(0, .inr (.inl 66)), (1, .inl k), (2, .inl z), (3, .inl u)] t) : sx_wp true sL sx eX12_solve CALL [(60, [0, 1]), (80, [0, 1, 2, 3]), (114, [0, 1]), (151, [0])] Q R 400 60 [(0, .inr (.inl 66)), (1, .inl k)] [] s := by
  have h45 := hI.fld 66 45 (by decide) rfl
  repeat' (first | (with_reducible intro _) | (refine And.intro ?_ ?_) | (refine hE ?_) | (refine hQ ?_ _ _ (by assumption) _ ?_) | (refine hN ?_ _ ?_))
  all_goals (try dsimp only)
  all_goals (first | trivial | assumption | omega | (exact hNI _ _ (by assumption)) | (dsimp only at *; omega) | (simp only [sx_w_t] at *; omega) | (subst_vars; omega) | (subst_vars; assumption) | (subst_vars; dsimp only at *; omega) | (subst_vars; dsimp only at *; simp only [sx_w_t] at *; omega) | skip)
theorem w_solve_80 {CALL : sx_Ca} {sL : Nat} {sx : Nat → Int32} {Q : Nat → sx_L → sx_S → Prop} {R : Int → sx_S → Prop} {s : sx_S} {k m x3 : Int} {PA : sx_S → Prop} (hI : cx_I s) (q : 0 ≤ k ∧ k ≤ 4) (p3 : 0 ≤ x3 ∧ x3 ≤ 5999) (hE : x3 ≤ 1 → ∀ y : Int, y = k + 1 → Q 60 [(0, .inr (.inl 66)), (1, .inl y)] s) (hA : 1 < x3 → ∀ u : Int, u = s.2.1 72 x3.toNat → ∀ K : Int → sx_S → Prop, (∀ z t, PA t → K z t) → CALL 190 [.inr (.inl 66), .inl m, .inl u] s K) (hAI : ∀ t, PA t → cx_I t) (hQ : 1 < x3 → ∀ t, PA t → ∀ u : Int, u = t.2.1 73 x3.toNat → Q 80 [(0, .inr (.inl 66)), (1, .inl k), (2, .inl m), (3, .inl u)] t) : sx_wp true sL sx eX12_solve CALL [(60, [0, 1]), (80, [0, 1, 2, 3]), (114, [0, 1]), (151, [0])] Q R 400 80 [(0, .inr (.inl 66)), (1, .inl k), (2, .inl m), (3, .inl x3)] [] s := by
  repeat' (first | (with_reducible intro _) | (refine And.intro ?_ ?_) | (refine hE ?_ _ ?_) | (refine hQ ?_ _ (by assumption) _ ?_) | (refine hA ?_ _ ?_ _ ?_))
  all_goals (try dsimp only)
  all_goals (first | trivial | assumption | omega | (exact hAI _ (by assumption)) | (dsimp only at *; omega) | (simp only [sx_w_t] at *; omega) | (subst_vars; omega) | (subst_vars; assumption) | (subst_vars; dsimp only at *; omega) | (subst_vars; dsimp only at *; simp only [sx_w_t] at *; omega) | skip)
theorem w_solve_114 {CALL : sx_Ca} {sL : Nat} {sx : Nat → Int32} {Q : Nat → sx_L → sx_S → Prop} {R : Int → sx_S → Prop} {s : sx_S} {k : Int} {PU : Int → sx_S → Prop} (hI : cx_I s) (q : 0 ≤ k ∧ k ≤ 4) (hE : s.1 66 47 ≤ k → Q 151 [(0, .inr (.inl 66))] s) (hU : k < s.1 66 47 → ∀ a b : Int, a = s.2.1 98 k.toNat → b = s.2.1 99 k.toNat → ∀ K : Int → sx_S → Prop, (∀ z t, PU z t → K z t) → CALL 194 [.inr (.inl 66), .inl a, .inl (-1), .inl b, .inl (-1)] s K) (hUI : ∀ z t, PU z t → 0 ≤ z ∧ z ≤ 1) (hK : ∀ z t, PU z t → z = 0 → R 1 t) (hQ : k < s.1 66 47 → ∀ z t, PU z t → z ≠ 0 → ∀ y : Int, y = k + 1 → Q 114 [(0, .inr (.inl 66)), (1, .inl y)] t) : sx_wp true sL sx eX12_solve CALL [(60, [0, 1]), (80, [0, 1, 2, 3]), (114, [0, 1]), (151, [0])] Q R 400 114 [(0, .inr (.inl 66)), (1, .inl k)] [] s := by
  have h47 := hI.fld 66 47 (by decide) rfl
  repeat' (first | (with_reducible intro _) | (refine And.intro ?_ ?_) | (refine hE ?_) | (refine hK _ _ (by assumption) ?_) | (refine hQ ?_ _ _ (by assumption) ?_ _ ?_) | (refine hU ?_ _ _ ?_ ?_ _ ?_))
  all_goals (try dsimp only)
  all_goals (first | trivial | assumption | omega | (have hui := hUI _ _ (by assumption); omega) | (dsimp only at *; omega) | (simp only [sx_w_t] at *; omega) | (subst_vars; omega) | (subst_vars; assumption) | (subst_vars; dsimp only at *; omega) | (subst_vars; dsimp only at *; simp only [sx_w_t] at *; omega) | skip)
theorem w_solve_151 {CALL : sx_Ca} {sL : Nat} {sx : Nat → Int32} {Q : Nat → sx_L → sx_S → Prop} {R : Int → sx_S → Prop} {s : sx_S} {PW : sx_S → Prop} (hN : ∀ K : Int → sx_S → Prop, (∀ z t, PW t → K z t) → CALL 202 [.inr (.inl 66)] (sx_uf s.1 66 78 1, s.2) K) (hK : ∀ t, PW t → R 0 t) : sx_wp true sL sx eX12_solve CALL [(60, [0, 1]), (80, [0, 1, 2, 3]), (114, [0, 1]), (151, [0])] Q R 400 151 [(0, .inr (.inl 66))] [] s := by
  repeat' (first | (with_reducible intro _) | (refine And.intro ?_ ?_) | (refine hK _ (by assumption)) | (refine hN _ ?_))
  all_goals (try dsimp only)
  repeat' (first | (with_reducible assumption) | ((with_reducible (change cx_I (sx_uf _ _ _ _, _))); refine cx_I_uf rfl rfl ?_ ?_ ?_) | ((with_reducible (change cx_I (_, sx_ua _ _ _ _, _))); refine cx_I_ua rfl rfl ?_ ?_ ?_) | ((with_reducible (change cx_I (_, sx_ua _ 16 _ _, _))); refine cx_I_ari ?_ ?_ ?_) | ((with_reducible (change cx_I (sx_uf _ 11 6 _, _))); refine cx_I_ufA rfl ?_ ?_ ?_ ?_) | (with_reducible exact cx_F_refl _ _) | ((with_reducible (change cx_F _ _ (sx_uf _ _ _ _, _))); refine cx_F_uf rfl ?_) | ((with_reducible (change cx_F _ _ (_, sx_ua _ _ _ _, _))); refine cx_F_ua rfl ?_) | ((with_reducible (change cx_I (_, sx_cpy _ _ _ _ _ _, _))); refine cx_I_cpy rfl rfl rfl (by decide) ?_) | ((with_reducible (change cx_F _ _ (_, sx_cpy _ _ _ _ _ _, _))); refine cx_F_cpy rfl ?_) | ((with_reducible (change cx_F _ _ _)); refine cx_F_step (by assumption) rfl ?_) | ((with_reducible (change rf_f _ _ (sx_uf _ 66 _ _, _))); refine rf_f_uf rfl ?_) | ((with_reducible (change rf_f _ _ _)); exact (fun _ _ => rfl)) | ((with_reducible (change rf_f _ _ (_, sx_ua _ _ _ _, _))); refine rf_f_ua ?_) | ((with_reducible (change rf_f _ _ _)); assumption) | ((with_reducible (change rf_f _ _ _)); refine rf_f_step (by assumption) rfl ?_) | ((with_reducible (change rf_f _ _ _)); refine rf_f_F (by assumption) rfl ?_) | fail)
  all_goals (first | trivial | assumption | omega | (dsimp only at *; omega) | (simp only [sx_w_t] at *; omega) | (subst_vars; omega) | (subst_vars; assumption) | (subst_vars; dsimp only at *; omega) | (subst_vars; dsimp only at *; simp only [sx_w_t] at *; omega) | (simp only [sx_uf_if, sx_ua_if, sx_w_t, true_and, and_true, and_self, and_false, false_and, if_true, if_false, reduceIte] at *; omega) | (subst_vars; simp only [sx_uf_if, sx_ua_if, sx_w_t, true_and, and_true, and_self, and_false, false_and, if_true, if_false, reduceIte] at *; omega) | skip)
end
section
/-! ===== the reference: writeUnknown ===== -/
/-- an unknown before variables of its own, as far as they are made -/
def rf_WJ (s u : sx_S) (k i : Int) : Prop := (cx_I u ∧ cx_F [(66, 66), (100, 107), (122, 122)] s u ∧ rf_f [50, 56, 58, 86] s u) ∧ (u.1 66 50 = s.1 66 50 + 1 ∧ u.1 66 56 = s.1 66 56 + i ∧ u.1 66 58 = s.1 66 58 + i) ∧ (rf_ag 100 104 (s.1 66 50) s u ∧ rf_ag 105 105 (s.1 66 56) s u ∧ rf_ag 106 107 (s.1 66 58) s u) ∧ (rf_mk u (s.1 66 50) 3 k ∧ u.2.1 104 (s.1 66 50).toNat = s.1 66 56) ∧ ∀ q : Nat, (q : Int) < i → u.2.1 105 (s.1 66 56 + (q : Int)).toNat = s.1 66 58 + (q : Int) ∧ u.2.1 106 (s.1 66 58 + (q : Int)).toNat = s.2.1 110 (s.2.1 109 k.toNat + (q : Int)).toNat ∧ u.2.1 107 (s.1 66 58 + (q : Int)).toNat = (q : Int)
def rf_WX (s u t : sx_S) (k i v : Int) : Prop := (cx_I t ∧ cx_F [(66, 66), (105, 106)] u t ∧ rf_f [56, 58] u t) ∧ (t.1 66 56 = u.1 66 56 + 1 ∧ t.1 66 58 = u.1 66 58 + 1 ∧ v = u.1 66 58) ∧ (rf_ag 105 105 (u.1 66 56) u t ∧ rf_ag 106 106 (u.1 66 58) u t) ∧ t.2.1 105 (u.1 66 56).toNat = v ∧ t.2.1 106 v.toNat = s.2.1 110 (s.2.1 109 k.toNat + i).toNat
theorem rf_WJ_0 {s t : sx_S} {k z w : Int} (r50 : 0 ≤ s.1 66 50) (c1 : cx_I t) (c2 : cx_F [(66, 66), (100, 103)] s t) (c3 : z = s.1 66 50) (c4 : t.1 66 50 = s.1 66 50 + 1) (c5 : rf_f [50] s t) (c6 : rf_ag 100 103 (s.1 66 50) s t) (c7 : rf_mk t z 3 k) (hw : w = t.1 66 56) : rf_WJ s (t.1, sx_ua t.2.1 104 z.toNat w, t.2.2) k 0 := by
  have r56 := c1.fld 66 56 (by decide) rfl
  have e56 := c5 56 rfl
  have o : ∀ p, p ≠ 104 → sx_ua t.2.1 104 z.toNat w p = t.2.1 p := fun p hp => sx_ua_ne hp
  have hF : cx_F [(66, 66), (100, 107), (122, 122)] s t := cx_F_step c2 rfl (cx_F_refl _ _)
  refine ⟨⟨cx_I_ua rfl rfl c1 (by omega) (by omega), cx_F_ua rfl hF, rf_f_ua (rf_f_step c5 rfl (rf_f_refl _ _))⟩, ⟨c4, ?_, ?_⟩, ⟨?_, ?_, ?_⟩, ⟨?_, ?_⟩, fun q hq => absurd hq (by omega)⟩
  · show t.1 66 56 = _
    omega
  · show t.1 66 58 = _
    have := c5 58 rfl
    omega
  · intro p j h1 h2 h3
    by_cases hp : p = 104
    · subst hp
      show sx_ua t.2.1 104 z.toNat w 104 j = _
      rw [sx_ua_same]
      show (if j = z.toNat then w else t.2.1 104 j) = _
      rw [if_neg (by omega), (c2.same 104 rfl).2]
    · show sx_ua t.2.1 104 z.toNat w p j = _
      rw [o p hp]
      exact c6 p j h1 (by omega) h3
  · intro p j h1 h2 h3
    show sx_ua t.2.1 104 z.toNat w p j = _
    have : p = 105 := by omega
    subst this
    rw [o 105 (by decide), (c2.same 105 rfl).2]
  · intro p j h1 h2 h3
    show sx_ua t.2.1 104 z.toNat w p j = _
    have : p = 106 ∨ p = 107 := by omega
    rcases this with rfl | rfl
    · rw [o 106 (by decide), (c2.same 106 rfl).2]
    · rw [o 107 (by decide), (c2.same 107 rfl).2]
  · intro _
    obtain ⟨d1, d2, d3, d4⟩ := c7 trivial
    rw [c3] at d1 d2 d3 d4
    refine ⟨?_, ?_, ?_, ?_⟩
    · show sx_ua t.2.1 104 z.toNat w 100 _ = _
      rw [o 100 (by decide)]
      exact d1
    · show sx_ua t.2.1 104 z.toNat w 101 _ = _
      rw [o 101 (by decide)]
      exact d2
    · show sx_ua t.2.1 104 z.toNat w 102 _ = _
      rw [o 102 (by decide)]
      exact d3
    · show sx_ua t.2.1 104 z.toNat w 103 _ = _
      rw [o 103 (by decide)]
      exact d4
  · show sx_ua t.2.1 104 z.toNat w 104 _ = _
    rw [sx_ua_same]
    show (if (s.1 66 50).toNat = z.toNat then w else t.2.1 104 (s.1 66 50).toNat) = _
    rw [if_pos (by rw [c3])]
    omega
theorem rf_WX_0 {s u t : sx_S} {k i z m w a : Int} (c1 : cx_I t) (c2 : cx_F [(66, 66), (106, 106)] u t) (c3 : z = u.1 66 58) (c4 : t.1 66 58 = u.1 66 58 + 1) (c5 : rf_f [58] u t) (c6 : rf_ag 106 106 (u.1 66 58) u t) (c7 : t.2.1 106 z.toNat = a) (ha : a = s.2.1 110 (s.2.1 109 k.toNat + i).toNat) (h56 : 0 ≤ t.1 66 56 ∧ t.1 66 56 ≤ 119990) (hz : 0 ≤ z ∧ z ≤ 399999) (hm : m = t.1 66 56) (hw : w = t.1 66 56 + 1) : rf_WX s u (sx_uf t.1 66 56 w, sx_ua t.2.1 105 m.toNat z, t.2.2) k i z := by
  have e56 := c5 56 rfl
  have o : ∀ p, p ≠ 105 → sx_ua t.2.1 105 m.toNat z p = t.2.1 p := fun p hp => sx_ua_ne hp
  have hF : cx_F [(66, 66), (105, 106)] u t := cx_F_step c2 rfl (cx_F_refl _ _)
  have hI1 : cx_I (t.1, sx_ua t.2.1 105 m.toNat z, t.2.2) := cx_I_ua rfl rfl c1 (by omega) (by omega)
  have hF1 : cx_F [(66, 66), (105, 106)] u (t.1, sx_ua t.2.1 105 m.toNat z, t.2.2) := cx_F_ua rfl hF
  have hf1 : rf_f [56, 58] u (t.1, sx_ua t.2.1 105 m.toNat z, t.2.2) := rf_f_ua (rf_f_step c5 rfl (rf_f_refl _ _))
  refine ⟨⟨cx_I_uf rfl rfl hI1 (by omega) (by omega), cx_F_uf rfl hF1, rf_f_uf rfl hf1⟩, ⟨?_, ?_, c3⟩, ⟨?_, ?_⟩, ?_, ?_⟩
  · show sx_uf t.1 66 56 w 66 56 = _
    rw [sx_uf_if, if_pos ⟨rfl, rfl⟩]
    omega
  · show sx_uf t.1 66 56 w 66 58 = _
    rw [sx_uf_if, if_neg (by decide)]
    exact c4
  · intro p j h1 h2 h3
    have : p = 105 := by omega
    subst this
    show sx_ua t.2.1 105 m.toNat z 105 j = _
    rw [sx_ua_same]
    show (if j = m.toNat then z else t.2.1 105 j) = _
    rw [if_neg (by omega), (c2.same 105 rfl).2]
  · intro p j h1 h2 h3
    show sx_ua t.2.1 105 m.toNat z p j = _
    rw [o p (by omega)]
    exact c6 p j h1 h2 h3
  · show sx_ua t.2.1 105 m.toNat z 105 _ = _
    rw [sx_ua_same]
    show (if (u.1 66 56).toNat = m.toNat then z else t.2.1 105 (u.1 66 56).toNat) = _
    rw [if_pos (by omega)]
  · show sx_ua t.2.1 105 m.toNat z 106 _ = _
    rw [o 106 (by decide), c7, ha]
theorem rf_WJ_s {s u u1 t : sx_S} {k i v : Int} (r50 : 0 ≤ s.1 66 50) (r56 : 0 ≤ s.1 66 56) (r58 : 0 ≤ s.1 66 58) (hi : 0 ≤ i) (h : rf_WJ s u k i) (hx : rf_WX s u u1 k i v) (c1 : cx_I t) (c2 : cx_F [(66, 66), (107, 107), (122, 122)] u1 t) (c3 : rf_f [86] u1 t) (c4 : ∀ j : Nat, t.2.1 107 j = if j = v.toNat then i else u1.2.1 107 j) : rf_WJ s t k (i + 1) := by
  obtain ⟨⟨a1, a2, a3⟩, ⟨a4, a5, a6⟩, ⟨a7, a8, a9⟩, ⟨a10, a11⟩, a12⟩ := h
  obtain ⟨⟨b1, b2, b3⟩, ⟨b4, b5, b6⟩, ⟨b7, b8⟩, b9, b10⟩ := hx
  have e50 := b3 50 rfl
  have f50 := c3 50 rfl
  have f56 := c3 56 rfl
  have f58 := c3 58 rfl
  have E : ∀ p, 100 ≤ p → p ≤ 104 → t.2.1 p = u.2.1 p := fun p h1 h2 => by
    have : p = 100 ∨ p = 101 ∨ p = 102 ∨ p = 103 ∨ p = 104 := by omega
    rcases this with rfl | rfl | rfl | rfl | rfl <;> exact ((c2.same _ rfl).2).trans ((b2.same _ rfl).2)
  have g105 : t.2.1 105 = u1.2.1 105 := (c2.same 105 rfl).2
  have g106 : t.2.1 106 = u1.2.1 106 := (c2.same 106 rfl).2
  have g107 : u1.2.1 107 = u.2.1 107 := (b2.same 107 rfl).2
  refine ⟨⟨c1, cx_F_step c2 rfl (cx_F_step b2 rfl a2), rf_f_step c3 rfl (rf_f_step b3 rfl a3)⟩, ⟨by omega, by omega, by omega⟩, ⟨?_, ?_, ?_⟩, ⟨?_, ?_⟩, ?_⟩
  · intro p j h1 h2 h3
    rw [E p h1 h2]
    exact a7 p j h1 h2 h3
  · intro p j h1 h2 h3
    have : p = 105 := by omega
    subst this
    rw [g105, b7 105 j (by omega) (by omega) (by omega)]
    exact a8 105 j (by omega) (by omega) h3
  · intro p j h1 h2 h3
    have : p = 106 ∨ p = 107 := by omega
    rcases this with rfl | rfl
    · rw [g106, b8 106 j (by omega) (by omega) (by omega)]
      exact a9 106 j (by omega) (by omega) h3
    · rw [c4 j, if_neg (by omega), g107]
      exact a9 107 j (by omega) (by omega) h3
  · intro _
    rw [E 100 (by omega) (by omega), E 101 (by omega) (by omega), E 102 (by omega) (by omega), E 103 (by omega) (by omega)]
    exact a10 trivial
  · rw [E 104 (by omega) (by omega)]
    exact a11
  · intro q hq
    by_cases hqi : (q : Int) < i
    · obtain ⟨d1, d2, d3⟩ := a12 q hqi
      refine ⟨?_, ?_, ?_⟩
      · rw [g105, b7 105 _ (by omega) (by omega) (by omega)]
        exact d1
      · rw [g106, b8 106 _ (by omega) (by omega) (by omega)]
        exact d2
      · rw [c4, if_neg (by omega), g107]
        exact d3
    · have e : (q : Int) = i := by omega
      rw [e]
      refine ⟨?_, ?_, ?_⟩
      · rw [g105, show (s.1 66 56 + i).toNat = (u.1 66 56).toNat by omega, b9]
        omega
      · rw [g106, show (s.1 66 58 + i).toNat = v.toNat by omega, b10]
      · rw [c4, if_pos (by omega)]
/-- what this leaves as it was -/
theorem rf_WJ_EX {s u : sx_S} {k i : Int} (hi : 0 ≤ i) (h : rf_WJ s u k i) : rf_EX (s.1 66 71) (s.1 66 58) s u ∧ rf_NC s u ∧ (rf_OD s → rf_OD u) := by
  obtain ⟨⟨a1, a2, a3⟩, ⟨a4, a5, a6⟩, ⟨a7, a8, a9⟩, _, _⟩ := h
  have e61 := a3 61 rfl
  have e64 := a3 64 rfl
  have e70 := a3 70 rfl
  refine ⟨⟨⟨⟨a3 9 rfl, (a2.same 72 rfl).2, (a2.same 73 rfl).2, (a2.same 96 rfl).2, a3 42 rfl⟩, by omega, by omega, by omega, by omega, by omega⟩, fun j => ⟨fun hj => ⟨a7 100 j (by omega) (by omega) hj, a7 101 j (by omega) (by omega) hj, a7 102 j (by omega) (by omega) hj, a7 103 j (by omega) (by omega) hj, a7 104 j (by omega) (by omega) hj⟩, fun hj => a8 105 j (by omega) (by omega) hj, fun hj => a9 106 j (by omega) (by omega) hj, fun _ => ⟨by rw [(a2.same 108 rfl).2], by rw [(a2.same 109 rfl).2], fun _ => ⟨by rw [(a2.same 111 rfl).2], by rw [(a2.same 112 rfl).2], by rw [(a2.same 113 rfl).2], by rw [(a2.same 114 rfl).2]⟩⟩, fun _ => by rw [(a2.same 110 rfl).2], fun hj => ⟨by rw [(a2.same 115 rfl).2], by rw [(a2.same 116 rfl).2], by rw [(a2.same 117 rfl).2]⟩⟩⟩, ⟨e61, fun j _ => by rw [(a2.same 111 rfl).2]⟩, fun hO => rf_OD_same hO e61 (a3 83 rfl) (a3 79 rfl) (fun p hp => ?_)⟩
  rcases hp with rfl | rfl | rfl | rfl <;> exact (a2.same _ rfl).2
/-- it is a node under no names -/
theorem rf_WJ_CL {nb ib : Int} {s u : sx_S} {g : rf_Gh} {k : Int} (hM : rf_MI nb ib s g) (hk : 0 ≤ k ∧ k < s.1 66 61) (r50 : 0 ≤ s.1 66 50) (r56 : 0 ≤ s.1 66 56) (r58 : 0 ≤ s.1 66 58) (r108 : 0 ≤ s.2.1 108 k.toNat) (h70 : 0 ≤ s.1 66 70) (h : rf_WJ s u k (s.2.1 108 k.toNat)) : rf_CL u g (fun _ _ => False) (.inner (s.1 66 50).toNat (3, k) () .leaf .leaf) .leaf .leaf [] 1155 (s.1 66 50) (-1) ∧ rf_DI u .leaf (rf_fo (rf_Wd u g.2.2) (.inner (s.1 66 50).toNat (3, k) () .leaf .leaf)).1 (s.2.1 108 k.toNat) := by
  obtain ⟨⟨a1, a2, a3⟩, ⟨a4, a5, a6⟩, ⟨a7, a8, a9⟩, ⟨a10, a11⟩, a12⟩ := h
  obtain ⟨m1, m2, m3, m4⟩ := a10 trivial
  have e61 := a3 61 rfl
  have e64 := a3 64 rfl
  have e9 := a3 9 rfl
  have e70 := a3 70 rfl
  have e108 : u.2.1 108 = s.2.1 108 := (a2.same 108 rfl).2
  have e109 : u.2.1 109 = s.2.1 109 := (a2.same 109 rfl).2
  have e110 : u.2.1 110 = s.2.1 110 := (a2.same 110 rfl).2
  have e72 : u.2.1 72 = s.2.1 72 := (a2.same 72 rfl).2
  have e73 : u.2.1 73 = s.2.1 73 := (a2.same 73 rfl).2
  obtain ⟨y1, y2, _, _⟩ := hM.1 k hk.1 hk.2
  have eaa : rf_aa s k = s.2.1 108 k.toNat := rfl
  have ea : rf_aa u k = s.2.1 108 k.toNat := by
    show u.2.1 108 k.toNat = _
    rw [e108]
  have hrv : ∀ q : Nat, (q : Int) < s.2.1 108 k.toNat → rf_rv1 u (s.1 66 50).toNat q = s.1 66 58 + (q : Int) := fun q hq => by
    unfold rf_rv1
    rw [a11]
    exact (a12 q hq).1
  have hpy : ∀ (q : Nat) (T : rf_T), rf_py s k q T → rf_py u k q T := fun q T hT => by
    unfold rf_py rf_is at hT ⊢
    rw [e109, e110, e64, e72, e73, e9]
    exact hT
  have n0 : ¬ (((3 : Int), k).1 = 0) := fun c => by
    have c' : (3 : Int) = 0 := c
    omega
  have n12 : ¬ (((3 : Int), k).1 = 1 ∨ ((3 : Int), k).1 = 2) := fun c => by
    have c' : (3 : Int) = 1 ∨ (3 : Int) = 2 := c
    omega
  have hfo : ∀ v, (rf_fo (rf_Wd u g.2.2) (.inner (s.1 66 50).toNat (3, k) () .leaf .leaf)).1 v → ∃ q : Nat, (q : Int) < s.2.1 108 k.toNat ∧ v = s.1 66 58 + (q : Int) := by
    rintro v (⟨_, q, hq, hv⟩ | ⟨e, _⟩ | ⟨e, _⟩)
    · have := y2 q hq
      refine ⟨q, by omega, ?_⟩
      rw [hv]
      exact hrv q (by omega)
    · exact absurd e n0
    · exact absurd e n12
  have hwh : (rf_wh (.inner (s.1 66 50).toNat ((3 : Int), k) () .leaf .leaf)).1 = 5 := by
    show (if (3 : Int) = 3 then 5 else if (3 : Int) = 0 then 1 + (rf_wh .leaf).1 else 1 + (rf_wh .leaf).2) = 5
    exact if_pos rfl
  refine ⟨⟨⟨⟨⟨by omega, by omega⟩, ⟨m1, m2⟩, m3, m4⟩, Or.inr ⟨n0, .leaf, Or.inr (Or.inr (Or.inr ⟨rfl, rfl, ⟨hk.1, by show k < u.1 66 61; omega⟩, ⟨by omega, by show u.2.1 104 (s.1 66 50).toNat + rf_aa u k ≤ u.1 66 56; omega⟩, fun q hq => ?_⟩)), rfl, rfl⟩, ⟨fun _ _ h => h.elim, Or.inr (fun _ _ h => h)⟩, rf_NM_nil (by omega)⟩, ⟨⟨fun _ => ?_, fun c => absurd c n0, fun c => absurd c n12⟩, fun a b _ _ h => h⟩, by omega, ⟨List.nodup_nil, fun x hx => absurd hx List.not_mem_nil, ?_⟩⟩, fun v hv => ?_⟩
  · have hq1 : (q : Int) < rf_aa u k := hq
    have hq' : (q : Int) < s.2.1 108 k.toNat := by omega
    obtain ⟨T, hT⟩ := y1 q (by omega)
    refine ⟨T, hpy q T hT, Or.inl ⟨?_, ?_⟩⟩
    · rw [hrv q hq']
      omega
    · rw [hrv q hq']
      unfold rf_is
      rw [(a12 q hq').2.1, e72, e73, e9]
      exact hT.2.1
  · intro p q hp hq hpq
    have h1 := y2 p hp
    have h2 := y2 q hq
    have h1' : (p : Int) < s.2.1 108 k.toNat := h1
    have h2' : (q : Int) < s.2.1 108 k.toNat := h2
    have hpq' : rf_rv1 u (s.1 66 50).toNat p = rf_rv1 u (s.1 66 50).toNat q := hpq
    rw [hrv p h1', hrv q h2'] at hpq'
    omega
  · show 1150 + (rf_wh (.inner (s.1 66 50).toNat ((3 : Int), k) () .leaf .leaf)).1 ≤ 1155 + 0
    omega
  · obtain ⟨q, h1, h2⟩ := hfo v hv
    have d := (a12 q h1).2.2
    have lv : rf_look .leaf v = v := rfl
    rw [lv, h2, d]
    refine ⟨⟨by omega, h1⟩, fun w hw hvw => ?_⟩
    obtain ⟨q2, h3, h4⟩ := hfo w hw
    have d2 := (a12 q2 h3).2.2
    have lw : rf_look .leaf w = w := rfl
    rw [lw, h4, d2] at hvw
    omega
/-- what writing an unknown leaves -/
def rf_WU (s t : sx_S) : Prop := (cx_I t ∧ rf_EX (s.1 66 71) (s.1 66 58) s t ∧ rf_NC s t ∧ rf_OD t) ∧ (cx_F [(66, 66), (100, 107), (115, 122)] s t ∧ rf_f [50, 56, 58, 71, 79, 83, 86] s t) ∧ t.1 66 50 = s.1 66 50 + 1 ∧ (s.1 66 56 ≤ t.1 66 56 ∧ t.1 66 56 ≤ s.1 66 56 + 4) ∧ (s.1 66 58 ≤ t.1 66 58 ∧ t.1 66 58 ≤ s.1 66 58 + 1260) ∧ s.1 66 71 ≤ t.1 66 71 ∧ t.1 66 71 ≤ s.1 66 71 + 1260
end
section
/-! ===== the reference: number, papers, size, letter, side, sideLetter ===== -/
def rf_N1 (s u : sx_S) (m : Int) : Prop := (cx_I u ∧ cx_F [(66, 66), (118, 119)] s u ∧ rf_f [79, 83] s u) ∧ (u.1 66 79 = 0 ∧ u.1 66 83 = 0) ∧ ∀ j : Nat, (j : Int) < m → u.2.1 118 j = -1
/-- what numbering leaves, k unknowns being written -/
def rf_NU (s t : sx_S) (k : Int) : Prop := (cx_I t ∧ rf_EX (s.1 66 71) (s.1 66 58) s t ∧ rf_NC s t ∧ rf_OD t) ∧ (cx_F [(66, 66), (100, 107), (115, 122)] s t ∧ rf_f [50, 56, 58, 71, 79, 83, 86, 89] s t) ∧ (s.1 66 50 ≤ t.1 66 50 ∧ t.1 66 50 ≤ s.1 66 50 + k) ∧ (s.1 66 56 ≤ t.1 66 56 ∧ t.1 66 56 ≤ s.1 66 56 + 4 * k) ∧ (s.1 66 58 ≤ t.1 66 58 ∧ t.1 66 58 ≤ s.1 66 58 + 1260 * k) ∧ s.1 66 71 ≤ t.1 66 71 ∧ t.1 66 71 ≤ s.1 66 71 + 1260 * k
theorem rf_NU_WW {nb ib k : Int} {s t : sx_S} {g : rf_Gh} (hM : rf_MI nb ib s g) (hnb : nb ≤ s.1 66 71) (hib : ib ≤ s.1 66 58) (hph : rf_ph s g ≤ 1150) (h70 : 0 ≤ s.1 66 70 ∧ s.1 66 70 ≤ 100) (h61 : s.1 66 61 ≤ 2900) (h9 : 2 ≤ s.1 66 9 ∧ s.1 66 9 ≤ 6000) (hk : 0 ≤ k ∧ k ≤ 5) (h50 : s.1 66 50 ≤ 59930) (h56 : s.1 66 56 ≤ 119800) (h : rf_NU s t k) : rf_WW true nb ib t g := by
  obtain ⟨⟨a1, a2, a3, a4⟩, ⟨b1, b2⟩, c1, c2, c3, c4, c5⟩ := h
  have e70 := b2 70 rfl
  have e61 := b2 61 rfl
  have e9 := b2 9 rfl
  exact ⟨⟨a1, rf_NC_MI (rf_EX_le a2 hnb hib) a3 (Int.le_refl _) (Int.le_refl _) hM, by omega, by omega, by rw [rf_NC_ph a2 a3]; exact hph⟩, by omega, by omega, by omega, ⟨by show t.1 66 50 ≤ 59950; omega, by omega⟩, a4⟩
theorem rf_NU_s {s t u : sx_S} {k : Int} (hk : 0 ≤ k) (h : rf_NU s t k) (w : rf_WU t u) : rf_NU s u (k + 1) := by
  obtain ⟨⟨a1, a2, a3, a4⟩, ⟨b1, b2⟩, c1, c2, c3, c4, c5⟩ := h
  obtain ⟨⟨x1, x2, x3, x4⟩, ⟨y1, y2⟩, z1, z2, z3, z4, z5⟩ := w
  exact ⟨⟨x1, rf_EX_trans x2 a2 c4 c3.1, ⟨x3.1.trans a3.1, fun j hj => (x3.2 j (by rw [a3.1]; exact hj)).trans (a3.2 j hj)⟩, x4⟩, ⟨cx_F_step y1 rfl b1, rf_f_step y2 rfl b2⟩, by omega, by omega, by omega, by omega, by omega⟩
theorem rf_N1_OD {s u : sx_S} {m : Int} (h : rf_N1 s u m) (hm : s.1 66 61 ≤ m) : rf_OD u := by
  obtain ⟨⟨a1, a2, a3⟩, ⟨b1, b2⟩, c⟩ := h
  have e61 := a3 61 rfl
  refine ⟨⟨by omega, by omega, ?_⟩, fun j hj hne => absurd (c j (by omega)) hne⟩
  rw [b1, b2]
  omega
theorem rf_N1_NU {s u : sx_S} {m : Int} (h : rf_N1 s u m) (hm : s.1 66 61 ≤ m) : rf_NU s (sx_uf (sx_uf u.1 66 86 4001) 66 89 1, u.2) 0 := by
  have hO := rf_N1_OD h hm
  obtain ⟨⟨a1, a2, a3⟩, ⟨b1, b2⟩, c⟩ := h
  have hI1 : cx_I (sx_uf u.1 66 86 4001, u.2) := cx_I_uf rfl rfl a1 (by decide) (by decide)
  have hI2 : cx_I (sx_uf (sx_uf u.1 66 86 4001) 66 89 1, u.2) := cx_I_uf rfl rfl hI1 (by decide) (by decide)
  have hF0 : cx_F [(66, 66), (100, 107), (115, 122)] s u := cx_F_step a2 rfl (cx_F_refl _ _)
  have hF1 : cx_F [(66, 66), (100, 107), (115, 122)] s (sx_uf u.1 66 86 4001, u.2) := cx_F_uf rfl hF0
  have hF2 : cx_F [(66, 66), (100, 107), (115, 122)] s (sx_uf (sx_uf u.1 66 86 4001) 66 89 1, u.2) := cx_F_uf rfl hF1
  have hf0 : rf_f [50, 56, 58, 71, 79, 83, 86, 89] s u := rf_f_step a3 rfl (rf_f_refl _ _)
  have hf1 : rf_f [50, 56, 58, 71, 79, 83, 86, 89] s (sx_uf u.1 66 86 4001, u.2) := rf_f_uf rfl hf0
  have hf2 : rf_f [50, 56, 58, 71, 79, 83, 86, 89] s (sx_uf (sx_uf u.1 66 86 4001) 66 89 1, u.2) := rf_f_uf rfl hf1
  have ef : ∀ q, q ≠ 86 → q ≠ 89 → sx_uf (sx_uf u.1 66 86 4001) 66 89 1 66 q = u.1 66 q := fun q h1 h2 => by
    rw [sx_uf_if, if_neg (fun c => h2 c.2), sx_uf_if, if_neg (fun c => h1 c.2)]
  have e9 := a3 9 rfl
  have e42 := a3 42 rfl
  have e50 := a3 50 rfl
  have e56 := a3 56 rfl
  have e58 := a3 58 rfl
  have e61 := a3 61 rfl
  have e64 := a3 64 rfl
  have e70 := a3 70 rfl
  have e71 := a3 71 rfl
  have n50 := ef 50 (by decide) (by decide)
  have n56 := ef 56 (by decide) (by decide)
  have n58 := ef 58 (by decide) (by decide)
  have n61 := ef 61 (by decide) (by decide)
  have n64 := ef 64 (by decide) (by decide)
  have n70 := ef 70 (by decide) (by decide)
  have n71 := ef 71 (by decide) (by decide)
  have n83 := ef 83 (by decide) (by decide)
  have n79 := ef 79 (by decide) (by decide)
  refine ⟨⟨hI2, ⟨⟨⟨?_, (a2.same 72 rfl).2, (a2.same 73 rfl).2, (a2.same 96 rfl).2, ?_⟩, ?_, ?_, ?_, ?_, ?_⟩, fun j => ⟨fun _ => ⟨?_, ?_, ?_, ?_, ?_⟩, fun _ => ?_, fun _ => ?_, fun _ => ⟨?_, ?_, fun _ => ⟨?_, ?_, ?_, ?_⟩⟩, fun _ => ?_, fun _ => ⟨?_, ?_, ?_⟩⟩⟩, ⟨?_, fun j _ => ?_⟩, ?_⟩, ⟨hF2, hf2⟩, ?_, ?_, ?_, ?_, ?_⟩
  · exact (ef 9 (by decide) (by decide)).trans e9
  · exact (ef 42 (by decide) (by decide)).trans e42
  · dsimp only
    omega
  · dsimp only
    omega
  · dsimp only
    omega
  · dsimp only
    omega
  · dsimp only
    omega
  · show u.2.1 100 j = _
    rw [(a2.same 100 rfl).2]
  · show u.2.1 101 j = _
    rw [(a2.same 101 rfl).2]
  · show u.2.1 102 j = _
    rw [(a2.same 102 rfl).2]
  · show u.2.1 103 j = _
    rw [(a2.same 103 rfl).2]
  · show u.2.1 104 j = _
    rw [(a2.same 104 rfl).2]
  · show u.2.1 105 j = _
    rw [(a2.same 105 rfl).2]
  · show u.2.1 106 j = _
    rw [(a2.same 106 rfl).2]
  · show u.2.1 108 j = _
    rw [(a2.same 108 rfl).2]
  · show u.2.1 109 j = _
    rw [(a2.same 109 rfl).2]
  · show u.2.1 111 j = _
    rw [(a2.same 111 rfl).2]
  · show u.2.1 112 j = _
    rw [(a2.same 112 rfl).2]
  · show u.2.1 113 j = _
    rw [(a2.same 113 rfl).2]
  · show u.2.1 114 j = _
    rw [(a2.same 114 rfl).2]
  · show u.2.1 110 j = _
    rw [(a2.same 110 rfl).2]
  · show u.2.1 115 j = _
    rw [(a2.same 115 rfl).2]
  · show u.2.1 116 j = _
    rw [(a2.same 116 rfl).2]
  · show u.2.1 117 j = _
    rw [(a2.same 117 rfl).2]
  · exact n61.trans e61
  · show u.2.1 111 j = _
    rw [(a2.same 111 rfl).2]
  · exact rf_OD_same hO n61 n83 n79 (fun p _ => rfl)
  · dsimp only
    omega
  · dsimp only
    omega
  · dsimp only
    omega
  · dsimp only
    omega
  · dsimp only
    omega
/-- a node that stands alone, nothing free in it -/
def rf_RT (s : sx_S) (g : rf_Gh) (i : Int) : Prop := ∃ (A : rf_N) (x : rf_T), rf_CL s g (fun _ _ => False) A .leaf x [] (1150 + (rf_wh A).1) i (-1) ∧ ∀ v, ¬ (rf_fo (rf_Wd s g.2.2) A).1 v
/-- what papers leaves -/
def rf_PP (s t : sx_S) : Prop := (cx_I t ∧ rf_EX (s.1 66 71) (s.1 66 58) s t ∧ rf_NC s t ∧ rf_OD t) ∧ cx_F [(66, 66), (100, 107), (115, 122)] s t ∧ rf_f [79, 83, 86] s t
theorem rf_PP_0 {s t : sx_S} {a b c e : Int} (hI : cx_I t) (hE : rf_EX (s.1 66 71) (s.1 66 58) s t) (hN : rf_NC s t) (hO : rf_OD t) (hF : cx_F [(66, 66), (100, 107), (115, 122)] s t) (hf : rf_f [50, 56, 58, 71, 79, 83, 86] s t) (pa : 0 ≤ a ∧ a ≤ 60000) (pb : 0 ≤ b ∧ b ≤ 120000) (pc : 0 ≤ c ∧ c ≤ 400000) (pe : 0 ≤ e ∧ e ≤ 400000) (ha : a = s.1 66 50) (hb : b = s.1 66 56) (hc : c = s.1 66 58) (he : e = s.1 66 71) : rf_PP s (sx_uf (sx_uf (sx_uf (sx_uf t.1 66 50 a) 66 56 b) 66 58 c) 66 71 e, t.2) := by
  have i1 : cx_I (sx_uf t.1 66 50 a, t.2) := cx_I_uf rfl rfl hI pa.1 pa.2
  have i2 : cx_I (sx_uf (sx_uf t.1 66 50 a) 66 56 b, t.2) := cx_I_uf rfl rfl i1 pb.1 pb.2
  have i3 : cx_I (sx_uf (sx_uf (sx_uf t.1 66 50 a) 66 56 b) 66 58 c, t.2) := cx_I_uf rfl rfl i2 pc.1 pc.2
  have i4 : cx_I (sx_uf (sx_uf (sx_uf (sx_uf t.1 66 50 a) 66 56 b) 66 58 c) 66 71 e, t.2) := cx_I_uf rfl rfl i3 pe.1 pe.2
  have f1 : cx_F [(66, 66), (100, 107), (115, 122)] s (sx_uf t.1 66 50 a, t.2) := cx_F_uf rfl hF
  have f2 : cx_F [(66, 66), (100, 107), (115, 122)] s (sx_uf (sx_uf t.1 66 50 a) 66 56 b, t.2) := cx_F_uf rfl f1
  have f3 : cx_F [(66, 66), (100, 107), (115, 122)] s (sx_uf (sx_uf (sx_uf t.1 66 50 a) 66 56 b) 66 58 c, t.2) := cx_F_uf rfl f2
  have f4 : cx_F [(66, 66), (100, 107), (115, 122)] s (sx_uf (sx_uf (sx_uf (sx_uf t.1 66 50 a) 66 56 b) 66 58 c) 66 71 e, t.2) := cx_F_uf rfl f3
  have ef : ∀ q, q ≠ 50 → q ≠ 56 → q ≠ 58 → q ≠ 71 → sx_uf (sx_uf (sx_uf (sx_uf t.1 66 50 a) 66 56 b) 66 58 c) 66 71 e 66 q = t.1 66 q := fun q h1 h2 h3 h4 => by
    rw [sx_uf_if, if_neg (fun c => h4 c.2), sx_uf_if, if_neg (fun c => h3 c.2), sx_uf_if, if_neg (fun c => h2 c.2), sx_uf_if, if_neg (fun c => h1 c.2)]
  have n50 : sx_uf (sx_uf (sx_uf (sx_uf t.1 66 50 a) 66 56 b) 66 58 c) 66 71 e 66 50 = s.1 66 50 := by
    rw [sx_uf_if, if_neg (by decide), sx_uf_if, if_neg (by decide), sx_uf_if, if_neg (by decide), sx_uf_if, if_pos ⟨rfl, rfl⟩, ha]
  have n56 : sx_uf (sx_uf (sx_uf (sx_uf t.1 66 50 a) 66 56 b) 66 58 c) 66 71 e 66 56 = s.1 66 56 := by
    rw [sx_uf_if, if_neg (by decide), sx_uf_if, if_neg (by decide), sx_uf_if, if_pos ⟨rfl, rfl⟩, hb]
  have n58 : sx_uf (sx_uf (sx_uf (sx_uf t.1 66 50 a) 66 56 b) 66 58 c) 66 71 e 66 58 = s.1 66 58 := by
    rw [sx_uf_if, if_neg (by decide), sx_uf_if, if_pos ⟨rfl, rfl⟩, hc]
  have n71 : sx_uf (sx_uf (sx_uf (sx_uf t.1 66 50 a) 66 56 b) 66 58 c) 66 71 e 66 71 = s.1 66 71 := by
    rw [sx_uf_if, if_pos ⟨rfl, rfl⟩, he]
  have n61 := ef 61 (by decide) (by decide) (by decide) (by decide)
  have n64 := ef 64 (by decide) (by decide) (by decide) (by decide)
  have n70 := ef 70 (by decide) (by decide) (by decide) (by decide)
  have n9 := ef 9 (by decide) (by decide) (by decide) (by decide)
  have n42 := ef 42 (by decide) (by decide) (by decide) (by decide)
  obtain ⟨⟨⟨h9, h72, h73, h96, h42⟩, _, _, h61, h64, h70⟩, hR⟩ := hE
  refine ⟨⟨i4, ⟨⟨⟨n9.trans h9, h72, h73, h96, n42.trans h42⟩, ?_, ?_, ?_, ?_, ?_⟩, hR⟩, ⟨n61.trans hN.1, hN.2⟩, ?_⟩, f4, fun q hq => ?_⟩
  · dsimp only
    omega
  · dsimp only
    omega
  · dsimp only
    omega
  · dsimp only
    omega
  · dsimp only
    omega
  · exact rf_OD_same hO n61 (ef 83 (by decide) (by decide) (by decide) (by decide)) (ef 79 (by decide) (by decide) (by decide) (by decide)) (fun p _ => rfl)
  · show sx_uf (sx_uf (sx_uf (sx_uf t.1 66 50 a) 66 56 b) 66 58 c) 66 71 e 66 q = _
    by_cases q50 : q = 50
    · rw [q50]
      exact n50
    · by_cases q56 : q = 56
      · rw [q56]
        exact n56
      · by_cases q58 : q = 58
        · rw [q58]
          exact n58
        · by_cases q71 : q = 71
          · rw [q71]
            exact n71
          · rw [ef q q50 q56 q58 q71]
            refine hf q ?_
            simp only [List.contains_cons, List.contains_nil, Bool.or_eq_false_iff, beq_eq_false_iff_ne, ne_eq, and_true] at hq ⊢
            omega
/-- the state between calls, an answer being there -/
def rf_HS (s : sx_S) (g : rf_Gh) : Prop := rf_WW true (s.1 66 71) (s.1 66 58) s g ∧ s.1 66 45 ≤ s.1 66 61 ∧ (s.1 66 50 ≤ 59935 ∧ s.1 66 56 ≤ 119100 ∧ s.1 66 71 ≤ 390000 ∧ s.1 66 58 ≤ 390000) ∧ ∀ k : Int, 0 ≤ k → k < s.1 66 47 → rf_RT s g (s.2.1 98 k.toNat) ∧ rf_RT s g (s.2.1 99 k.toNat)
theorem rf_WW_86 {s : sx_S} {g : rf_Gh} {aM : Bool} {nb ib : Int} (h : rf_WW aM nb ib s g) : rf_WW aM nb ib (sx_uf s.1 66 86 0, s.2) g ∧ rf_WF s (sx_uf s.1 66 86 0, s.2) := by
  have hI := h.1.1
  have hI1 : cx_I (sx_uf s.1 66 86 0, s.2) := cx_I_uf rfl rfl hI (by decide) (by decide)
  have hF : cx_F [(66, 66), (122, 122)] s (sx_uf s.1 66 86 0, s.2) := cx_F_uf rfl (cx_F_refl _ _)
  have hf : rf_f [86] s (sx_uf s.1 66 86 0, s.2) := rf_f_uf rfl (rf_f_refl _ _)
  obtain ⟨hp, hO, _⟩ := rf_WF_put hF hf
  exact ⟨rf_WW_up h hI1 hp (hO h.2.2.2.2.2), hp⟩
end
section
/-! ===== the reference: an equation's side, as a node under no names ===== -/
theorem rf_rp_at {s : sx_S} : ∀ {x : rf_T} {i e : Int}, rf_rp s .leaf x i e → ∀ (q : Nat) (T : rf_T), (rf_args x)[q]? = some T → rf_vt s (s.2.1 105 (i + (q : Int)).toNat) T
  | .leaf, _, _, _, q, T, hT => by
    have h0 : (rf_args .leaf)[q]? = none := rfl
    rw [h0] at hT
    cases hT
  | .inner n u v A B, i, e, h, q, T, hT => by
    rcases h with ⟨h1, _⟩ | ⟨h1, h2⟩
    · cases h1
    · cases q with
      | zero =>
        have h3 : some A = some T := hT
        cases h3
        have e0 : i + ((0 : Nat) : Int) = i := by omega
        rw [e0]
        exact h1
      | succ q =>
        have h3 : (rf_args B)[q]? = some T := hT
        have h4 := rf_rp_at h2 q T h3
        have e1 : i + ((q + 1 : Nat) : Int) = i + 1 + (q : Int) := by omega
        rw [e1]
        exact h4
theorem rf_rl_mem {s : sx_S} {i : Int} {q : Nat} : ∀ {n : Nat}, q < n → s.2.1 105 (i + (q : Int)).toNat ∈ rf_rl s i n
  | 0, h => absurd h (Nat.not_lt_zero _)
  | n + 1, h => by
    rw [rf_rl_s]
    by_cases e : q = n
    · rw [e]
      exact List.mem_append_right _ (List.mem_cons_self ..)
    · exact List.mem_append_left _ (rf_rl_mem (by omega))
theorem rf_rl_inj {s : sx_S} {i : Int} : ∀ {n : Nat}, (rf_rl s i n).Nodup → ∀ p q : Nat, p < n → q < n → s.2.1 105 (i + (p : Int)).toNat = s.2.1 105 (i + (q : Int)).toNat → p = q
  | 0, _, p, _, h, _, _ => absurd h (Nat.not_lt_zero _)
  | n + 1, h, p, q, hp, hq, he => by
    rw [rf_rl_s] at h
    obtain ⟨h1, _, h3⟩ := List.nodup_append.mp h
    by_cases ep : p = n
    · by_cases eq : q = n
      · rw [ep, eq]
      · subst ep
        exact absurd he.symm (h3 _ (rf_rl_mem (q := q) (by omega)) _ (List.mem_cons_self ..))
    · by_cases eq : q = n
      · subst eq
        exact absurd he (h3 _ (rf_rl_mem (q := p) (by omega)) _ (List.mem_cons_self ..))
      · exact rf_rl_inj h1 p q (by omega) (by omega) he
theorem rf_sc_am {G : Nat → Int → List Int → Prop} {p p' : Nat → Int → Prop} (hp : ∀ j r Γ, G j r Γ → p j r → p' j r) : ∀ {n : rf_N}, (∀ Γ, (rf_sc G n).1 Γ → (rf_am p n).1 → (rf_am p' n).1) ∧ (∀ Γ, (rf_sc G n).2 Γ → (rf_am p n).2 → (rf_am p' n).2)
  | .leaf => ⟨fun _ _ _ => trivial, fun _ _ _ => trivial⟩
  | .inner j k u f x => by
    have hf := rf_sc_am hp (n := f)
    have hx := rf_sc_am hp (n := x)
    have h1 : ∀ Γ, (rf_sc G (.inner j k u f x)).1 Γ → (rf_am p (.inner j k u f x)).1 → (rf_am p' (.inner j k u f x)).1 := by
      rintro Γ (⟨q1, q2⟩ | ⟨q1, q2, q3, q4⟩) ⟨a, b, c⟩
      · exact ⟨fun e => absurd e (by omega), fun e => hf.1 _ q2 (b e), fun e => absurd e (by omega)⟩
      · exact ⟨fun e => hp _ _ _ (q3 e) (a e), fun e => absurd e q1, fun e => hf.2 _ q4 (c e)⟩
    exact ⟨h1, fun Γ ⟨q1, q2⟩ ⟨a, b⟩ => ⟨h1 Γ q1 a, hx.2 Γ q2 b⟩⟩
/-- the unknowns of the problem, as they were made -/
def rf_UK (u : sx_S) : Prop := u.1 66 45 ≤ u.1 66 61 ∧ ∀ r : Int, 0 ≤ r → r < u.1 66 45 → ∃ x : rf_T, rf_is u x (u.2.1 123 r.toNat) ∧ rf_at x ≤ 5 ∧ rf_aa u r = ((rf_args x).length : Int) ∧ ∀ (q : Nat) (T : rf_T), (rf_args x)[q]? = some T → rf_py u r q T
theorem rf_EQ_RT {nb ib : Int} {u : sx_S} {g : rf_Gh} (hM : rf_MI nb ib u g) (hU : rf_UK u) (h70 : 0 ≤ u.1 66 70) {z : Int} {x : rf_T} (h : rf_EQ u z x) : ∃ A : rf_N, rf_CL u g (fun _ _ => False) A .leaf x [] (1150 + (rf_wh A).1) z (-1) ∧ ∀ v, ¬ (rf_fo (rf_Wd u g.2.2) A).1 v := by
  obtain ⟨N, n1, n2, n3, n4⟩ := h
  obtain ⟨h45, hU⟩ := hU
  have hty : (rf_gt (rf_Hn (u.1 66 58) u (fun _ _ => False)) rf_P N).1 x := by
    refine (rf_gt_mono (fun j hj => ⟨fun k r w hw => ?_, fun t ht => ht⟩)).1 x n2
    rcases hw with ⟨e, hv⟩ | ⟨e, hv⟩ | ⟨e, hv⟩ | ⟨e, hw, e', x', ⟨⟨r0, r1⟩, a5, f0, f1⟩, is', rp'⟩
    · exact Or.inl ⟨e, hv⟩
    · exact Or.inr (Or.inl ⟨e, hv⟩)
    · exact Or.inr (Or.inr (Or.inl ⟨e, hv⟩))
    · obtain ⟨x2, i2, a2, l2, p2⟩ := hU r r0 r1
      have ex : x2 = x' := rf_ty_inj i2 is'
      subst ex
      have hl := rf_rp_len rp'
      refine Or.inr (Or.inr (Or.inr ⟨e, hw, ⟨r0, by omega⟩, ⟨f0, by omega⟩, fun q hq => ?_⟩))
      have hq' : q < (rf_args x2).length := by omega
      have hT : (rf_args x2)[q]? = some ((rf_args x2)[q]) := List.getElem?_eq_getElem hq'
      exact ⟨_, p2 q _ hT, Or.inl (rf_rp_at rp' q _ hT)⟩
  have hr : (rf_am (fun _ r => 0 ≤ r ∧ r < u.1 66 45) N).1 := by
    refine (rf_am_gt (fun j r w hw => ?_)).1 x n2
    rcases hw with ⟨e, _⟩ | ⟨e, _⟩ | ⟨e, _⟩ | ⟨e, _, e', x', ⟨⟨r0, r1⟩, _⟩, _⟩
    · exact absurd e (by decide)
    · exact absurd e (by decide)
    · exact absurd e (by decide)
    · exact ⟨r0, r1⟩
  have hlen : ∀ (r : Int) (x' : rf_T), 0 ≤ r ∧ r < u.1 66 45 → rf_is u x' (u.2.1 123 r.toNat) → ∀ q, g.2.2 r q → q < (rf_args x').length := fun r x' hr' is' q hq => by
    obtain ⟨x2, i2, _, l2, _⟩ := hU r hr'.1 hr'.2
    have ex : x2 = x' := rf_ty_inj i2 is'
    subst ex
    have := (hM.1 r hr'.1 (by omega)).2.1 q hq
    omega
  have hdi : (rf_am (rf_di u g.2.2) N).1 := by
    refine (rf_sc_am (G := rf_G u) (fun j r Γ hG hr' => ?_)).1 [] n3 hr
    obtain ⟨x', is', f0, nd, _⟩ := hG
    intro p q hp hq he
    exact rf_rl_inj nd p q (hlen r x' hr' is' p hp) (hlen r x' hr' is' q hq) he
  have hfo : ∀ v, ¬ (rf_fo (rf_Wd u g.2.2) N).1 v := by
    intro v hv
    have ham : (rf_am (fun j r => ∀ Γ, rf_G u j r Γ → ∀ v, rf_Wd u g.2.2 j r v → v ∈ Γ) N).1 := by
      refine (rf_am_mono (fun j _ r hr' => ?_)).1 hr
      intro Γ hG w hw
      obtain ⟨x', is', f0, _, hin⟩ := hG
      obtain ⟨q, hq, ew⟩ := hw
      rw [ew]
      exact hin _ (rf_rl_mem (hlen r x' hr' is' q hq))
    exact absurd ((rf_sc_fo (G := rf_G u) (W := rf_Wd u g.2.2) (n := N)).1 ham [] n3 v hv) List.not_mem_nil
  exact ⟨N, ⟨⟨n1, hty, ⟨fun _ _ h => h.elim, Or.inr (fun _ _ h => h)⟩, rf_NM_nil h70⟩, ⟨hdi, fun a b ha _ _ => absurd ha (hfo a)⟩, n4, ⟨List.nodup_nil, fun x hx => absurd hx List.not_mem_nil, Nat.le_refl _⟩⟩, hfo⟩
/-- it stays so while unknowns are solved -/
theorem rf_UK_up {nb ib : Int} {s t : sx_S} (h : rf_EX nb ib s t) (h45 : t.1 66 45 = s.1 66 45) (h123 : t.2.1 123 = s.2.1 123) (k : rf_UK s) : rf_UK t := by
  obtain ⟨⟨⟨h9, h72, h73, _, _⟩, _, _, h61, h64, _⟩, hR⟩ := h
  obtain ⟨k1, k2⟩ := k
  have his : ∀ x T, rf_is s x T → rf_is t x T := fun x T hx => by
    unfold rf_is at hx ⊢
    rw [h72, h73, h9]
    exact hx
  refine ⟨by omega, fun r r0 r1 => ?_⟩
  obtain ⟨x, i1, a1, l1, p1⟩ := k2 r r0 (by omega)
  obtain ⟨e108, e109, _⟩ := (hR r.toNat).2.2.2.1 (by omega)
  refine ⟨x, ?_, a1, ?_, fun q T hT => ?_⟩
  · rw [h123]
    exact his _ _ i1
  · show t.2.1 108 r.toNat = _
    rw [e108]
    exact l1
  · obtain ⟨⟨b1, b2⟩, b3, b4⟩ := p1 q T hT
    have e110 := (hR (s.2.1 109 r.toNat + (q : Int)).toNat).2.2.2.2.1 (by omega)
    refine ⟨?_, ?_, b4⟩
    · rw [e109]
      omega
    · rw [e109, e110]
      exact his _ _ b3
end
section
/-! ===== the reference: the unknowns are made ===== -/
theorem rf_get_snoc {A T : rf_T} : ∀ {D : List rf_T} {q : Nat}, (D ++ [A])[q]? = some T → (q < D.length ∧ D[q]? = some T) ∨ (q = D.length ∧ T = A)
  | [], 0, h => by
    have h1 : some A = some T := h
    cases h1
    exact Or.inr ⟨rfl, rfl⟩
  | [], q + 1, h => by
    have h1 : (none : Option rf_T) = some T := h
    cases h1
  | d :: D, 0, h => Or.inl ⟨by simp, h⟩
  | d :: D, q + 1, h => by
    have h1 : (D ++ [A])[q]? = some T := h
    rcases rf_get_snoc h1 with ⟨h2, h3⟩ | ⟨h2, h3⟩
    · exact Or.inl ⟨by simp; exact h2, h3⟩
    · exact Or.inr ⟨by simp; exact h2, h3⟩
theorem rf_args_le : ∀ (x T : rf_T), T ∈ rf_args x → rf_at T ≤ rf_at x
  | .leaf, T, h => absurd h List.not_mem_nil
  | .inner n u v A B, T, h => by
    have e : rf_at (.inner n u v A B) = rf_at A + rf_at B := rfl
    have h1 : T ∈ A :: rf_args B := h
    rcases List.mem_cons.mp h1 with h2 | h2
    · rw [h2]
      omega
    · have := rf_args_le B T h2
      omega
def rf_I0 (s u : sx_S) (k : Int) : Prop := ∀ r : Int, 0 ≤ r → r < k → u.2.1 111 r.toNat = 0 ∧ ∃ x : rf_T, rf_is s x (s.2.1 123 r.toNat) ∧ rf_at x ≤ 5 ∧ u.2.1 108 r.toNat = ((rf_args x).length : Int) ∧ (0 ≤ u.2.1 109 r.toNat ∧ u.2.1 109 r.toNat + ((rf_args x).length : Int) ≤ u.1 66 64) ∧ ∀ (q : Nat) (T : rf_T), (rf_args x)[q]? = some T → rf_is s T (u.2.1 110 (u.2.1 109 r.toNat + (q : Int)).toNat)
def rf_I1 (s u : sx_S) (k : Int) : Prop := (cx_I u ∧ cx_F [(66, 66), (108, 111), (124, 124)] s u ∧ rf_f [61, 64] s u) ∧ u.1 66 61 = k ∧ (0 ≤ u.1 66 64 ∧ u.1 66 64 ≤ 4 * k) ∧ rf_I0 s u k
def rf_I2 (s u : sx_S) (k x3 : Int) : Prop := (cx_I u ∧ cx_F [(66, 66), (108, 111), (124, 124)] s u ∧ rf_f [61, 64] s u) ∧ u.1 66 61 = k + 1 ∧ (0 ≤ u.2.1 109 k.toNat ∧ u.2.1 109 k.toNat ≤ 4 * k ∧ u.1 66 64 = u.2.1 109 k.toNat + u.2.1 108 k.toNat) ∧ rf_I0 s u k ∧ u.2.1 111 k.toNat = 0 ∧ ∃ (x y : rf_T) (D : List rf_T), (rf_is s x (s.2.1 123 k.toNat) ∧ rf_at x ≤ 5 ∧ rf_is s y x3) ∧ rf_args x = D ++ rf_args y ∧ u.2.1 108 k.toNat = (D.length : Int) ∧ ∀ (q : Nat) (T : rf_T), D[q]? = some T → rf_is s T (u.2.1 110 (u.2.1 109 k.toNat + (q : Int)).toNat)
theorem rf_I2_0 {s u t : sx_S} {k z : Int} (hk : 0 ≤ k) (h : rf_I1 s u k) (h5 : rf_t5 s (s.2.1 123 k.toNat)) (c1 : cx_I t) (c2 : cx_F [(66, 66), (108, 109), (111, 111), (124, 124)] u t) (c3 : z = u.1 66 61) (c4 : t.1 66 61 = u.1 66 61 + 1) (c5 : rf_f [61] u t) (c6 : rf_ag 108 111 (u.1 66 61) u t) (c7 : t.2.1 108 z.toNat = 0) (c8 : t.2.1 109 z.toNat = u.1 66 64) (c9 : t.2.1 111 z.toNat = 0) : z = k ∧ rf_I2 s t k (s.2.1 123 k.toNat) := by
  obtain ⟨⟨a1, a2, a3⟩, a4, a5, a6⟩ := h
  have ez : z = k := by omega
  subst ez
  obtain ⟨x, hx, h5⟩ := h5
  have e64 := c5 64 rfl
  have e110 : t.2.1 110 = u.2.1 110 := (c2.same 110 rfl).2
  refine ⟨rfl, ⟨c1, cx_F_step c2 rfl a2, rf_f_step c5 rfl a3⟩, by omega, by omega, fun r r0 r1 => ?_, c9, x, x, [], ⟨hx, h5, hx⟩, rfl, by rw [c7]; rfl, fun q T hT => ?_⟩
  · obtain ⟨b1, x', b2, b3, b4, b5, b6⟩ := a6 r r0 r1
    have e108 := c6 108 r.toNat (by omega) (by omega) (by omega)
    have e109 := c6 109 r.toNat (by omega) (by omega) (by omega)
    have e111 := c6 111 r.toNat (by omega) (by omega) (by omega)
    refine ⟨by rw [e111]; exact b1, x', b2, b3, by rw [e108]; exact b4, by rw [e109]; omega, fun q T hT => ?_⟩
    rw [e109, e110]
    exact b6 q T hT
  · have h0 : (none : Option rf_T) = some T := hT
    cases h0
theorem rf_I2_s {s u t : sx_S} {k x3 a : Int} (hk : 0 ≤ k) (h3 : 1 < x3) (h : rf_I2 s u k x3) (ha : a = u.2.1 72 x3.toNat) (c1 : cx_I t) (c2 : cx_F [(66, 66), (108, 108), (110, 110)] u t) (c3 : rf_f [64] u t) (c4 : t.1 66 64 = u.1 66 64 + 1) (c5 : rf_ag 110 110 (u.1 66 64) u t) (c6 : t.2.1 110 (u.1 66 64).toNat = a) (c7 : rf_ro 108 108 k u t) (c8 : t.2.1 108 k.toNat = u.2.1 108 k.toNat + 1) : rf_I2 s t k (t.2.1 73 x3.toNat) := by
  obtain ⟨⟨a1, a2, a3⟩, a4, a5, a6, a7, x, y, D, ⟨b1, b2, b3⟩, b4, b5, b6⟩ := h
  have e61 := c3 61 rfl
  have e109 : t.2.1 109 = u.2.1 109 := (c2.same 109 rfl).2
  have e111 : t.2.1 111 = u.2.1 111 := (c2.same 111 rfl).2
  have f72 : u.2.1 72 = s.2.1 72 := (a2.same 72 rfl).2
  have f73 : u.2.1 73 = s.2.1 73 := (a2.same 73 rfl).2
  have g73 : t.2.1 73 = u.2.1 73 := (c2.same 73 rfl).2
  cases y with
  | leaf =>
    have : 0 ≤ x3 ∧ x3 < 2 := b3
    omega
  | inner n uu vv A B =>
    obtain ⟨⟨n0, n1, n2⟩, bA, bB⟩ := b3
    have hAB : rf_args (.inner n uu vv A B) = A :: rf_args B := rfl
    refine ⟨⟨c1, cx_F_step c2 rfl a2, rf_f_step c3 rfl a3⟩, by omega, ?_, fun r r0 r1 => ?_, by rw [e111]; exact a7, x, B, D ++ [A], ⟨b1, b2, ?_⟩, ?_, ?_, fun q T hT => ?_⟩
    · rw [e109, c8]
      omega
    · obtain ⟨d1, x', d2, d3, d4, d5, d6⟩ := a6 r r0 r1
      have e108 := c7 108 r.toNat (by omega) (by omega) (by omega)
      refine ⟨by rw [e111]; exact d1, x', d2, d3, by rw [e108]; exact d4, by rw [e109]; omega, fun q T hT => ?_⟩
      have hq : q < (rf_args x').length := by
        have := List.getElem?_eq_some_iff.mp hT
        exact this.1
      rw [e109, c5 110 _ (by omega) (by omega) (by omega)]
      exact d6 q T hT
    · rw [g73, f73]
      exact bB
    · rw [b4, hAB, List.append_assoc]
      rfl
    · rw [c8, b5, List.length_append]
      rfl
    · rcases rf_get_snoc hT with ⟨q1, q2⟩ | ⟨q1, q2⟩
      · rw [e109, c5 110 _ (by omega) (by omega) (by omega)]
        exact b6 q T q2
      · subst q2
        rw [e109, show (u.2.1 109 k.toNat + (q : Int)).toNat = (u.1 66 64).toNat by omega, c6, ha, f72]
        exact bA
theorem rf_I2_e {s u : sx_S} {k x3 : Int} (hk : 0 ≤ k) (h3 : x3 ≤ 1) (h : rf_I2 s u k x3) : rf_I1 s u (k + 1) := by
  obtain ⟨⟨a1, a2, a3⟩, a4, a5, a6, a7, x, y, D, ⟨b1, b2, b3⟩, b4, b5, b6⟩ := h
  have r108 := a1.arr 108 (by decide) rfl k.toNat
  cases y with
  | inner n uu vv A B =>
    obtain ⟨⟨n0, n1, n2⟩, bA, bB⟩ := b3
    omega
  | leaf =>
    have hD : rf_args x = D := by
      rw [b4]
      exact List.append_nil D
    subst hD
    refine ⟨⟨a1, a2, a3⟩, a4, by omega, fun r r0 r1 => ?_⟩
    by_cases hr : r < k
    · exact a6 r r0 hr
    · have e : r = k := by omega
      subst e
      exact ⟨a7, x, b1, b2, b5, by omega, b6⟩
/-- the unknowns are as the problem says -/
theorem rf_I1_UK {s u : sx_S} (h : rf_I1 s u (s.1 66 45)) : rf_UK u := by
  obtain ⟨⟨a1, a2, a3⟩, a4, a5, a6⟩ := h
  have e45 := a3 45 rfl
  have e9 := a3 9 rfl
  have e72 : u.2.1 72 = s.2.1 72 := (a2.same 72 rfl).2
  have e73 : u.2.1 73 = s.2.1 73 := (a2.same 73 rfl).2
  have e123 : u.2.1 123 = s.2.1 123 := (a2.same 123 rfl).2
  have his : ∀ x T, rf_is s x T → rf_is u x T := fun x T hx => by
    unfold rf_is at hx ⊢
    rw [e72, e73, e9]
    exact hx
  refine ⟨by omega, fun r r0 r1 => ?_⟩
  obtain ⟨b1, x, b2, b3, b4, b5, b6⟩ := a6 r r0 (by omega)
  refine ⟨x, by rw [e123]; exact his _ _ b2, b3, b4, fun q T hT => ?_⟩
  obtain ⟨hq, hqT⟩ := List.getElem?_eq_some_iff.mp hT
  refine ⟨by omega, his _ _ (b6 q T hT), ?_⟩
  have hm : T ∈ rf_args x := by
    rw [← hqT]
    exact List.getElem_mem hq
  have := rf_args_le x T hm
  omega
def rf_g0 (u : sx_S) : rf_Gh := (fun _ => .leaf, fun _ => .leaf, fun r q => (q : Int) < rf_aa u r)
theorem rf_rc_fst {R : Int → Int → Prop} {x y : Int} (h : rf_rc R x y) : ∃ z, R x z := by
  induction h with
  | single h => exact ⟨_, h⟩
  | tail _ _ ih => exact ih
theorem rf_I1_MI {s u : sx_S} {nb ib : Int} (h : rf_I1 s u (s.1 66 45)) : rf_MI nb ib u (rf_g0 u) := by
  have hU := rf_I1_UK h
  obtain ⟨⟨a1, a2, a3⟩, a4, a5, a6⟩ := h
  have e45 := a3 45 rfl
  refine ⟨fun x x0 x1 => ?_, fun x hx => ?_⟩
  · obtain ⟨b1, _⟩ := a6 x x0 (by omega)
    obtain ⟨y, d1, d2, d3, d4⟩ := hU.2 x x0 (by omega)
    refine ⟨fun q hq => ?_, fun q hq => hq, fun _ q hq => hq, fun c => absurd b1 c⟩
    have hq' : q < (rf_args y).length := by omega
    exact ⟨_, d4 q _ (List.getElem?_eq_getElem hq')⟩
  · obtain ⟨z, ⟨z1, z2⟩, z3, _⟩ := rf_rc_fst hx
    exact z3 (a6 x z1 (by omega)).1
theorem rf_I1_bd {s u : sx_S} (h45 : 0 ≤ s.1 66 45 ∧ s.1 66 45 ≤ 5) (h : rf_I1 s u (s.1 66 45)) : rf_ph u (rf_g0 u) ≤ 1150 ∧ rf_qu u ≤ 25 := by
  obtain ⟨⟨a1, a2, a3⟩, a4, a5, a6⟩ := h
  have f1 : ∀ j, rf_wt u (rf_g0 u) j ≤ 230 := fun j => by
    have r108 := a1.arr 108 (by decide) rfl j
    unfold rf_wt
    by_cases c : u.2.1 111 j = 0
    · rw [if_pos c]
      omega
    · rw [if_neg c]
      show (rf_wh .leaf).1 ≤ 230
      exact Nat.zero_le _
  have f2 : ∀ j, rf_q1 u j ≤ 5 := fun j => by
    have r108 := a1.arr 108 (by decide) rfl j
    unfold rf_q1
    by_cases c : u.2.1 111 j = 0
    · rw [if_pos c]
      omega
    · rw [if_neg c]
      omega
  have g1 := rf_sum_bd f1 (u.1 66 61).toNat
  have g2 := rf_sum_bd f2 (u.1 66 61).toNat
  unfold rf_ph rf_qu
  omega
end
section
/-! ===== the reference: solve ===== -/
def rf_z8 (s : sx_S) : sx_S := (sx_uf (sx_uf (sx_uf (sx_uf (sx_uf (sx_uf (sx_uf (sx_uf s.1 66 50 (s.1 66 75)) 66 56 (s.1 66 76)) 66 58 (s.1 66 77)) 66 71 0) 66 61 0) 66 64 0) 66 70 0) 66 78 0, s.2)
theorem rf_z8_f {s : sx_S} : ((rf_z8 s).1 66 50 = s.1 66 75 ∧ (rf_z8 s).1 66 56 = s.1 66 76 ∧ (rf_z8 s).1 66 58 = s.1 66 77) ∧ ((rf_z8 s).1 66 71 = 0 ∧ (rf_z8 s).1 66 61 = 0 ∧ (rf_z8 s).1 66 64 = 0 ∧ (rf_z8 s).1 66 70 = 0 ∧ (rf_z8 s).1 66 78 = 0) ∧ ∀ k, k ≠ 50 → k ≠ 56 → k ≠ 58 → k ≠ 71 → k ≠ 61 → k ≠ 64 → k ≠ 70 → k ≠ 78 → (rf_z8 s).1 66 k = s.1 66 k := by
  refine ⟨⟨?_, ?_, ?_⟩, ⟨?_, ?_, ?_, ?_, ?_⟩, fun k h1 h2 h3 h4 h5 h6 h7 h8 => ?_⟩
  · simp [rf_z8, sx_uf_if]
  · simp [rf_z8, sx_uf_if]
  · simp [rf_z8, sx_uf_if]
  · simp [rf_z8, sx_uf_if]
  · simp [rf_z8, sx_uf_if]
  · simp [rf_z8, sx_uf_if]
  · simp [rf_z8, sx_uf_if]
  · simp [rf_z8, sx_uf_if]
  · simp [rf_z8, sx_uf_if, h1, h2, h3, h4, h5, h6, h7, h8]
/-- what stays of the loaded problem -/
def rf_Z (s t : sx_S) : Prop := (cx_F [(66, 66), (100, 122), (124, 124)] s t ∧ rf_f [50, 56, 58, 61, 64, 70, 71, 78, 79, 83, 86, 89] s t) ∧ (rf_ag 100 104 (s.1 66 50) s t ∧ rf_ag 105 105 (s.1 66 56) s t ∧ rf_ag 106 106 (s.1 66 58) s t) ∧ s.1 66 50 ≤ t.1 66 50 ∧ s.1 66 56 ≤ t.1 66 56 ∧ s.1 66 58 ≤ t.1 66 58
theorem rf_Z_trans {s t u : sx_S} (h2 : rf_Z t u) (h1 : rf_Z s t) : rf_Z s u := by
  obtain ⟨⟨a1, a2⟩, ⟨a3, a4, a5⟩, a6, a7, a8⟩ := h1
  obtain ⟨⟨b1, b2⟩, ⟨b3, b4, b5⟩, b6, b7, b8⟩ := h2
  exact ⟨⟨cx_F_step b1 rfl a1, rf_f_step b2 rfl a2⟩, ⟨rf_ag_trans b3 a6 a3, rf_ag_trans b4 a7 a4, rf_ag_trans b5 a8 a5⟩, by omega, by omega, by omega⟩
theorem rf_Z_FS {s t : sx_S} (h : rf_FS s t) : rf_Z s t := by
  obtain ⟨⟨a1, a2⟩, ⟨a3, a4, a5⟩, a6, a7, a8⟩ := h
  exact ⟨⟨cx_F_step a1 rfl (cx_F_refl _ _), rf_f_step a2 rfl (rf_f_refl _ _)⟩, ⟨a3, a4, a5⟩, a6, a7, a8⟩
theorem rf_Z_I1 {s u : sx_S} {k : Int} (h : rf_I1 s u k) : rf_Z s u := by
  obtain ⟨⟨a1, a2, a3⟩, _⟩ := h
  have e50 := a3 50 rfl
  have e56 := a3 56 rfl
  have e58 := a3 58 rfl
  exact ⟨⟨cx_F_step a2 rfl (cx_F_refl _ _), rf_f_step a3 rfl (rf_f_refl _ _)⟩, ⟨rf_ag_F a2 rfl (rf_ag_refl _ _ _ _), rf_ag_F a2 rfl (rf_ag_refl _ _ _ _), rf_ag_F a2 rfl (rf_ag_refl _ _ _ _)⟩, by omega, by omega, by omega⟩
theorem rf_Z_NU {s t : sx_S} {k : Int} (h : rf_NU s t k) : rf_Z s t := by
  obtain ⟨⟨a1, a2, a3, a4⟩, ⟨b1, b2⟩, c1, c2, c3, c4, c5⟩ := h
  refine ⟨⟨cx_F_step b1 rfl (cx_F_refl _ _), rf_f_step b2 rfl (rf_f_refl _ _)⟩, ⟨fun p j h1 h2 h3 => ?_, fun p j h1 h2 h3 => ?_, fun p j h1 h2 h3 => ?_⟩, c1.1, c2.1, c3.1⟩
  · obtain ⟨d1, d2, d3, d4, d5⟩ := (a2.2 j).1 h3
    have : p = 100 ∨ p = 101 ∨ p = 102 ∨ p = 103 ∨ p = 104 := by omega
    rcases this with rfl | rfl | rfl | rfl | rfl
    · exact d1
    · exact d2
    · exact d3
    · exact d4
    · exact d5
  · have : p = 105 := by omega
    subst this
    exact (a2.2 j).2.1 h3
  · have : p = 106 := by omega
    subst this
    exact (a2.2 j).2.2.1 h3
theorem rf_Z_uf {s : sx_S} {k : Nat} {v : Int} (hk : k = 78 ∨ k = 89) : rf_Z s (sx_uf s.1 66 k v, s.2) := by
  have e : ∀ q, q ≠ k → sx_uf s.1 66 k v 66 q = s.1 66 q := fun q hq => by rw [sx_uf_if, if_neg (fun c => hq c.2)]
  have e50 := e 50 (by omega)
  have e56 := e 56 (by omega)
  have e58 := e 58 (by omega)
  refine ⟨⟨?_, ?_⟩, ⟨rf_ag_refl _ _ _ s, rf_ag_refl _ _ _ s, rf_ag_refl _ _ _ s⟩, ?_, ?_, ?_⟩
  · rcases hk with rfl | rfl <;> exact cx_F_uf rfl (cx_F_refl _ _)
  · rcases hk with rfl | rfl <;> exact rf_f_uf rfl (rf_f_refl _ _)
  · exact Int.le_of_eq e50.symm
  · exact Int.le_of_eq e56.symm
  · exact Int.le_of_eq e58.symm
theorem rf_Z_xu {s t : sx_S} (h : rf_Z s t) : rf_xu s t := by
  obtain ⟨⟨a1, a2⟩, ⟨a3, a4, a5⟩, a6, a7, a8⟩ := h
  exact ⟨fun j => ⟨Int.le_of_eq (a2 9 rfl).symm, fun _ => ⟨by rw [(a1.same 72 rfl).2], by rw [(a1.same 73 rfl).2]⟩⟩, fun j => ⟨⟨a8, a7, a6, a2 42 rfl, a2 45 rfl⟩, fun hj => a5 106 j (by omega) (by omega) hj, fun hj => a4 105 j (by omega) (by omega) hj, fun hj => a3 104 j (by omega) (by omega) hj, by rw [(a1.same 96 rfl).2], by rw [(a1.same 123 rfl).2]⟩⟩
theorem rf_Z_ES {s t : sx_S} (h : rf_Z s t) (k : rf_ES s) : rf_ES t := rf_ES_up (fun p j h1 h2 h3 => h.2.1.1 p j h1 (by omega) h3) (rf_Z_xu h) (h.1.2 47 rfl) (h.1.1.same 98 rfl).2 (h.1.1.same 99 rfl).2 k
theorem rf_z8_Z {s : sx_S} : rf_f [50, 56, 58, 61, 64, 70, 71, 78] s (rf_z8 s) ∧ cx_F [(66, 66)] s (rf_z8 s) := by
  unfold rf_z8
  refine ⟨?_, ?_⟩
  · repeat (refine rf_f_uf rfl ?_)
    exact rf_f_refl _ _
  · repeat (refine cx_F_uf rfl ?_)
    exact cx_F_refl _ _
theorem rf_z8_I {s : sx_S} (hI : cx_I s) : cx_I (rf_z8 s) := by
  have r75 := hI.fld 66 75 (by decide) rfl
  have r76 := hI.fld 66 76 (by decide) rfl
  have r77 := hI.fld 66 77 (by decide) rfl
  unfold rf_z8
  refine cx_I_uf rfl rfl ?_ (by decide) (by decide)
  refine cx_I_uf rfl rfl ?_ (by decide) (by decide)
  refine cx_I_uf rfl rfl ?_ (by decide) (by decide)
  refine cx_I_uf rfl rfl ?_ (by decide) (by decide)
  refine cx_I_uf rfl rfl ?_ (by decide) (by decide)
  refine cx_I_uf rfl rfl ?_ (by omega) (by omega)
  refine cx_I_uf rfl rfl ?_ (by omega) (by omega)
  refine cx_I_uf rfl rfl ?_ (by omega) (by omega)
  exact hI
theorem rf_z8_xu {s : sx_S} : rf_xu (rf_l0 s) (rf_z8 s) := by
  obtain ⟨l1, l2, l3, l4, _⟩ := rf_l0_f (s := s)
  obtain ⟨⟨z1, z2, z3⟩, _, z4⟩ := rf_z8_f (s := s)
  have e9 : (rf_z8 s).1 66 9 = (rf_l0 s).1 66 9 := (z4 9 (by decide) (by decide) (by decide) (by decide) (by decide) (by decide) (by decide) (by decide)).trans (l4 9 (by decide) (by decide) (by decide)).symm
  have e42 : (rf_z8 s).1 66 42 = (rf_l0 s).1 66 42 := (z4 42 (by decide) (by decide) (by decide) (by decide) (by decide) (by decide) (by decide) (by decide)).trans (l4 42 (by decide) (by decide) (by decide)).symm
  have e45 : (rf_z8 s).1 66 45 = (rf_l0 s).1 66 45 := (z4 45 (by decide) (by decide) (by decide) (by decide) (by decide) (by decide) (by decide) (by decide)).trans (l4 45 (by decide) (by decide) (by decide)).symm
  exact ⟨fun j => ⟨Int.le_of_eq e9.symm, fun _ => ⟨rfl, rfl⟩⟩, fun j => ⟨⟨by omega, by omega, by omega, e42, e45⟩, fun _ => rfl, fun _ => rfl, fun _ => rfl, rfl, rfl⟩⟩
theorem rf_z8_ES {s : sx_S} (h : rf_ES (rf_l0 s)) : rf_ES (rf_z8 s) := by
  obtain ⟨l1, l2, l3, l4, _⟩ := rf_l0_f (s := s)
  obtain ⟨⟨z1, z2, z3⟩, _, z4⟩ := rf_z8_f (s := s)
  exact rf_ES_up (s := rf_l0 s) (t := rf_z8 s) (fun _ _ _ _ _ => rfl) rf_z8_xu ((z4 47 (by decide) (by decide) (by decide) (by decide) (by decide) (by decide) (by decide) (by decide)).trans (l4 47 (by decide) (by decide) (by decide)).symm) rfl rfl h
theorem rf_t5_9 {s t : sx_S} {T : Int} (h9 : t.1 66 9 = s.1 66 9) (h72 : t.2.1 72 = s.2.1 72) (h73 : t.2.1 73 = s.2.1 73) (h : rf_t5 s T) : rf_t5 t T := by
  obtain ⟨x, h1, h2⟩ := h
  refine ⟨x, ?_, h2⟩
  unfold rf_is at h1 ⊢
  rw [h72, h73, h9]
  exact h1
/-- the loaded problem stays -/
theorem rf_Z_LD {s t : sx_S} (hL : rf_LD s) (h : rf_Z (rf_z8 s) t) : rf_LD t := by
  obtain ⟨⟨hE, hC⟩, h75, h76, h77, h9, _, h34⟩ := hL
  obtain ⟨⟨z1, z2, z3⟩, _, z4⟩ := rf_z8_f (s := s)
  obtain ⟨l1, l2, l3, l4, _⟩ := rf_l0_f (s := s)
  obtain ⟨m1, m2, m3, m4, _⟩ := rf_l0_f (s := t)
  obtain ⟨⟨a1, a2⟩, ⟨a3, a4, a5⟩, a6, a7, a8⟩ := h
  have Z : ∀ k, k ≠ 50 → k ≠ 56 → k ≠ 58 → k ≠ 71 → k ≠ 61 → k ≠ 64 → k ≠ 70 → k ≠ 78 → k ≠ 79 → k ≠ 83 → k ≠ 86 → k ≠ 89 → t.1 66 k = s.1 66 k := fun k h1 h2 h3 h4 h5 h6 h7 h8 h9 h10 h11 h12 => (a2 k (by simp [h1, h2, h3, h4, h5, h6, h7, h8, h9, h10, h11, h12])).trans (z4 k h1 h2 h3 h4 h5 h6 h7 h8)
  have t9 : t.1 66 9 = s.1 66 9 := Z 9 (by decide) (by decide) (by decide) (by decide) (by decide) (by decide) (by decide) (by decide) (by decide) (by decide) (by decide) (by decide)
  have t42 : t.1 66 42 = s.1 66 42 := Z 42 (by decide) (by decide) (by decide) (by decide) (by decide) (by decide) (by decide) (by decide) (by decide) (by decide) (by decide) (by decide)
  have t45 : t.1 66 45 = s.1 66 45 := Z 45 (by decide) (by decide) (by decide) (by decide) (by decide) (by decide) (by decide) (by decide) (by decide) (by decide) (by decide) (by decide)
  have t47 : t.1 66 47 = s.1 66 47 := Z 47 (by decide) (by decide) (by decide) (by decide) (by decide) (by decide) (by decide) (by decide) (by decide) (by decide) (by decide) (by decide)
  have t34 : t.1 66 34 = s.1 66 34 := Z 34 (by decide) (by decide) (by decide) (by decide) (by decide) (by decide) (by decide) (by decide) (by decide) (by decide) (by decide) (by decide)
  have t75 : t.1 66 75 = s.1 66 75 := Z 75 (by decide) (by decide) (by decide) (by decide) (by decide) (by decide) (by decide) (by decide) (by decide) (by decide) (by decide) (by decide)
  have t76 : t.1 66 76 = s.1 66 76 := Z 76 (by decide) (by decide) (by decide) (by decide) (by decide) (by decide) (by decide) (by decide) (by decide) (by decide) (by decide) (by decide)
  have t77 : t.1 66 77 = s.1 66 77 := Z 77 (by decide) (by decide) (by decide) (by decide) (by decide) (by decide) (by decide) (by decide) (by decide) (by decide) (by decide) (by decide)
  have y9 : (rf_l0 t).1 66 9 = (rf_l0 s).1 66 9 := ((m4 9 (by decide) (by decide) (by decide)).trans t9).trans (l4 9 (by decide) (by decide) (by decide)).symm
  have y42 : (rf_l0 t).1 66 42 = (rf_l0 s).1 66 42 := ((m4 42 (by decide) (by decide) (by decide)).trans t42).trans (l4 42 (by decide) (by decide) (by decide)).symm
  have y45 : (rf_l0 t).1 66 45 = (rf_l0 s).1 66 45 := ((m4 45 (by decide) (by decide) (by decide)).trans t45).trans (l4 45 (by decide) (by decide) (by decide)).symm
  have y47 : (rf_l0 t).1 66 47 = (rf_l0 s).1 66 47 := ((m4 47 (by decide) (by decide) (by decide)).trans t47).trans (l4 47 (by decide) (by decide) (by decide)).symm
  have y34 : (rf_l0 t).1 66 34 = (rf_l0 s).1 66 34 := ((m4 34 (by decide) (by decide) (by decide)).trans t34).trans (l4 34 (by decide) (by decide) (by decide)).symm
  have s34 := l4 34 (by decide) (by decide) (by decide)
  have u72 : (rf_l0 t).2.1 72 = (rf_l0 s).2.1 72 := (a1.same 72 rfl).2
  have u73 : (rf_l0 t).2.1 73 = (rf_l0 s).2.1 73 := (a1.same 73 rfl).2
  have u96 : (rf_l0 t).2.1 96 = (rf_l0 s).2.1 96 := (a1.same 96 rfl).2
  have u123 : (rf_l0 t).2.1 123 = (rf_l0 s).2.1 123 := (a1.same 123 rfl).2
  have u98 : (rf_l0 t).2.1 98 = (rf_l0 s).2.1 98 := (a1.same 98 rfl).2
  have u99 : (rf_l0 t).2.1 99 = (rf_l0 s).2.1 99 := (a1.same 99 rfl).2
  have hxu : rf_xu (rf_l0 s) (rf_l0 t) := ⟨fun j => ⟨Int.le_of_eq y9.symm, fun _ => ⟨by rw [u72], by rw [u73]⟩⟩, fun j => ⟨⟨by omega, by omega, by omega, y42, y45⟩, fun hj => a5 106 j (by omega) (by omega) (by omega), fun hj => a4 105 j (by omega) (by omega) (by omega), fun hj => a3 104 j (by omega) (by omega) (by omega), by rw [u96], by rw [u123]⟩⟩
  refine ⟨⟨rf_ES_up (s := rf_l0 s) (t := rf_l0 t) (fun p j h1 h2 h3 => a3 p j h1 (by omega) (by omega)) hxu y47 u98 u99 hE, fun k => ⟨fun hk => ?_, fun hk => ?_, fun hk => absurd hk (by omega)⟩⟩, by omega, by omega, by omega, by omega, by omega, by omega⟩
  · rw [u96]
    exact rf_t5_9 y9 u72 u73 ((hC k).1 (by omega))
  · rw [u123]
    exact rf_t5_9 y9 u72 u73 ((hC k).2.1 (by omega))
theorem rf_mul_bd {a b p : Nat} (hb : b ≤ a) (hp : p ≤ 2700) : max 1 (a - b) * p + 2700 * b ≤ 2700 + 2700 * a := by
  have h1 : max 1 (a - b) ≤ 1 + (a - b) := by omega
  have h2 : max 1 (a - b) * p ≤ (1 + (a - b)) * 2700 := Nat.mul_le_mul h1 hp
  omega
/-- what solve leaves -/
def rf_SO (s t : sx_S) : Prop := (cx_I t ∧ cx_F [(66, 66), (100, 122), (124, 124)] s t ∧ rf_f [50, 56, 58, 61, 64, 70, 71, 78, 79, 83, 86, 89] s t) ∧ rf_LD t ∧ (t.1 66 78 ≠ 0 → ∃ g, rf_HS t g)
theorem rf_SO_no {s t : sx_S} (hL : rf_LD s) (hI : cx_I t) (h : rf_Z (rf_z8 s) t) (h78 : t.1 66 78 = 0 ∨ ∃ g, rf_HS t g) : rf_SO s t := by
  obtain ⟨f1, f2⟩ := rf_z8_Z (s := s)
  exact ⟨⟨hI, cx_F_step h.1.1 rfl (cx_F_step f2 rfl (cx_F_refl _ _)), rf_f_step h.1.2 rfl (rf_f_step f1 rfl (rf_f_refl _ _))⟩, rf_Z_LD hL h, fun c => h78.elim (fun q => absurd q c) id⟩
theorem rf_EX_u1 {nb ib v : Int} {k : Nat} {s : sx_S} (hk : k = 78 ∨ k = 89) : rf_EX nb ib s (sx_uf s.1 66 k v, s.2) ∧ rf_NC s (sx_uf s.1 66 k v, s.2) ∧ (rf_OD s → rf_OD (sx_uf s.1 66 k v, s.2)) := by
  have e : ∀ q, q ≠ k → sx_uf s.1 66 k v 66 q = s.1 66 q := fun q hq => by rw [sx_uf_if, if_neg (fun c => hq c.2)]
  exact ⟨⟨⟨⟨e 9 (by omega), rfl, rfl, rfl, e 42 (by omega)⟩, Int.le_of_eq (e 50 (by omega)).symm, Int.le_of_eq (e 56 (by omega)).symm, Int.le_of_eq (e 61 (by omega)).symm, Int.le_of_eq (e 64 (by omega)).symm, Int.le_of_eq (e 70 (by omega)).symm⟩, fun _ => ⟨fun _ => ⟨rfl, rfl, rfl, rfl, rfl⟩, fun _ => rfl, fun _ => rfl, fun _ => ⟨rfl, rfl, fun _ => ⟨rfl, rfl, rfl, rfl⟩⟩, fun _ => rfl, fun _ => ⟨rfl, rfl, rfl⟩⟩⟩, ⟨e 61 (by omega), fun _ _ => rfl⟩, fun h => rf_OD_same h (e 61 (by omega)) (e 83 (by omega)) (e 79 (by omega)) (fun _ _ => rfl)⟩
end
section
/-! ===== the reference: the state between calls ===== -/
/-- what holds between calls -/
def rf_BC (s : sx_S) : Prop := cx_I s ∧ (s.1 66 37 ≠ 0 → rf_LD s) ∧ (s.1 66 78 ≠ 0 → ∃ g, rf_HS s g)
theorem rf_RT_up {s t : sx_S} {g : rf_Gh} (hE : rf_EX (s.1 66 71) (s.1 66 58) s t) (e71 : t.1 66 71 = s.1 66 71) (e58 : t.1 66 58 = s.1 66 58) (hu : rf_Ub s g) {i : Int} (h : rf_RT s g i) : rf_RT t g i := by
  obtain ⟨A, x, k, hfo⟩ := h
  refine ⟨A, x, rf_CL_up hE (by omega) (by omega) (rf_EG_refl s g) hu k, fun v hv => hfo v ?_⟩
  exact (rf_Wd_up hE (fun r q r0 r1 hq => ⟨hq, hu r q r0 r1 hq⟩)).1 ((rf_bn_gn k.1.1).1 _ k.1.2.1) v hv
theorem rf_HS_up {s t : sx_S} {g : rf_Gh} (hI : cx_I t) (hE : rf_EX (s.1 66 71) (s.1 66 58) s t) (hN : rf_NC s t) (hO : rf_OD t) (e71 : t.1 66 71 = s.1 66 71) (e58 : t.1 66 58 = s.1 66 58) (e50 : t.1 66 50 = s.1 66 50) (e56 : t.1 66 56 = s.1 66 56) (e70 : t.1 66 70 = s.1 66 70) (e45 : t.1 66 45 = s.1 66 45) (e47 : t.1 66 47 = s.1 66 47) (e98 : t.2.1 98 = s.2.1 98) (e99 : t.2.1 99 = s.2.1 99) (h : rf_HS s g) : rf_HS t g := by
  obtain ⟨⟨⟨a1, a2, a3, a4, a5⟩, a6, a7, a8, a9, a10⟩, b1, b2, b3⟩ := h
  have e9 := hE.1.1.1
  have e61 := hN.1
  have hu : rf_Ub s g := fun r q h1 h2 h3 => (a2.1 r h1 h2).2.1 q h3
  have a9' : s.1 66 50 ≤ 59950 ∧ s.1 66 56 ≤ 119900 := a9
  refine ⟨⟨⟨hI, rf_NC_MI hE hN (by omega) (by omega) a2, Int.le_refl _, Int.le_refl _, by rw [rf_NC_ph hE hN]; exact a5⟩, by omega, by omega, by omega, ⟨by show t.1 66 50 ≤ 59950; omega, by omega⟩, hO⟩, by omega, by omega, fun k k0 k1 => ?_⟩
  obtain ⟨c1, c2⟩ := b3 k k0 (by omega)
  rw [e98, e99]
  exact ⟨rf_RT_up hE e71 e58 hu c1, rf_RT_up hE e71 e58 hu c2⟩
/-- what writing leaves, between calls -/
theorem rf_BC_PP {s t : sx_S} (h78 : s.1 66 78 ≠ 0) (h : rf_BC s) (p : rf_PP s t) : rf_BC t := by
  obtain ⟨hI, hL, hH⟩ := h
  obtain ⟨⟨p1, p2, p3, p4⟩, p5, p6⟩ := p
  have e50 := p6 50 rfl
  have e56 := p6 56 rfl
  have e58 := p6 58 rfl
  have e71 := p6 71 rfl
  have e37 := p6 37 rfl
  have e78 := p6 78 rfl
  refine ⟨p1, fun c => ?_, fun _ => ?_⟩
  · have hLs := hL (by omega)
    refine rf_Z_LD hLs ?_
    obtain ⟨_, h75, h76, h77, h9, ⟨q1, q2, q3⟩, h34⟩ := hLs
    obtain ⟨⟨z1, z2, z3⟩, _, z4⟩ := rf_z8_f (s := s)
    obtain ⟨_, fz⟩ := rf_z8_Z (s := s)
    have hFt : cx_F [(66, 66), (100, 122), (124, 124)] s t := cx_F_step p5 rfl (cx_F_refl _ _)
    refine ⟨⟨fun a => ⟨fun ha => ?_, ?_⟩, fun k hk => ?_⟩, ⟨fun a j h1 h2 h3 => ?_, fun a j h1 h2 h3 => ?_, fun a j h1 h2 h3 => ?_⟩, by omega, by omega, by omega⟩
    · have hz := (fz a).1 (fun q hq => by
        have hq' : q = (66, 66) := by simpa using hq
        rw [hq']
        exact ha (66, 66) (by simp))
      have ht := (hFt a).1 ha
      exact ⟨ht.1.trans hz.1.symm, ht.2.trans hz.2.symm⟩
    · exact (hFt a).2.trans (fz a).2.symm
    · simp only [List.contains_cons, List.contains_nil, Bool.or_eq_false_iff, beq_eq_false_iff_ne, ne_eq, and_true] at hk
      rw [z4 k (by omega) (by omega) (by omega) (by omega) (by omega) (by omega) (by omega) (by omega)]
      refine p6 k ?_
      simp only [List.contains_cons, List.contains_nil, Bool.or_eq_false_iff, beq_eq_false_iff_ne, ne_eq, and_true]
      omega
    · obtain ⟨d1, d2, d3, d4, d5⟩ := (p2.2 j).1 (by omega)
      have : a = 100 ∨ a = 101 ∨ a = 102 ∨ a = 103 ∨ a = 104 := by omega
      rcases this with rfl | rfl | rfl | rfl | rfl
      · exact d1
      · exact d2
      · exact d3
      · exact d4
      · exact d5
    · have : a = 105 := by omega
      subst this
      exact (p2.2 j).2.1 (by omega)
    · have : a = 106 := by omega
      subst this
      exact (p2.2 j).2.2.1 (by omega)
  · obtain ⟨g, hg⟩ := hH h78
    exact ⟨g, rf_HS_up p1 p2 p3 p4 e71 e58 e50 e56 (p6 70 rfl) (p6 45 rfl) (p6 47 rfl) (p5.same 98 rfl).2 (p5.same 99 rfl).2 hg⟩
/-- what the desk does, and what is fed, leaves it so -/
theorem rf_BC_k {s t : sx_S} (hI : cx_I t) (hF : cx_F [(0, 67)] s t) (hf : rf_f [1] s t) (h : rf_BC s) : rf_BC t := by
  obtain ⟨_, hL, hH⟩ := h
  have A : ∀ p, cx_outb [(0, 67)] p = true → t.2.1 p = s.2.1 p := fun p hp => (hF.same p hp).2
  have e37 := hf 37 rfl
  have e78 := hf 78 rfl
  have e50 := hf 50 rfl
  have e56 := hf 56 rfl
  have e58 := hf 58 rfl
  have e61 := hf 61 rfl
  have e64 := hf 64 rfl
  have e70 := hf 70 rfl
  have e71 := hf 71 rfl
  have e9 := hf 9 rfl
  have e42 := hf 42 rfl
  have e34 := hf 34 rfl
  have e45 := hf 45 rfl
  have e47 := hf 47 rfl
  have e75 := hf 75 rfl
  have e76 := hf 76 rfl
  have e77 := hf 77 rfl
  refine ⟨hI, fun c => ?_, fun c => ?_⟩
  · obtain ⟨⟨hE, hC⟩, h75, h76, h77, h9, hq, h34⟩ := hL (by omega)
    obtain ⟨l1, l2, l3, l4, _⟩ := rf_l0_f (s := s)
    obtain ⟨m1, m2, m3, m4, _⟩ := rf_l0_f (s := t)
    have Y : ∀ k, k ≠ 50 → k ≠ 56 → k ≠ 58 → t.1 66 k = s.1 66 k → (rf_l0 t).1 66 k = (rf_l0 s).1 66 k := fun k h1 h2 h3 h4 => ((m4 k h1 h2 h3).trans h4).trans (l4 k h1 h2 h3).symm
    have y9 := Y 9 (by decide) (by decide) (by decide) e9
    have y42 := Y 42 (by decide) (by decide) (by decide) e42
    have y45 := Y 45 (by decide) (by decide) (by decide) e45
    have y47 := Y 47 (by decide) (by decide) (by decide) e47
    have y34 := Y 34 (by decide) (by decide) (by decide) e34
    have s34 := l4 34 (by decide) (by decide) (by decide)
    have u72 : (rf_l0 t).2.1 72 = (rf_l0 s).2.1 72 := A 72 rfl
    have u73 : (rf_l0 t).2.1 73 = (rf_l0 s).2.1 73 := A 73 rfl
    have u96 : (rf_l0 t).2.1 96 = (rf_l0 s).2.1 96 := A 96 rfl
    have u123 : (rf_l0 t).2.1 123 = (rf_l0 s).2.1 123 := A 123 rfl
    have u104 : (rf_l0 t).2.1 104 = (rf_l0 s).2.1 104 := A 104 rfl
    have u105 : (rf_l0 t).2.1 105 = (rf_l0 s).2.1 105 := A 105 rfl
    have u106 : (rf_l0 t).2.1 106 = (rf_l0 s).2.1 106 := A 106 rfl
    have hxu : rf_xu (rf_l0 s) (rf_l0 t) := ⟨fun j => ⟨Int.le_of_eq y9.symm, fun _ => ⟨by rw [u72], by rw [u73]⟩⟩, fun j => ⟨⟨by omega, by omega, by omega, y42, y45⟩, fun _ => by rw [u106], fun _ => by rw [u105], fun _ => by rw [u104], by rw [u96], by rw [u123]⟩⟩
    refine ⟨⟨rf_ES_up (s := rf_l0 s) (t := rf_l0 t) (fun p j h1 h2 h3 => ?_) hxu y47 (A 98 rfl) (A 99 rfl) hE, fun k => ⟨fun hk => ?_, fun hk => ?_, fun hk => absurd hk (by omega)⟩⟩, by omega, by omega, by omega, by omega, by omega, by omega⟩
    · have : p = 100 ∨ p = 101 ∨ p = 102 ∨ p = 103 := by omega
      rcases this with rfl | rfl | rfl | rfl
      · exact congrFun (A 100 rfl) j
      · exact congrFun (A 101 rfl) j
      · exact congrFun (A 102 rfl) j
      · exact congrFun (A 103 rfl) j
    · rw [u96]
      exact rf_t5_9 y9 u72 u73 ((hC k).1 (by omega))
    · rw [u123]
      exact rf_t5_9 y9 u72 u73 ((hC k).2.1 (by omega))
  · obtain ⟨g, hg⟩ := hH (by omega)
    have hE : rf_EX (s.1 66 71) (s.1 66 58) s t := ⟨⟨⟨e9, A 72 rfl, A 73 rfl, A 96 rfl, e42⟩, by omega, by omega, by omega, by omega, by omega⟩, fun j => ⟨fun _ => ⟨congrFun (A 100 rfl) j, congrFun (A 101 rfl) j, congrFun (A 102 rfl) j, congrFun (A 103 rfl) j, congrFun (A 104 rfl) j⟩, fun _ => congrFun (A 105 rfl) j, fun _ => congrFun (A 106 rfl) j, fun _ => ⟨congrFun (A 108 rfl) j, congrFun (A 109 rfl) j, fun _ => ⟨congrFun (A 111 rfl) j, congrFun (A 112 rfl) j, congrFun (A 113 rfl) j, congrFun (A 114 rfl) j⟩⟩, fun _ => congrFun (A 110 rfl) j, fun _ => ⟨congrFun (A 115 rfl) j, congrFun (A 116 rfl) j, congrFun (A 117 rfl) j⟩⟩⟩
    have hN : rf_NC s t := ⟨e61, fun j _ => congrFun (A 111 rfl) j⟩
    have hO : rf_OD t := rf_OD_same hg.1.2.2.2.2.2 e61 (hf 83 rfl) (hf 79 rfl) (fun p hp => by
      rcases hp with rfl | rfl | rfl | rfl
      · exact A 108 rfl
      · exact A 118 rfl
      · exact A 120 rfl
      · exact A 121 rfl)
    exact ⟨g, rf_HS_up hI hE hN hO e71 e58 e50 e56 e70 e45 e47 (A 98 rfl) (A 99 rfl) hg⟩
theorem rf_BC_desk {V : List (Nat × Nat)} {s t : sx_S} (hI : cx_I t) (hF : cx_F V s t) (hV : cx_le V [(0, 65)] = true) (h : rf_BC s) : rf_BC t := by
  have hF1 : cx_F [(0, 65)] s t := cx_F_step hF hV (cx_F_refl _ _)
  have hF2 : cx_F [(0, 67)] s t := cx_F_step hF1 rfl (cx_F_refl _ _)
  exact rf_BC_k hI hF2 (fun k _ => by rw [(hF1.same 66 rfl).1]) h
/-- solve, between calls -/
theorem rf_BC_SO {s t : sx_S} (h : rf_BC s) (p : t = s ∨ (s.1 66 37 ≠ 0 ∧ rf_SO s t)) : rf_BC t := by
  rcases p with rfl | ⟨_, ⟨p1, _, _⟩, p4, p5⟩
  · exact h
  · exact ⟨p1, fun _ => p4, p5⟩
theorem rf_BC_P {s t : sx_S} (h : rf_BC s) (p : t = s ∨ (s.1 66 78 ≠ 0 ∧ rf_PP s t)) : rf_BC t := by
  rcases p with rfl | ⟨p1, p2⟩
  · exact h
  · exact rf_BC_PP p1 h p2
end
