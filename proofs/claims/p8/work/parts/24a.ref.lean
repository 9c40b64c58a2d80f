section
/-! ===== the reference: isIn, keep, meet, join, bind, piece by piece ===== -/
theorem w_isIn {CALL : sx_Ca} {sL : Nat} {sx : Nat → Int32} {Q : Nat → sx_L → sx_S → Prop} {R : Int → sx_S → Prop} {s : sx_S} {a0 a1 a2 : Int} (hQ : Q 3 [(0, .inr (.inl 66)), (1, .inl a0), (2, .inl a1), (3, .inl a2), (4, .inl 0)] s) : sx_wp true sL sx eX12_isIn CALL [(3, [0, 1, 2, 3, 4])] Q R 400 0 (sx_argsF 0 [.inr (.inl 66), .inl a0, .inl a1, .inl a2]) [] s := by
  exact hQ
theorem w_isIn_3 {CALL : sx_Ca} {sL : Nat} {sx : Nat → Int32} {Q : Nat → sx_L → sx_S → Prop} {R : Int → sx_S → Prop} {s : sx_S} {a0 a1 a2 x4 : Int} (hI : cx_I s) (p0 : -2147483648 ≤ a0 ∧ a0 ≤ 2147483647) (p1 : 0 ≤ a1 ∧ a1 ≤ 2999) (p2 : 0 ≤ a2 ∧ a2 ≤ 119990) (q : 0 ≤ x4 ∧ x4 ≤ 4) (hE : s.2.1 108 a1.toNat ≤ x4 → R 0 s) (hY : x4 < s.2.1 108 a1.toNat → s.2.1 105 (a2 + x4).toNat = a0 → R 1 s) (hQ : x4 < s.2.1 108 a1.toNat → s.2.1 105 (a2 + x4).toNat ≠ a0 → ∀ y : Int, y = x4 + 1 → Q 3 [(0, .inr (.inl 66)), (1, .inl a0), (2, .inl a1), (3, .inl a2), (4, .inl y)] s) : sx_wp true sL sx eX12_isIn CALL [(3, [0, 1, 2, 3, 4])] Q R 400 3 [(0, .inr (.inl 66)), (1, .inl a0), (2, .inl a1), (3, .inl a2), (4, .inl x4)] [] s := by
  have h108 := hI.arr 108 (by decide) rfl a1.toNat
  have e1 : sx_w true (a2 + x4) = a2 + x4 := by
    by_cases c : x4 ≤ 4
    · exact rf_wid (by omega) (by omega)
    · omega
  repeat' (first | (with_reducible intro _) | (refine And.intro ?_ ?_) | (refine hE ?_) | (refine hY ?_ ?_) | (refine hQ ?_ ?_ _ ?_))
  all_goals (try dsimp only)
  all_goals (first | trivial | assumption | omega | (dsimp only at *; omega) | (dsimp only at *; rw [e1] at *; omega) | (simp only [sx_w_t] at *; omega) | (subst_vars; dsimp only at *; rw [e1] at *; first | assumption | omega) | skip)

theorem w_keep {CALL : sx_Ca} {sL : Nat} {sx : Nat → Int32} {Q : Nat → sx_L → sx_S → Prop} {R : Int → sx_S → Prop} {s : sx_S} {a0 a1 a2 : Int} {PN : Int → sx_S → Prop} {PM : Int → sx_S → Int → sx_S → Prop} (hN : ∀ K : Int → sx_S → Prop, (∀ z t, PN z t → K z t) → CALL 189 [.inr (.inl 66)] s K) (hM : ∀ z t, PN z t → ∀ K : Int → sx_S → Prop, (∀ z2 t2, PM z t z2 t2 → K z2 t2) → CALL 178 [.inr (.inl 66), .inl 3, .inl z] t K) (hMI : ∀ z t z2 t2, PN z t → PM z t z2 t2 → cx_I t2 ∧ (0 ≤ z2 ∧ z2 ≤ 59999)) (hQ : ∀ z t z2 t2, PN z t → PM z t z2 t2 → ∀ w : Int, w = t2.1 66 56 → Q 29 [(0, .inr (.inl 66)), (1, .inl a0), (2, .inl a1), (3, .inl a2), (4, .inl z), (5, .inl z2), (6, .inl 0)] (t2.1, sx_ua t2.2.1 104 z2.toNat w, t2.2.2)) : sx_wp true sL sx eX12_keep CALL [(29, [0, 1, 2, 3, 4, 5, 6])] Q R 400 0 (sx_argsF 0 [.inr (.inl 66), .inl a0, .inl a1, .inl a2]) [] s := by
  repeat' (first | (with_reducible intro _) | (refine And.intro ?_ ?_) | (refine hQ _ _ _ _ (by assumption) (by assumption) _ ?_) | (refine hM _ _ (by assumption) _ ?_) | (refine hN _ ?_))
  all_goals (try dsimp only)
  all_goals (first | trivial | assumption | omega | (exact (hMI _ _ _ _ (by assumption) (by assumption)).1) | (have hmi := hMI _ _ _ _ (by assumption) (by assumption); omega) | skip)
theorem w_keep_29 {CALL : sx_Ca} {sL : Nat} {sx : Nat → Int32} {Q : Nat → sx_L → sx_S → Prop} {R : Int → sx_S → Prop} {s : sx_S} {a0 a1 a2 x4 x5 x6 : Int} {PA PT : sx_S → Prop} (hI : cx_I s) (p0 : 0 ≤ a0 ∧ a0 ≤ 2999) (p1 : 0 ≤ a1 ∧ a1 ≤ 119990) (p2 : 0 ≤ a2 ∧ a2 ≤ 15) (p4 : 0 ≤ x4 ∧ x4 ≤ 2999) (p5 : 0 ≤ x5 ∧ x5 ≤ 59999) (q : 0 ≤ x6 ∧ x6 ≤ 4) (h109 : x6 < s.2.1 108 a0.toNat → s.2.1 109 a0.toNat + x6 ≤ 19999) (hE : s.2.1 108 a0.toNat ≤ x6 → ∀ K : Int → sx_S → Prop, (∀ z t, PA t → K z t) → CALL 191 [.inr (.inl 66), .inl a0, .inl a1, .inl x5, .inl (-1)] s K) (hKA : ∀ t, PA t → R 0 t) (hS : x6 < s.2.1 108 a0.toNat → ¬ rf_bt a2 x6 → ∀ y : Int, y = x6 + 1 → Q 29 [(0, .inr (.inl 66)), (1, .inl a0), (2, .inl a1), (3, .inl a2), (4, .inl x4), (5, .inl x5), (6, .inl y)] s) (hT : x6 < s.2.1 108 a0.toNat → rf_bt a2 x6 → ∀ u : Int, u = s.2.1 110 (s.2.1 109 a0.toNat + x6).toNat → ∀ K : Int → sx_S → Prop, (∀ z t, PT t → K z t) → CALL 190 [.inr (.inl 66), .inl x4, .inl u] s K) (hTI : ∀ t, PT t → cx_I t ∧ (0 ≤ t.1 66 56 ∧ t.1 66 56 ≤ 119990)) (hQ : x6 < s.2.1 108 a0.toNat → rf_bt a2 x6 → ∀ t, PT t → ∀ y v n w : Int, y = x6 + 1 → v = t.2.1 105 (a1 + x6).toNat → n = t.1 66 56 → w = t.1 66 56 + 1 → Q 29 [(0, .inr (.inl 66)), (1, .inl a0), (2, .inl a1), (3, .inl a2), (4, .inl x4), (5, .inl x5), (6, .inl y)] (sx_uf t.1 66 56 w, sx_ua t.2.1 105 n.toNat v, t.2.2)) : sx_wp true sL sx eX12_keep CALL [(29, [0, 1, 2, 3, 4, 5, 6])] Q R 400 29 [(0, .inr (.inl 66)), (1, .inl a0), (2, .inl a1), (3, .inl a2), (4, .inl x4), (5, .inl x5), (6, .inl x6)] [] s := by
  have h108 := hI.arr 108 (by decide) rfl a0.toNat
  have h109b := hI.arr 109 (by decide) rfl a0.toNat
  have e1 : sx_w true (a1 + x6) = a1 + x6 := rf_wid (by omega) (by omega)
  have e2 : sx_w true (s.2.1 109 a0.toNat + x6) = s.2.1 109 a0.toNat + x6 := rf_wid (by omega) (by omega)
  repeat' (first | (with_reducible intro _) | (refine And.intro ?_ ?_) | (refine hKA _ (by assumption)) | (refine hE ?_ _ ?_) | (refine hS ?_ ?_ _ ?_) | (refine hQ ?_ ?_ _ (by assumption) _ _ _ _ ?_ ?_ ?_ ?_) | (refine hT ?_ ?_ _ ?_ _ ?_))
  all_goals (try dsimp only)
  all_goals (first | trivial | assumption | omega | (dsimp only at *; omega) | (exact (hTI _ (by assumption)).1) | (have hti := hTI _ (by assumption); dsimp only at *; first | omega | (simp only [sx_w_t] at *; omega) | (subst_vars; dsimp only at *; rw [e1]) | (subst_vars; omega)) | (exact Eq.trans (by assumption) (by dsimp only; rw [e1])) | (exact cx_I_ua rfl rfl (hTI _ (by assumption)).1 (by assumption) (by assumption)) | (unfold rf_bt; subst_vars; omega) | (simp only [sx_w_t] at *; omega) | (subst_vars; dsimp only at *; rw [e2]) | (subst_vars; assumption) | (subst_vars; dsimp only at *; rw [e2] at *; first | assumption | omega) | skip)

theorem w_meet {CALL : sx_Ca} {sL : Nat} {sx : Nat → Int32} {Q : Nat → sx_L → sx_S → Prop} {R : Int → sx_S → Prop} {s : sx_S} {a0 a1 a2 a3 : Int} (hI : cx_I s) (p0 : 0 ≤ a0 ∧ a0 ≤ 59999) (hQ : ∀ u : Int, u = s.2.1 101 a0.toNat → Q 14 [(0, .inr (.inl 66)), (1, .inl a0), (2, .inl a1), (3, .inl a2), (4, .inl a3), (5, .inl 0), (6, .inl u), (7, .inl 0)] s) : sx_wp true sL sx eX12_meet CALL [(14, [0, 1, 2, 3, 4, 5, 6, 7])] Q R 400 0 (sx_argsF 0 [.inr (.inl 66), .inl a0, .inl a1, .inl a2, .inl a3]) [] s := by
  repeat' (first | (with_reducible intro _) | (refine And.intro ?_ ?_) | (refine hQ _ ?_))
  all_goals (try dsimp only)
  all_goals (first | trivial | assumption | omega | (dsimp only at *; omega) | (simp only [sx_w_t] at *; omega) | (subst_vars; omega) | (subst_vars; assumption) | (subst_vars; dsimp only at *; omega) | (subst_vars; dsimp only at *; simp only [sx_w_t] at *; omega) | skip)
theorem w_join {CALL : sx_Ca} {sL : Nat} {sx : Nat → Int32} {Q : Nat → sx_L → sx_S → Prop} {R : Int → sx_S → Prop} {s : sx_S} {a0 a1 a2 a3 : Int} {PA : Int → sx_S → Prop} {PB PN PM : Int → sx_S → Int → sx_S → Prop} (p0 : 0 ≤ a0 ∧ a0 ≤ 59999) (p2 : 0 ≤ a2 ∧ a2 ≤ 59999) (hA : ∀ K : Int → sx_S → Prop, (∀ z t, PA z t → K z t) → CALL 192 [.inr (.inl 66), .inl a0, .inl a1] s K) (hB : ∀ z t, PA z t → ∀ K : Int → sx_S → Prop, (∀ z2 t2, PB z t z2 t2 → K z2 t2) → CALL 192 [.inr (.inl 66), .inl a2, .inl a3] t K) (hBI : ∀ z t z2 t2, PA z t → PB z t z2 t2 → cx_I t2) (hN : ∀ z t z2 t2, PA z t → PB z t z2 t2 → ∀ K : Int → sx_S → Prop, (∀ z3 t3, PN z2 t2 z3 t3 → K z3 t3) → CALL 189 [.inr (.inl 66)] t2 K) (hM : ∀ z2 t2 z3 t3, PN z2 t2 z3 t3 → ∀ K : Int → sx_S → Prop, (∀ z4 t4, PM z3 t3 z4 t4 → K z4 t4) → CALL 178 [.inr (.inl 66), .inl 3, .inl z3] t3 K) (hMI : ∀ z3 t3 z4 t4, PM z3 t3 z4 t4 → cx_I t4 ∧ (0 ≤ z4 ∧ z4 ≤ 59999)) (hQ : ∀ z t z2 t2 z3 t3 z4 t4, PA z t → PB z t z2 t2 → PN z2 t2 z3 t3 → PM z3 t3 z4 t4 → ∀ m n w : Int, m = t2.2.1 101 a0.toNat → n = t2.2.1 101 a2.toNat → w = t4.1 66 56 → Q 62 [(0, .inr (.inl 66)), (5, .inl z), (6, .inl z2), (7, .inl m), (8, .inl n), (9, .inl z3), (10, .inl z4), (11, .inl 0)] (t4.1, sx_ua t4.2.1 104 z4.toNat w, t4.2.2)) : sx_wp true sL sx eX12_join CALL [(62, [0, 5, 6, 7, 8, 9, 10, 11]), (80, [0, 5, 6, 7, 8, 9, 10, 11, 12, 13])] Q R 400 0 (sx_argsF 0 [.inr (.inl 66), .inl a0, .inl a1, .inl a2, .inl a3]) [] s := by
  repeat' (first | (with_reducible intro _) | (refine And.intro ?_ ?_) | (refine hQ _ _ _ _ _ _ _ _ (by assumption) (by assumption) (by assumption) (by assumption) _ _ _ ?_ ?_ ?_) | (refine hM _ _ _ _ (by assumption) _ ?_) | (refine hN _ _ _ _ (by assumption) (by assumption) _ ?_) | (refine hB _ _ (by assumption) _ ?_) | (refine hA _ ?_))
  all_goals (try dsimp only)
  all_goals (first | trivial | assumption | omega | (exact (hMI _ _ _ _ (by assumption)).1) | (have hmi := hMI _ _ _ _ (by assumption); omega) | (exact hBI _ _ _ _ (by assumption) (by assumption)) | skip)
theorem w_join_62 {CALL : sx_Ca} {sL : Nat} {sx : Nat → Int32} {Q : Nat → sx_L → sx_S → Prop} {R : Int → sx_S → Prop} {s : sx_S} {x5 x6 x7 x8 x9 x10 x11 : Int} {PA PB : sx_S → Prop} (hI : cx_I s) (p7 : 0 ≤ x7 ∧ x7 ≤ 2999) (q : 0 ≤ x11 ∧ x11 ≤ 4) (hE : s.2.1 108 x7.toNat ≤ x11 → ∀ K : Int → sx_S → Prop, (∀ z t, PA t → K z t) → CALL 191 [.inr (.inl 66), .inl x7, .inl x5, .inl x10, .inl (-1)] s K) (hE2 : ∀ t, PA t → ∀ K : Int → sx_S → Prop, (∀ z t, PB t → K z t) → CALL 191 [.inr (.inl 66), .inl x8, .inl x6, .inl x10, .inl (-1)] t K) (hK : ∀ t, PB t → R 1 t) (hQ : x11 < s.2.1 108 x7.toNat → Q 80 [(0, .inr (.inl 66)), (5, .inl x5), (6, .inl x6), (7, .inl x7), (8, .inl x8), (9, .inl x9), (10, .inl x10), (11, .inl x11), (12, .inl 0), (13, .inl 0)] s) : sx_wp true sL sx eX12_join CALL [(62, [0, 5, 6, 7, 8, 9, 10, 11]), (80, [0, 5, 6, 7, 8, 9, 10, 11, 12, 13])] Q R 400 62 [(0, .inr (.inl 66)), (5, .inl x5), (6, .inl x6), (7, .inl x7), (8, .inl x8), (9, .inl x9), (10, .inl x10), (11, .inl x11)] [] s := by
  have h108 := hI.arr 108 (by decide) rfl x7.toNat
  repeat' (first | (with_reducible intro _) | (refine And.intro ?_ ?_) | (refine hK _ (by assumption)) | (refine hE2 _ (by assumption) _ ?_) | (refine hE ?_ _ ?_) | (refine hQ ?_))
  all_goals (try dsimp only)
  all_goals (first | trivial | assumption | omega | (dsimp only at *; omega) | (simp only [sx_w_t] at *; omega) | (subst_vars; omega) | (subst_vars; assumption) | (subst_vars; dsimp only at *; omega) | (subst_vars; dsimp only at *; simp only [sx_w_t] at *; omega) | skip)
theorem w_bind {CALL : sx_Ca} {sL : Nat} {sx : Nat → Int32} {Q : Nat → sx_L → sx_S → Prop} {R : Int → sx_S → Prop} {s : sx_S} {a0 a1 a2 a3 : Int} {PA : Int → sx_S → Prop} (p0 : 0 ≤ a0 ∧ a0 ≤ 59999) (hA : ∀ K : Int → sx_S → Prop, (∀ z t, PA z t → K z t) → CALL 192 [.inr (.inl 66), .inl a0, .inl a1] s K) (hAI : ∀ z t, PA z t → cx_I t) (hQ : ∀ z t, PA z t → ∀ m : Int, m = t.2.1 101 a0.toNat → Q 19 [(0, .inr (.inl 66)), (3, .inl a2), (4, .inl a3), (5, .inl z), (6, .inl m), (7, .inl 0)] t) : sx_wp true sL sx eX12_bind CALL [(19, [0, 3, 4, 5, 6, 7])] Q R 400 0 (sx_argsF 0 [.inr (.inl 66), .inl a0, .inl a1, .inl a2, .inl a3]) [] s := by
  repeat' (first | (with_reducible intro _) | (refine And.intro ?_ ?_) | (refine hQ _ _ (by assumption) _ ?_) | (refine hA _ ?_))
  all_goals (try dsimp only)
  all_goals (first | trivial | assumption | omega | (exact hAI _ _ (by assumption)) | skip)
theorem w_bind_19 {CALL : sx_Ca} {sL : Nat} {sx : Nat → Int32} {Q : Nat → sx_L → sx_S → Prop} {R : Int → sx_S → Prop} {s : sx_S} {a2 a3 x5 x6 x7 : Int} {PF PA : Int → sx_S → Prop} (hI : cx_I s) (q7 : 0 ≤ x7 ∧ x7 ≤ 2999) (h61 : s.1 66 61 ≤ 2999) (hQ : x7 < s.1 66 61 → ∀ y : Int, y = x7 + 1 → Q 19 [(0, .inr (.inl 66)), (3, .inl a2), (4, .inl a3), (5, .inl x5), (6, .inl x6), (7, .inl y)] (s.1, sx_ua s.2.1 124 x7.toNat 0, s.2.2)) (hF : s.1 66 61 ≤ x7 → ∀ mk : Int, mk = s.1 66 58 → ∀ K : Int → sx_S → Prop, (∀ z t, PF z t → K z t) → CALL 200 [.inr (.inl 66), .inl a2, .inl a3, .inl x6, .inl x5, .inl mk] s K) (hFI : ∀ z t, PF z t → 0 ≤ z ∧ z ≤ 1) (hK : ∀ z t, PF z t → z = 0 → ∀ a b : Int, a = s.1 66 71 → b = s.1 66 58 → R z (sx_uf (sx_uf t.1 66 71 a) 66 58 b, t.2)) (hA : ∀ z t, PF z t → z ≠ 0 → ∀ a b : Int, a = s.1 66 71 → b = s.1 66 58 → ∀ K : Int → sx_S → Prop, (∀ z2 t2, PA z t2 → K z2 t2) → CALL 191 [.inr (.inl 66), .inl x6, .inl x5, .inl a2, .inl a3] (sx_uf (sx_uf t.1 66 71 a) 66 58 b, t.2) K) (hKA : ∀ z t, PA z t → R z t) : sx_wp true sL sx eX12_bind CALL [(19, [0, 3, 4, 5, 6, 7])] Q R 400 19 [(0, .inr (.inl 66)), (3, .inl a2), (4, .inl a3), (5, .inl x5), (6, .inl x6), (7, .inl x7)] [] s := by
  have h61b := hI.fld 66 61 (by decide) rfl
  have h71b := hI.fld 66 71 (by decide) rfl
  have h58b := hI.fld 66 58 (by decide) rfl
  repeat' (first | (with_reducible intro _) | (refine And.intro ?_ ?_) | (refine hKA _ _ (by assumption)) | (refine hQ ?_ _ ?_) | (refine hK _ _ (by assumption) ?_ _ _ ?_ ?_) | (refine hA _ _ (by assumption) ?_ _ _ ?_ ?_ _ ?_) | (refine hF ?_ _ ?_ _ ?_))
  all_goals (try dsimp only)
  all_goals (first | trivial | assumption | omega | (dsimp only at *; omega) | (simp only [sx_w_t] at *; omega) | (have hfi := hFI _ _ (by assumption); omega) | skip)
end
section
/-! ===== the reference: fits, unify, piece by piece ===== -/
theorem w_fits {CALL : sx_Ca} {sL : Nat} {sx : Nat → Int32} {Q : Nat → sx_L → sx_S → Prop} {R : Int → sx_S → Prop} {s : sx_S} {a0 a1 a2 a3 a4 : Int} (hI : cx_I s) (p0 : 0 ≤ a0 ∧ a0 ≤ 59999) (hQ9 : s.2.1 100 a0.toNat = 0 → Q 9 [(0, .inr (.inl 66)), (1, .inl a0), (2, .inl a1), (3, .inl a2), (4, .inl a3), (5, .inl a4)] s) (hQ55 : s.2.1 100 a0.toNat ≠ 0 → Q 55 [(0, .inr (.inl 66)), (1, .inl a0), (2, .inl a1), (3, .inl a2), (4, .inl a3), (5, .inl a4)] s) : sx_wp true sL sx eX12_fits CALL [(9, [0, 1, 2, 3, 4, 5]), (55, [0, 1, 2, 3, 4, 5]), (65, [0, 1, 2, 3, 4, 5]), (91, [0, 1, 2, 3, 4, 5, 6]), (113, [0, 1, 2, 3, 4, 5, 6]), (150, [0, 1, 2, 3, 4, 5, 6, 7, 8]), (249, [0, 6, 7, 8, 9]), (294, [0, 1, 2, 3, 4, 5]), (338, [0, 1, 2, 3, 4, 5]), (346, [0, 2, 3, 4, 5, 6])] Q R 400 0 (sx_argsF 0 [.inr (.inl 66), .inl a0, .inl a1, .inl a2, .inl a3, .inl a4]) [] s := by
  repeat' (first | (with_reducible intro _) | (refine And.intro ?_ ?_) | (refine hQ9 ?_) | (refine hQ55 ?_))
  all_goals (try dsimp only)
  all_goals (first | trivial | assumption | omega | (dsimp only at *; omega) | (subst_vars; rfl) | (subst_vars; exact Eq.symm (by assumption)) | (subst_vars; first | assumption | omega) | (subst_vars; dsimp only at *; first | assumption | omega | rfl) | skip)
theorem w_fits_9 {CALL : sx_Ca} {sL : Nat} {sx : Nat → Int32} {Q : Nat → sx_L → sx_S → Prop} {R : Int → sx_S → Prop} {s : sx_S} {a0 a1 a2 a3 a4 : Int} {PV PF : Int → sx_S → Prop} {PN : Int → sx_S → Int → sx_S → Prop} (hI : cx_I s) (p0 : 0 ≤ a0 ∧ a0 ≤ 59999) (hr : 0 ≤ s.2.1 101 a0.toNat ∧ s.2.1 101 a0.toNat ≤ 399999)
    (hV : ∀ u : Int, u = s.2.1 106 (s.2.1 101 a0.toNat).toNat → ∀ K : Int → sx_S → Prop, (∀ z t, PV z t → K z t) → CALL 167 [.inr (.inl 66), .inl u] s K) (hVI : ∀ z t, PV z t → cx_I t)
    (hN : ∀ z t, PV z t → ∀ u : Int, u = t.2.1 101 a0.toNat → ∀ K : Int → sx_S → Prop, (∀ z2 t2, PN z t z2 t2 → K z2 t2) → CALL 184 [.inr (.inl 66), .inl u, .inl z, .inl a1] t K)
    (hF1 : ∀ z t z2 t2, PV z t → PN z t z2 t2 → ∀ u : Int, u = t.2.1 102 a0.toNat → ∀ K : Int → sx_S → Prop, (∀ z t, PF z t → K z t) → CALL 200 [.inr (.inl 66), .inl u, .inl z2, .inl a2, .inl a3, .inl a4] t2 K)
    (hFI : ∀ z t, PF z t → 0 ≤ z ∧ z ≤ 1) (hKF : ∀ z t, PF z t → R z t) : sx_wp true sL sx eX12_fits CALL [(9, [0, 1, 2, 3, 4, 5]), (55, [0, 1, 2, 3, 4, 5]), (65, [0, 1, 2, 3, 4, 5]), (91, [0, 1, 2, 3, 4, 5, 6]), (113, [0, 1, 2, 3, 4, 5, 6]), (150, [0, 1, 2, 3, 4, 5, 6, 7, 8]), (249, [0, 6, 7, 8, 9]), (294, [0, 1, 2, 3, 4, 5]), (338, [0, 1, 2, 3, 4, 5]), (346, [0, 2, 3, 4, 5, 6])] Q R 400 9 [(0, .inr (.inl 66)), (1, .inl a0), (2, .inl a1), (3, .inl a2), (4, .inl a3), (5, .inl a4)] [] s := by
  repeat' (first | (with_reducible intro _) | (refine And.intro ?_ ?_) | (refine hKF _ _ (by assumption)) | (refine hF1 _ _ _ _ (by assumption) (by assumption) _ ?_ _ ?_) | (refine hN _ _ (by assumption) _ ?_ _ ?_) | (refine hV _ ?_ _ ?_))
  all_goals (try dsimp only)
  all_goals (first | trivial | assumption | omega | (dsimp only at *; omega) | (exact hVI _ _ (by assumption)) | (dsimp only at *; omega) | (have hfi := hFI _ _ (by assumption); omega) | (subst_vars; rfl) | (subst_vars; first | assumption | omega) | skip)
theorem w_fits_55 {CALL : sx_Ca} {sL : Nat} {sx : Nat → Int32} {Q : Nat → sx_L → sx_S → Prop} {R : Int → sx_S → Prop} {s : sx_S} {a0 a1 a2 a3 a4 : Int} (hI : cx_I s) (p0 : 0 ≤ a0 ∧ a0 ≤ 59999) (hQ65 : s.2.1 100 a0.toNat = 3 → Q 65 [(0, .inr (.inl 66)), (1, .inl a0), (2, .inl a1), (3, .inl a2), (4, .inl a3), (5, .inl a4)] s) (hQ294 : s.2.1 100 a0.toNat ≠ 3 → Q 294 [(0, .inr (.inl 66)), (1, .inl a0), (2, .inl a1), (3, .inl a2), (4, .inl a3), (5, .inl a4)] s) : sx_wp true sL sx eX12_fits CALL [(9, [0, 1, 2, 3, 4, 5]), (55, [0, 1, 2, 3, 4, 5]), (65, [0, 1, 2, 3, 4, 5]), (91, [0, 1, 2, 3, 4, 5, 6]), (113, [0, 1, 2, 3, 4, 5, 6]), (150, [0, 1, 2, 3, 4, 5, 6, 7, 8]), (249, [0, 6, 7, 8, 9]), (294, [0, 1, 2, 3, 4, 5]), (338, [0, 1, 2, 3, 4, 5]), (346, [0, 2, 3, 4, 5, 6])] Q R 400 55 [(0, .inr (.inl 66)), (1, .inl a0), (2, .inl a1), (3, .inl a2), (4, .inl a3), (5, .inl a4)] [] s := by
  repeat' (first | (with_reducible intro _) | (refine And.intro ?_ ?_) | (refine hQ65 ?_) | (refine hQ294 ?_))
  all_goals (try dsimp only)
  all_goals (first | trivial | assumption | omega | (dsimp only at *; omega) | (subst_vars; rfl) | (subst_vars; exact Eq.symm (by assumption)) | (subst_vars; first | assumption | omega) | (subst_vars; dsimp only at *; first | assumption | omega | rfl) | skip)
theorem w_fits_65 {CALL : sx_Ca} {sL : Nat} {sx : Nat → Int32} {Q : Nat → sx_L → sx_S → Prop} {R : Int → sx_S → Prop} {s : sx_S} {a0 a1 a2 a3 a4 : Int} (hI : cx_I s) (p0 : 0 ≤ a0 ∧ a0 ≤ 59999) (p2 : 0 ≤ a2 ∧ a2 ≤ 2999) (hr : 0 ≤ s.2.1 101 a0.toNat ∧ s.2.1 101 a0.toNat ≤ 2999) (hK0 : s.2.1 101 a0.toNat = a2 → R 0 s) (hQ91 : s.2.1 101 a0.toNat ≠ a2 → s.2.1 111 (s.2.1 101 a0.toNat).toNat ≠ 0 → ∀ x : Int, x = s.2.1 101 a0.toNat → Q 91 [(0, .inr (.inl 66)), (1, .inl a0), (2, .inl a1), (3, .inl a2), (4, .inl a3), (5, .inl a4), (6, .inl x)] s) (hQ150 : s.2.1 101 a0.toNat ≠ a2 → s.2.1 111 (s.2.1 101 a0.toNat).toNat = 0 → ∀ x : Int, x = s.2.1 101 a0.toNat → Q 150 [(0, .inr (.inl 66)), (1, .inl a0), (2, .inl a1), (3, .inl a2), (4, .inl a3), (5, .inl a4), (6, .inl x), (7, .inl 0), (8, .inl 0)] s) : sx_wp true sL sx eX12_fits CALL [(9, [0, 1, 2, 3, 4, 5]), (55, [0, 1, 2, 3, 4, 5]), (65, [0, 1, 2, 3, 4, 5]), (91, [0, 1, 2, 3, 4, 5, 6]), (113, [0, 1, 2, 3, 4, 5, 6]), (150, [0, 1, 2, 3, 4, 5, 6, 7, 8]), (249, [0, 6, 7, 8, 9]), (294, [0, 1, 2, 3, 4, 5]), (338, [0, 1, 2, 3, 4, 5]), (346, [0, 2, 3, 4, 5, 6])] Q R 400 65 [(0, .inr (.inl 66)), (1, .inl a0), (2, .inl a1), (3, .inl a2), (4, .inl a3), (5, .inl a4)] [] s := by
  repeat' (first | (with_reducible intro _) | (refine And.intro ?_ ?_) | (refine hK0 ?_) | (refine hQ91 ?_ ?_ _ ?_) | (refine hQ150 ?_ ?_ _ ?_))
  all_goals (try dsimp only)
  all_goals (first | trivial | assumption | omega | (dsimp only at *; omega) | (subst_vars; rfl) | (subst_vars; exact Eq.symm (by assumption)) | (subst_vars; first | assumption | omega) | (subst_vars; dsimp only at *; first | assumption | omega | rfl) | skip)
theorem w_fits_91 {CALL : sx_Ca} {sL : Nat} {sx : Nat → Int32} {Q : Nat → sx_L → sx_S → Prop} {R : Int → sx_S → Prop} {s : sx_S} {a0 a1 a2 a3 a4 x6 : Int} (hI : cx_I s) (p6 : 0 ≤ x6 ∧ x6 ≤ 2999) (hK1 : s.2.1 108 x6.toNat = 0 → s.2.1 124 x6.toNat ≠ 0 → R 1 s) (hQ : Q 113 [(0, .inr (.inl 66)), (1, .inl a0), (2, .inl a1), (3, .inl a2), (4, .inl a3), (5, .inl a4), (6, .inl x6)] s) : sx_wp true sL sx eX12_fits CALL [(9, [0, 1, 2, 3, 4, 5]), (55, [0, 1, 2, 3, 4, 5]), (65, [0, 1, 2, 3, 4, 5]), (91, [0, 1, 2, 3, 4, 5, 6]), (113, [0, 1, 2, 3, 4, 5, 6]), (150, [0, 1, 2, 3, 4, 5, 6, 7, 8]), (249, [0, 6, 7, 8, 9]), (294, [0, 1, 2, 3, 4, 5]), (338, [0, 1, 2, 3, 4, 5]), (346, [0, 2, 3, 4, 5, 6])] Q R 400 91 [(0, .inr (.inl 66)), (1, .inl a0), (2, .inl a1), (3, .inl a2), (4, .inl a3), (5, .inl a4), (6, .inl x6)] [] s := by
  repeat' (first | (with_reducible intro _) | (refine And.intro ?_ ?_) | (exact hQ) | (refine hK1 ?_ ?_))
  all_goals (try dsimp only)
  all_goals (first | trivial | assumption | omega | (dsimp only at *; omega) | (subst_vars; rfl) | (subst_vars; exact Eq.symm (by assumption)) | (subst_vars; first | assumption | omega) | (subst_vars; dsimp only at *; first | assumption | omega | rfl) | skip)
theorem w_fits_113 {CALL : sx_Ca} {sL : Nat} {sx : Nat → Int32} {Q : Nat → sx_L → sx_S → Prop} {R : Int → sx_S → Prop} {s : sx_S} {a0 a1 a2 a3 a4 x6 : Int} {PE PF : Int → sx_S → Prop} (hI : cx_I s) (p0 : 0 ≤ a0 ∧ a0 ≤ 59999) (p6 : 0 ≤ x6 ∧ x6 ≤ 2999) (hE : ∀ K : Int → sx_S → Prop, (∀ z2 t2, PE z2 t2 → K z2 t2) → CALL 188 [.inr (.inl 66), .inl a0, .inl a1] (s.1, sx_ua s.2.1 124 x6.toNat 1, s.2.2) K) (hF2 : ∀ z2 t2, PE z2 t2 → ∀ u : Int, u = sx_ua s.2.1 124 x6.toNat 1 113 x6.toNat → ∀ K : Int → sx_S → Prop, (∀ z t, PF z t → K z t) → CALL 200 [.inr (.inl 66), .inl u, .inl z2, .inl a2, .inl a3, .inl a4] t2 K) (hFI : ∀ z t, PF z t → 0 ≤ z ∧ z ≤ 1) (hKF : ∀ z t, PF z t → R z t) : sx_wp true sL sx eX12_fits CALL [(9, [0, 1, 2, 3, 4, 5]), (55, [0, 1, 2, 3, 4, 5]), (65, [0, 1, 2, 3, 4, 5]), (91, [0, 1, 2, 3, 4, 5, 6]), (113, [0, 1, 2, 3, 4, 5, 6]), (150, [0, 1, 2, 3, 4, 5, 6, 7, 8]), (249, [0, 6, 7, 8, 9]), (294, [0, 1, 2, 3, 4, 5]), (338, [0, 1, 2, 3, 4, 5]), (346, [0, 2, 3, 4, 5, 6])] Q R 400 113 [(0, .inr (.inl 66)), (1, .inl a0), (2, .inl a1), (3, .inl a2), (4, .inl a3), (5, .inl a4), (6, .inl x6)] [] s := by
  have hI2 : cx_I (s.1, sx_ua s.2.1 124 x6.toNat 1, s.2.2) := cx_I_ua rfl rfl hI (by decide) (by decide)
  repeat' (first | (with_reducible intro _) | (refine And.intro ?_ ?_) | (refine hKF _ _ (by assumption)) | (refine hF2 _ _ (by assumption) _ ?_ _ ?_) | (refine hE _ ?_))
  all_goals (try dsimp only)
  all_goals (first | trivial | assumption | omega | (dsimp only at *; omega) | (have hfi := hFI _ _ (by assumption); omega) | (subst_vars; rfl) | (subst_vars; first | assumption | omega) | skip)
theorem w_fits_249 {CALL : sx_Ca} {sL : Nat} {sx : Nat → Int32} {Q : Nat → sx_L → sx_S → Prop} {R : Int → sx_S → Prop} {s : sx_S} {x6 x7 x8 x9 : Int} {PK : sx_S → Prop} (hI : cx_I s) (p6 : 0 ≤ x6 ∧ x6 ≤ 2999) (p8 : 0 ≤ x8 ∧ x8 ≤ 119990) (q9 : 0 ≤ x9 ∧ x9 ≤ 4) (hQ : x9 < s.2.1 108 x6.toNat → ∀ n v y : Int, n = x8 + x9 → v = -2 - x9 → y = x9 + 1 → Q 249 [(0, .inr (.inl 66)), (6, .inl x6), (7, .inl x7), (8, .inl x8), (9, .inl y)] (s.1, sx_ua s.2.1 105 n.toNat v, s.2.2)) (hE : s.2.1 108 x6.toNat ≤ x9 → ∀ K : Int → sx_S → Prop, (∀ z t, PK t → K z t) → CALL 193 [.inr (.inl 66), .inl x6, .inl x8, .inl x7] s K) (hK : ∀ t, PK t → R 1 t) : sx_wp true sL sx eX12_fits CALL [(9, [0, 1, 2, 3, 4, 5]), (55, [0, 1, 2, 3, 4, 5]), (65, [0, 1, 2, 3, 4, 5]), (91, [0, 1, 2, 3, 4, 5, 6]), (113, [0, 1, 2, 3, 4, 5, 6]), (150, [0, 1, 2, 3, 4, 5, 6, 7, 8]), (249, [0, 6, 7, 8, 9]), (294, [0, 1, 2, 3, 4, 5]), (338, [0, 1, 2, 3, 4, 5]), (346, [0, 2, 3, 4, 5, 6])] Q R 400 249 [(0, .inr (.inl 66)), (6, .inl x6), (7, .inl x7), (8, .inl x8), (9, .inl x9)] [] s := by
  have h108 := hI.arr 108 (by decide) rfl x6.toNat
  repeat' (first | (with_reducible intro _) | (refine And.intro ?_ ?_) | (refine hK _ (by assumption)) | (refine hQ ?_ _ _ _ ?_ ?_ ?_) | (refine hE ?_ _ ?_))
  all_goals (try dsimp only)
  all_goals (first | trivial | assumption | omega | (dsimp only at *; omega) | (simp only [sx_w_t] at *; omega) | (subst_vars; omega) | (subst_vars; assumption) | (subst_vars; dsimp only at *; omega) | (subst_vars; dsimp only at *; simp only [sx_w_t] at *; omega) | skip)
theorem w_fits_338 {CALL : sx_Ca} {sL : Nat} {sx : Nat → Int32} {Q : Nat → sx_L → sx_S → Prop} {R : Int → sx_S → Prop} {s : sx_S} {a0 a1 a2 a3 a4 : Int} (hI : cx_I s) (p0 : 0 ≤ a0 ∧ a0 ≤ 59999) (hQ : ∀ u : Int, u = s.2.1 102 a0.toNat → Q 346 [(0, .inr (.inl 66)), (2, .inl a1), (3, .inl a2), (4, .inl a3), (5, .inl a4), (6, .inl u)] s) : sx_wp true sL sx eX12_fits CALL [(9, [0, 1, 2, 3, 4, 5]), (55, [0, 1, 2, 3, 4, 5]), (65, [0, 1, 2, 3, 4, 5]), (91, [0, 1, 2, 3, 4, 5, 6]), (113, [0, 1, 2, 3, 4, 5, 6]), (150, [0, 1, 2, 3, 4, 5, 6, 7, 8]), (249, [0, 6, 7, 8, 9]), (294, [0, 1, 2, 3, 4, 5]), (338, [0, 1, 2, 3, 4, 5]), (346, [0, 2, 3, 4, 5, 6])] Q R 400 338 [(0, .inr (.inl 66)), (1, .inl a0), (2, .inl a1), (3, .inl a2), (4, .inl a3), (5, .inl a4)] [] s := by
  repeat' (first | (with_reducible intro _) | (refine And.intro ?_ ?_) | (refine hQ _ ?_))
  all_goals (try dsimp only)
  all_goals (first | trivial | assumption | omega | (dsimp only at *; omega) | (simp only [sx_w_t] at *; omega) | (subst_vars; omega) | (subst_vars; assumption) | (subst_vars; dsimp only at *; omega) | (subst_vars; dsimp only at *; simp only [sx_w_t] at *; omega) | skip)
set_option maxRecDepth 4000 in
theorem w_fits_346 {CALL : sx_Ca} {sL : Nat} {sx : Nat → Int32} {Q : Nat → sx_L → sx_S → Prop} {R : Int → sx_S → Prop} {s : sx_S} {a1 a2 a3 a4 x6 : Int} {PF : Int → sx_S → Prop} (hI : cx_I s) (p6 : -1 ≤ x6 ∧ x6 ≤ 59999) (hK : x6 = -1 → R 1 s) (hF : x6 ≠ -1 → ∀ K : Int → sx_S → Prop, (∀ z t, PF z t → K z t) → CALL 200 [.inr (.inl 66), .inl x6, .inl a1, .inl a2, .inl a3, .inl a4] s K) (hFI : ∀ z t, PF z t → cx_I t ∧ (0 ≤ z ∧ z ≤ 1)) (hK0 : ∀ z t, PF z t → z = 0 → R 0 t) (hQ : x6 ≠ -1 → ∀ z t, PF z t → z ≠ 0 → ∀ a b u : Int, a = s.1 66 71 → b = s.1 66 58 → u = t.2.1 103 x6.toNat → Q 346 [(0, .inr (.inl 66)), (2, .inl a1), (3, .inl a2), (4, .inl a3), (5, .inl a4), (6, .inl u)] (sx_uf (sx_uf t.1 66 71 a) 66 58 b, t.2)) : sx_wp true sL sx eX12_fits CALL [(9, [0, 1, 2, 3, 4, 5]), (55, [0, 1, 2, 3, 4, 5]), (65, [0, 1, 2, 3, 4, 5]), (91, [0, 1, 2, 3, 4, 5, 6]), (113, [0, 1, 2, 3, 4, 5, 6]), (150, [0, 1, 2, 3, 4, 5, 6, 7, 8]), (249, [0, 6, 7, 8, 9]), (294, [0, 1, 2, 3, 4, 5]), (338, [0, 1, 2, 3, 4, 5]), (346, [0, 2, 3, 4, 5, 6])] Q R 400 346 [(0, .inr (.inl 66)), (2, .inl a1), (3, .inl a2), (4, .inl a3), (5, .inl a4), (6, .inl x6)] [] s := by
  have h71b := hI.fld 66 71 (by decide) rfl
  have h58b := hI.fld 66 58 (by decide) rfl
  repeat' (first | (with_reducible intro _) | (refine And.intro ?_ ?_) | (refine hK ?_) | (refine hK0 _ _ (by assumption) ?_) | (refine hQ ?_ _ _ (by assumption) ?_ _ _ _ ?_ ?_ ?_) | (refine hF ?_ _ ?_))
  all_goals (try dsimp only)
  all_goals (first | trivial | assumption | omega | (dsimp only at *; omega) | (have hfi := hFI _ _ (by assumption); omega) | (have hfi := hFI _ _ (by assumption); refine cx_I_uf rfl rfl (cx_I_uf rfl rfl hfi.1 ?_ ?_) ?_ ?_ <;> omega) | skip)
end
section
/-- a new unknown under way: n variables of it are chosen, by kf, out of those of another -/
def rf_KW (s u : sx_S) (Vf Tf : Nat → Int) (kf : Nat → Nat) (n : Nat) : Prop := (cx_I u ∧ cx_F [(66, 66), (100, 105), (108, 111), (124, 124)] s u ∧ rf_f [50, 56, 61, 64] s u) ∧ (u.1 66 50 = s.1 66 50 + 1 ∧ u.1 66 61 = s.1 66 61 + 1 ∧ u.1 66 56 = s.1 66 56 + (n : Int) ∧ u.1 66 64 = s.1 66 64 + (n : Int)) ∧ (rf_ag 100 104 (s.1 66 50) s u ∧ rf_ag 105 105 (s.1 66 56) s u ∧ rf_ag 108 109 (s.1 66 61) s u ∧ rf_ag 110 110 (s.1 66 64) s u ∧ rf_ag 111 111 (s.1 66 61) s u) ∧ (u.2.1 100 (s.1 66 50).toNat = 3 ∧ u.2.1 101 (s.1 66 50).toNat = s.1 66 61 ∧ u.2.1 102 (s.1 66 50).toNat = -1 ∧ u.2.1 103 (s.1 66 50).toNat = -1 ∧ u.2.1 104 (s.1 66 50).toNat = s.1 66 56) ∧ (u.2.1 108 (s.1 66 61).toNat = (n : Int) ∧ u.2.1 109 (s.1 66 61).toNat = s.1 66 64 ∧ u.2.1 111 (s.1 66 61).toNat = 0) ∧ ∀ i : Nat, i < n → u.2.1 105 (s.1 66 56 + (i : Int)).toNat = Vf (kf i) ∧ u.2.1 110 (s.1 66 64 + (i : Int)).toNat = Tf (kf i)
theorem rf_KW_0 {s t t2 : sx_S} {z z2 w : Int} {Vf Tf : Nat → Int} {kf : Nat → Nat} (r61 : 0 ≤ s.1 66 61) (r50 : 0 ≤ s.1 66 50) (a2 : cx_F [(66, 66), (108, 109), (111, 111), (124, 124)] s t) (a3 : z = s.1 66 61) (a4 : t.1 66 61 = s.1 66 61 + 1) (a5 : rf_f [61] s t) (a6 : rf_ag 108 111 (s.1 66 61) s t) (a7 : t.2.1 108 z.toNat = 0) (a8 : t.2.1 109 z.toNat = s.1 66 64) (a9 : t.2.1 111 z.toNat = 0) (b1 : cx_I t2) (b2 : cx_F [(66, 66), (100, 103)] t t2) (b3 : z2 = t.1 66 50) (b4 : t2.1 66 50 = t.1 66 50 + 1) (b5 : rf_f [50] t t2) (b6 : rf_ag 100 103 (t.1 66 50) t t2) (b7 : rf_mk t2 z2 3 z) (hw : w = t2.1 66 56) : rf_KW s (t2.1, sx_ua t2.2.1 104 z2.toNat w, t2.2.2) Vf Tf kf 0 := by
  have e50 := a5 50 rfl
  have e56 := a5 56 rfl
  have e64 := a5 64 rfl
  have f56 := b5 56 rfl
  have f61 := b5 61 rfl
  have f64 := b5 64 rfl
  have r56 := b1.fld 66 56 (by decide) rfl
  obtain ⟨m1, m2, m3, m4⟩ := b7 trivial
  subst a3
  have ez2 : z2.toNat = (s.1 66 50).toNat := by omega
  have hF : cx_F [(66, 66), (100, 105), (108, 111), (124, 124)] s t2 := cx_F_step b2 rfl (cx_F_step a2 rfl (cx_F_refl _ _))
  have hf : rf_f [50, 56, 61, 64] s t2 := rf_f_step b5 rfl (rf_f_step a5 rfl (rf_f_refl _ _))
  have o : ∀ p, p ≠ 104 → sx_ua t2.2.1 104 z2.toNat w p = t2.2.1 p := fun p hp => sx_ua_ne hp
  have s104 : ∀ j, sx_ua t2.2.1 104 z2.toNat w 104 j = if j = z2.toNat then w else t2.2.1 104 j := fun j => by rw [sx_ua_same]
  refine ⟨⟨cx_I_ua rfl rfl b1 (by omega) (by omega), cx_F_ua rfl hF, hf⟩, ⟨by show t2.1 66 50 = _; omega, by show t2.1 66 61 = _; omega, by show t2.1 66 56 = _; omega, by show t2.1 66 64 = _; omega⟩, ⟨fun p j hp hq hj => ?_, fun p j hp hq hj => ?_, fun p j hp hq hj => ?_, fun p j hp hq hj => ?_, fun p j hp hq hj => ?_⟩, ⟨?_, ?_, ?_, ?_, ?_⟩, ⟨?_, ?_, ?_⟩, fun i hi => absurd hi (Nat.not_lt_zero _)⟩
  · by_cases c : p = 104
    · subst c
      show sx_ua t2.2.1 104 z2.toNat w 104 j = _
      rw [s104, if_neg (by omega), (b2.same 104 rfl).2, (a2.same 104 rfl).2]
    · show sx_ua t2.2.1 104 z2.toNat w p j = _
      rw [o p c, b6 p j hp (by omega) (by omega)]
      have : cx_outb [(66, 66), (108, 109), (111, 111), (124, 124)] p = true := by
        have : p = 100 ∨ p = 101 ∨ p = 102 ∨ p = 103 := by omega
        rcases this with rfl | rfl | rfl | rfl <;> rfl
      rw [(a2.same p this).2]
  · have : p = 105 := by omega
    subst this
    show sx_ua t2.2.1 104 z2.toNat w 105 j = _
    rw [o 105 (by decide), (b2.same 105 rfl).2, (a2.same 105 rfl).2]
  · show sx_ua t2.2.1 104 z2.toNat w p j = _
    have h1 : p = 108 ∨ p = 109 := by omega
    have h2 : t2.2.1 p = t.2.1 p := by rcases h1 with rfl | rfl <;> exact (b2.same _ rfl).2
    rw [o p (by omega), h2]
    exact a6 p j (by omega) (by omega) hj
  · have : p = 110 := by omega
    subst this
    show sx_ua t2.2.1 104 z2.toNat w 110 j = _
    rw [o 110 (by decide), (b2.same 110 rfl).2, (a2.same 110 rfl).2]
  · have : p = 111 := by omega
    subst this
    show sx_ua t2.2.1 104 z2.toNat w 111 j = _
    rw [o 111 (by decide), (b2.same 111 rfl).2]
    exact a6 111 j (by omega) (by omega) hj
  · show sx_ua t2.2.1 104 z2.toNat w 100 _ = _
    rw [o 100 (by decide), ← ez2]
    exact m1
  · show sx_ua t2.2.1 104 z2.toNat w 101 _ = _
    rw [o 101 (by decide), ← ez2]
    exact m2
  · show sx_ua t2.2.1 104 z2.toNat w 102 _ = _
    rw [o 102 (by decide), ← ez2]
    exact m3
  · show sx_ua t2.2.1 104 z2.toNat w 103 _ = _
    rw [o 103 (by decide), ← ez2]
    exact m4
  · show sx_ua t2.2.1 104 z2.toNat w 104 _ = _
    rw [s104, if_pos ez2.symm]
    omega
  · show sx_ua t2.2.1 104 z2.toNat w 108 _ = _
    rw [o 108 (by decide), (b2.same 108 rfl).2, a7]
    rfl
  · show sx_ua t2.2.1 104 z2.toNat w 109 _ = _
    rw [o 109 (by decide), (b2.same 109 rfl).2, a8]
  · show sx_ua t2.2.1 104 z2.toNat w 111 _ = _
    rw [o 111 (by decide), (b2.same 111 rfl).2, a9]
theorem rf_KW_s {s u t : sx_S} {x4 a1 n' v w : Int} {Vf Tf : Nat → Int} {kf : Nat → Nat} {n k : Nat} (r61 : 0 ≤ s.1 66 61) (r56 : 0 ≤ s.1 66 56) (r64 : 0 ≤ s.1 66 64) (hx4 : x4 = s.1 66 61) (h : rf_KW s u Vf Tf kf n) (a1' : cx_I t) (a2 : cx_F [(66, 66), (108, 108), (110, 110)] u t) (a3 : rf_f [64] u t) (a4 : t.1 66 64 = u.1 66 64 + 1) (a5 : rf_ag 110 110 (u.1 66 64) u t) (a6 : t.2.1 110 (u.1 66 64).toNat = a1) (a7 : rf_ro 108 108 x4 u t) (a8 : t.2.1 108 x4.toNat = u.2.1 108 x4.toNat + 1) (ha1 : a1 = Tf k) (hv : v = Vf k) (hvr : -2147483648 ≤ v ∧ v ≤ 2147483647) (hn : n' = t.1 66 56) (hw : w = t.1 66 56 + 1) (hlim : w ≤ 120000) : rf_KW s (sx_uf t.1 66 56 w, sx_ua t.2.1 105 n'.toNat v, t.2.2) Vf Tf (fun i => if i = n then k else kf i) (n + 1) := by
  obtain ⟨⟨b1, b2, b3⟩, ⟨c1, c2, c3, c4⟩, ⟨d1, d2, d3, d4, d5⟩, ⟨e1, e2, e3, e4, e5⟩, ⟨f1, f2, f3⟩, g⟩ := h
  subst hx4
  have q50 := a3 50 rfl
  have q56 := a3 56 rfl
  have q61 := a3 61 rfl
  have u1 : sx_uf t.1 66 56 w 66 50 = t.1 66 50 := by
    rw [sx_uf_if]
    exact if_neg (fun c => absurd c.2 (by decide))
  have u2 : sx_uf t.1 66 56 w 66 61 = t.1 66 61 := by
    rw [sx_uf_if]
    exact if_neg (fun c => absurd c.2 (by decide))
  have u3 : sx_uf t.1 66 56 w 66 56 = w := by
    rw [sx_uf_if]
    exact if_pos ⟨rfl, rfl⟩
  have u4 : sx_uf t.1 66 56 w 66 64 = t.1 66 64 := by
    rw [sx_uf_if]
    exact if_neg (fun c => absurd c.2 (by decide))
  have o : ∀ p, p ≠ 105 → sx_ua t.2.1 105 n'.toNat v p = t.2.1 p := fun p hp => sx_ua_ne hp
  have s105 : ∀ j, sx_ua t.2.1 105 n'.toNat v 105 j = if j = n'.toNat then v else t.2.1 105 j := fun j => by rw [sx_ua_same]
  have g105 : t.2.1 105 = u.2.1 105 := (a2.same 105 rfl).2
  have hI2 : cx_I (sx_uf t.1 66 56 w, t.2) := cx_I_uf rfl rfl a1' (by have := (a1'.fld 66 56 (by decide) rfl).1; omega) hlim
  refine ⟨⟨cx_I_ua rfl rfl hI2 hvr.1 hvr.2, cx_F_ua rfl (cx_F_uf rfl (cx_F_step a2 rfl b2)), rf_f_uf rfl (rf_f_step a3 rfl b3)⟩, ⟨by dsimp only; omega, by dsimp only; omega, by dsimp only; rw [u3]; push_cast; omega, by dsimp only; rw [u4]; push_cast; omega⟩, ⟨fun p j hp hq hj => ?_, fun p j hp hq hj => ?_, fun p j hp hq hj => ?_, fun p j hp hq hj => ?_, fun p j hp hq hj => ?_⟩, ⟨?_, ?_, ?_, ?_, ?_⟩, ⟨?_, ?_, ?_⟩, fun i hi => ?_⟩
  · show sx_ua t.2.1 105 n'.toNat v p j = _
    have h1 : t.2.1 p = u.2.1 p := by
      have : p = 100 ∨ p = 101 ∨ p = 102 ∨ p = 103 ∨ p = 104 := by omega
      rcases this with rfl | rfl | rfl | rfl | rfl <;> exact (a2.same _ rfl).2
    rw [o p (by omega), h1]
    exact d1 p j hp hq hj
  · have : p = 105 := by omega
    subst this
    show sx_ua t.2.1 105 n'.toNat v 105 j = _
    rw [s105, if_neg (by omega), g105]
    exact d2 105 j hp hq hj
  · show sx_ua t.2.1 105 n'.toNat v p j = _
    rw [o p (by omega)]
    have h1 : p = 108 ∨ p = 109 := by omega
    rcases h1 with rfl | rfl
    · rw [a7 108 j (by omega) (by omega) (by omega)]
      exact d3 108 j hp hq hj
    · rw [(a2.same 109 rfl).2]
      exact d3 109 j hp hq hj
  · have : p = 110 := by omega
    subst this
    show sx_ua t.2.1 105 n'.toNat v 110 j = _
    rw [o 110 (by decide), a5 110 j (by omega) (by omega) (by omega)]
    exact d4 110 j hp hq hj
  · have : p = 111 := by omega
    subst this
    show sx_ua t.2.1 105 n'.toNat v 111 j = _
    rw [o 111 (by decide), (a2.same 111 rfl).2]
    exact d5 111 j hp hq hj
  · show sx_ua t.2.1 105 n'.toNat v 100 _ = _
    rw [o 100 (by decide), (a2.same 100 rfl).2]
    exact e1
  · show sx_ua t.2.1 105 n'.toNat v 101 _ = _
    rw [o 101 (by decide), (a2.same 101 rfl).2]
    exact e2
  · show sx_ua t.2.1 105 n'.toNat v 102 _ = _
    rw [o 102 (by decide), (a2.same 102 rfl).2]
    exact e3
  · show sx_ua t.2.1 105 n'.toNat v 103 _ = _
    rw [o 103 (by decide), (a2.same 103 rfl).2]
    exact e4
  · show sx_ua t.2.1 105 n'.toNat v 104 _ = _
    rw [o 104 (by decide), (a2.same 104 rfl).2]
    exact e5
  · show sx_ua t.2.1 105 n'.toNat v 108 _ = _
    rw [o 108 (by decide), a8, f1]
    push_cast
    rfl
  · show sx_ua t.2.1 105 n'.toNat v 109 _ = _
    rw [o 109 (by decide), (a2.same 109 rfl).2]
    exact f2
  · show sx_ua t.2.1 105 n'.toNat v 111 _ = _
    rw [o 111 (by decide), (a2.same 111 rfl).2]
    exact f3
  · show sx_ua t.2.1 105 n'.toNat v 105 _ = Vf (if i = n then k else kf i) ∧ sx_ua t.2.1 105 n'.toNat v 110 _ = Tf (if i = n then k else kf i)
    rw [s105, o 110 (by decide)]
    by_cases c : i = n
    · subst c
      rw [if_pos rfl, if_pos (by omega), show (s.1 66 64 + (i : Int)).toNat = (u.1 66 64).toNat by omega, a6]
      exact ⟨hv, ha1⟩
    · rw [if_neg c, if_neg (by omega), g105, a5 110 _ (by omega) (by omega) (by omega)]
      exact g i (by omega)
/-- an unknown is given -/
def rf_AS (u t : sx_S) (m row J by' : Int) : Prop := cx_I t ∧ cx_F [(66, 66), (111, 114)] u t ∧ rf_f [70] u t ∧ t.1 66 70 = u.1 66 70 + 1 ∧ rf_ro 111 114 m u t ∧ (t.2.1 111 m.toNat = 1 ∧ t.2.1 112 m.toNat = row ∧ t.2.1 113 m.toNat = J ∧ t.2.1 114 m.toNat = by')
end
