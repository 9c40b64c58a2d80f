section
/-! ===== the law, piece by piece ===== -/
theorem rf_i32 (x : Int32) : -2147483648 ≤ x.toInt ∧ x.toInt ≤ 2147483647 := by
  have h1 := Int32.le_toInt x
  have h2 := Int32.toInt_lt x
  omega

set_option maxRecDepth 8000 in
theorem w_law_378 {CALL : sx_Ca} {sL : Nat} {sx : Nat → Int32} {Q : Nat → sx_L → sx_S → Prop} {R : Int → sx_S → Prop} {s : sx_S} {i : Int} (q : 0 ≤ i ∧ i ≤ 3072) (hQ : ∀ y : Int, y = i + 6 → Q 18 [(0, .inr (.inl 1000000)), (1, .inr (.inl 0)), (2, .inr (.inl 66)), (3, .inl y)] s) : sx_wp true sL sx eL_law CALL [(18, [0, 1, 2, 3]), (88, [0, 1, 2, 3]), (151, [0, 1, 2, 3]), (174, [0, 1, 2, 3]), (197, [0, 1, 2, 3]), (220, [0, 1, 2, 3]), (233, [0, 1, 2, 3]), (246, [0, 1, 2, 3]), (269, [0, 1, 2, 3]), (302, [0, 1, 2, 3]), (335, [0, 1, 2, 3]), (378, [0, 1, 2, 3])] Q R 400 378 [(0, .inr (.inl 1000000)), (1, .inr (.inl 0)), (2, .inr (.inl 66)), (3, .inl i)] [] s := by
  repeat' (first | (with_reducible intro _) | (refine And.intro ?_ ?_) | (refine hQ _ ?_))
  all_goals (try dsimp only)
  all_goals (first | trivial | assumption | omega | (dsimp only at *; omega) | (simp only [sx_w_t] at *; omega) | (subst_vars; omega) | (subst_vars; assumption) | (subst_vars; dsimp only at *; omega) | (subst_vars; dsimp only at *; simp only [sx_w_t] at *; omega) | skip)

set_option maxRecDepth 8000 in
theorem w_law_18 {CALL : sx_Ca} {sL : Nat} {sx : Nat → Int32} {Q : Nat → sx_L → sx_S → Prop} {R : Int → sx_S → Prop} {s : sx_S} {i : Int} (hsL : sL ≤ 3072) (q : 0 ≤ i ∧ i ≤ 3078) (hE : R 1 s) (hQ : i + 6 ≤ (sL : Int) → ∀ p : Nat, p ∈ [88, 151, 174, 197, 220, 233, 246, 269, 302, 335, 378] → Q p [(0, .inr (.inl 1000000)), (1, .inr (.inl 0)), (2, .inr (.inl 66)), (3, .inl i)] s) : sx_wp true sL sx eL_law CALL [(18, [0, 1, 2, 3]), (88, [0, 1, 2, 3]), (151, [0, 1, 2, 3]), (174, [0, 1, 2, 3]), (197, [0, 1, 2, 3]), (220, [0, 1, 2, 3]), (233, [0, 1, 2, 3]), (246, [0, 1, 2, 3]), (269, [0, 1, 2, 3]), (302, [0, 1, 2, 3]), (335, [0, 1, 2, 3]), (378, [0, 1, 2, 3])] Q R 400 18 [(0, .inr (.inl 1000000)), (1, .inr (.inl 0)), (2, .inr (.inl 66)), (3, .inl i)] [] s := by
  repeat' (first | (with_reducible intro _) | (refine And.intro ?_ ?_) | (exact hE) | ((refine hQ ?_ 88 ?_)) | ((refine hQ ?_ 151 ?_)) | ((refine hQ ?_ 174 ?_)) | ((refine hQ ?_ 197 ?_)) | ((refine hQ ?_ 220 ?_)) | ((refine hQ ?_ 233 ?_)) | ((refine hQ ?_ 246 ?_)) | ((refine hQ ?_ 269 ?_)) | ((refine hQ ?_ 302 ?_)) | ((refine hQ ?_ 335 ?_)) | ((refine hQ ?_ 378 ?_)))
  all_goals (try dsimp only)
  all_goals (first | trivial | decide | omega | (dsimp only at *; omega) | (simp only [sx_w_t] at *; omega) | (subst_vars; omega) | skip)

set_option maxRecDepth 8000 in
theorem w_law_174 {CALL : sx_Ca} {sL : Nat} {sx : Nat → Int32} {Q : Nat → sx_L → sx_S → Prop} {R : Int → sx_S → Prop} {s : sx_S} {i : Int} {PD : Int → sx_S → Prop} {PM : sx_S → sx_S → Prop} (q : 0 ≤ i ∧ i + 6 ≤ (sL : Int)) (hsL : sL ≤ 3072) (hD : ∀ a : Int, (-2147483648 ≤ a ∧ a ≤ 2147483647) → ∀ K : Int → sx_S → Prop, (∀ z t, PD z t → K z t) → CALL 139 [.inr (.inl 0), .inl a] s K) (hM : ∀ z t, PD z t → ∀ a : Int, (-2147483648 ≤ a ∧ a ≤ 2147483647) → ∀ K : Int → sx_S → Prop, (∀ z t2, PM t t2 → K z t2) → CALL 176 [.inr (.inl 66), .inl a] t K) (hQ : ∀ z t t2, PD z t → PM t t2 → Q 378 [(0, .inr (.inl 1000000)), (1, .inr (.inl 0)), (2, .inr (.inl 66)), (3, .inl i)] t2) : sx_wp true sL sx eL_law CALL [(18, [0, 1, 2, 3]), (88, [0, 1, 2, 3]), (151, [0, 1, 2, 3]), (174, [0, 1, 2, 3]), (197, [0, 1, 2, 3]), (220, [0, 1, 2, 3]), (233, [0, 1, 2, 3]), (246, [0, 1, 2, 3]), (269, [0, 1, 2, 3]), (302, [0, 1, 2, 3]), (335, [0, 1, 2, 3]), (378, [0, 1, 2, 3])] Q R 400 174 [(0, .inr (.inl 1000000)), (1, .inr (.inl 0)), (2, .inr (.inl 66)), (3, .inl i)] [] s := by
  repeat' (first | (with_reducible intro _) | (refine And.intro ?_ ?_) | (refine hQ _ _ _ (by assumption) (by assumption)) | (refine hM _ _ (by assumption) _ ?_ _ ?_) | (refine hD _ ?_ _ ?_))
  all_goals (try dsimp only)
  all_goals (first | trivial | assumption | omega | (exact rf_i32 _) | (exact (rf_i32 _).1) | (exact (rf_i32 _).2) | (dsimp only at *; omega) | (simp only [sx_w_t] at *; omega) | (subst_vars; omega) | skip)

set_option maxRecDepth 8000 in
theorem w_law_197 {CALL : sx_Ca} {sL : Nat} {sx : Nat → Int32} {Q : Nat → sx_L → sx_S → Prop} {R : Int → sx_S → Prop} {s : sx_S} {i : Int} {PD : Int → sx_S → Prop} {PM : sx_S → sx_S → Prop} (q : 0 ≤ i ∧ i + 6 ≤ (sL : Int)) (hsL : sL ≤ 3072) (hD : ∀ a : Int, (-2147483648 ≤ a ∧ a ≤ 2147483647) → ∀ K : Int → sx_S → Prop, (∀ z t, PD z t → K z t) → CALL 140 [.inr (.inl 0), .inl a] s K) (hM : ∀ z t, PD z t → ∀ a : Int, (-2147483648 ≤ a ∧ a ≤ 2147483647) → ∀ K : Int → sx_S → Prop, (∀ z t2, PM t t2 → K z t2) → CALL 177 [.inr (.inl 66), .inl a] t K) (hQ : ∀ z t t2, PD z t → PM t t2 → Q 378 [(0, .inr (.inl 1000000)), (1, .inr (.inl 0)), (2, .inr (.inl 66)), (3, .inl i)] t2) : sx_wp true sL sx eL_law CALL [(18, [0, 1, 2, 3]), (88, [0, 1, 2, 3]), (151, [0, 1, 2, 3]), (174, [0, 1, 2, 3]), (197, [0, 1, 2, 3]), (220, [0, 1, 2, 3]), (233, [0, 1, 2, 3]), (246, [0, 1, 2, 3]), (269, [0, 1, 2, 3]), (302, [0, 1, 2, 3]), (335, [0, 1, 2, 3]), (378, [0, 1, 2, 3])] Q R 400 197 [(0, .inr (.inl 1000000)), (1, .inr (.inl 0)), (2, .inr (.inl 66)), (3, .inl i)] [] s := by
  repeat' (first | (with_reducible intro _) | (refine And.intro ?_ ?_) | (refine hQ _ _ _ (by assumption) (by assumption)) | (refine hM _ _ (by assumption) _ ?_ _ ?_) | (refine hD _ ?_ _ ?_))
  all_goals (try dsimp only)
  all_goals (first | trivial | assumption | omega | (exact rf_i32 _) | (exact (rf_i32 _).1) | (exact (rf_i32 _).2) | (dsimp only at *; omega) | (simp only [sx_w_t] at *; omega) | (subst_vars; omega) | skip)

set_option maxRecDepth 8000 in
theorem w_law_220 {CALL : sx_Ca} {sL : Nat} {sx : Nat → Int32} {Q : Nat → sx_L → sx_S → Prop} {R : Int → sx_S → Prop} {s : sx_S} {i : Int} {PD : Int → sx_S → Prop} {PM : sx_S → sx_S → Prop} (q : 0 ≤ i ∧ i + 6 ≤ (sL : Int)) (hsL : sL ≤ 3072) (hD : ∀ K : Int → sx_S → Prop, (∀ z t, PD z t → K z t) → CALL 141 [.inr (.inl 0)] s K) (hM : ∀ z t, PD z t → ∀ K : Int → sx_S → Prop, (∀ z t2, PM t t2 → K z t2) → CALL 201 [.inr (.inl 66)] t K) (hQ : ∀ z t t2, PD z t → PM t t2 → Q 378 [(0, .inr (.inl 1000000)), (1, .inr (.inl 0)), (2, .inr (.inl 66)), (3, .inl i)] t2) : sx_wp true sL sx eL_law CALL [(18, [0, 1, 2, 3]), (88, [0, 1, 2, 3]), (151, [0, 1, 2, 3]), (174, [0, 1, 2, 3]), (197, [0, 1, 2, 3]), (220, [0, 1, 2, 3]), (233, [0, 1, 2, 3]), (246, [0, 1, 2, 3]), (269, [0, 1, 2, 3]), (302, [0, 1, 2, 3]), (335, [0, 1, 2, 3]), (378, [0, 1, 2, 3])] Q R 400 220 [(0, .inr (.inl 1000000)), (1, .inr (.inl 0)), (2, .inr (.inl 66)), (3, .inl i)] [] s := by
  repeat' (first | (with_reducible intro _) | (refine And.intro ?_ ?_) | (refine hQ _ _ _ (by assumption) (by assumption)) | (refine hM _ _ (by assumption)   _ ?_) | (refine hD   _ ?_))
  all_goals (try dsimp only)
  all_goals (first | trivial | assumption | omega | (exact rf_i32 _) | (exact (rf_i32 _).1) | (exact (rf_i32 _).2) | (dsimp only at *; omega) | (simp only [sx_w_t] at *; omega) | (subst_vars; omega) | skip)

set_option maxRecDepth 8000 in
theorem w_law_246 {CALL : sx_Ca} {sL : Nat} {sx : Nat → Int32} {Q : Nat → sx_L → sx_S → Prop} {R : Int → sx_S → Prop} {s : sx_S} {i : Int} {PD : Int → sx_S → Prop} {PM : sx_S → sx_S → Prop} (q : 0 ≤ i ∧ i + 6 ≤ (sL : Int)) (hsL : sL ≤ 3072) (hD : ∀ a : Int, (-2147483648 ≤ a ∧ a ≤ 2147483647) → ∀ K : Int → sx_S → Prop, (∀ z t, PD z t → K z t) → CALL 143 [.inr (.inl 0), .inl a] s K) (hM : ∀ z t, PD z t → ∀ a : Int, (-2147483648 ≤ a ∧ a ≤ 2147483647) → ∀ K : Int → sx_S → Prop, (∀ z t2, PM t t2 → K z t2) → CALL 215 [.inr (.inl 66), .inl a] t K) (hQ : ∀ z t t2, PD z t → PM t t2 → Q 378 [(0, .inr (.inl 1000000)), (1, .inr (.inl 0)), (2, .inr (.inl 66)), (3, .inl i)] t2) : sx_wp true sL sx eL_law CALL [(18, [0, 1, 2, 3]), (88, [0, 1, 2, 3]), (151, [0, 1, 2, 3]), (174, [0, 1, 2, 3]), (197, [0, 1, 2, 3]), (220, [0, 1, 2, 3]), (233, [0, 1, 2, 3]), (246, [0, 1, 2, 3]), (269, [0, 1, 2, 3]), (302, [0, 1, 2, 3]), (335, [0, 1, 2, 3]), (378, [0, 1, 2, 3])] Q R 400 246 [(0, .inr (.inl 1000000)), (1, .inr (.inl 0)), (2, .inr (.inl 66)), (3, .inl i)] [] s := by
  repeat' (first | (with_reducible intro _) | (refine And.intro ?_ ?_) | (refine hQ _ _ _ (by assumption) (by assumption)) | (refine hM _ _ (by assumption) _ ?_ _ ?_) | (refine hD _ ?_ _ ?_))
  all_goals (try dsimp only)
  all_goals (first | trivial | assumption | omega | (exact rf_i32 _) | (exact (rf_i32 _).1) | (exact (rf_i32 _).2) | (dsimp only at *; omega) | (simp only [sx_w_t] at *; omega) | (subst_vars; omega) | skip)

set_option maxRecDepth 8000 in
theorem w_law_269 {CALL : sx_Ca} {sL : Nat} {sx : Nat → Int32} {Q : Nat → sx_L → sx_S → Prop} {R : Int → sx_S → Prop} {s : sx_S} {i : Int} {PD : Int → sx_S → Prop} {PM : sx_S → sx_S → Prop} (q : 0 ≤ i ∧ i + 6 ≤ (sL : Int)) (hsL : sL ≤ 3072) (hD : ∀ a b : Int, (-2147483648 ≤ a ∧ a ≤ 2147483647) → (-2147483648 ≤ b ∧ b ≤ 2147483647) → ∀ K : Int → sx_S → Prop, (∀ z t, PD z t → K z t) → CALL 144 [.inr (.inl 0), .inl a, .inl b] s K) (hM : ∀ z t, PD z t → ∀ a b : Int, (-2147483648 ≤ a ∧ a ≤ 2147483647) → (-2147483648 ≤ b ∧ b ≤ 2147483647) → ∀ K : Int → sx_S → Prop, (∀ z t2, PM t t2 → K z t2) → CALL 216 [.inr (.inl 66), .inl a, .inl b] t K) (hQ : ∀ z t t2, PD z t → PM t t2 → Q 378 [(0, .inr (.inl 1000000)), (1, .inr (.inl 0)), (2, .inr (.inl 66)), (3, .inl i)] t2) : sx_wp true sL sx eL_law CALL [(18, [0, 1, 2, 3]), (88, [0, 1, 2, 3]), (151, [0, 1, 2, 3]), (174, [0, 1, 2, 3]), (197, [0, 1, 2, 3]), (220, [0, 1, 2, 3]), (233, [0, 1, 2, 3]), (246, [0, 1, 2, 3]), (269, [0, 1, 2, 3]), (302, [0, 1, 2, 3]), (335, [0, 1, 2, 3]), (378, [0, 1, 2, 3])] Q R 400 269 [(0, .inr (.inl 1000000)), (1, .inr (.inl 0)), (2, .inr (.inl 66)), (3, .inl i)] [] s := by
  repeat' (first | (with_reducible intro _) | (refine And.intro ?_ ?_) | (refine hQ _ _ _ (by assumption) (by assumption)) | (refine hM _ _ (by assumption) _ _ ?_ ?_ _ ?_) | (refine hD _ _ ?_ ?_ _ ?_))
  all_goals (try dsimp only)
  all_goals (first | trivial | assumption | omega | (exact rf_i32 _) | (exact (rf_i32 _).1) | (exact (rf_i32 _).2) | (dsimp only at *; omega) | (simp only [sx_w_t] at *; omega) | (subst_vars; omega) | skip)

set_option maxRecDepth 8000 in
theorem w_law_302 {CALL : sx_Ca} {sL : Nat} {sx : Nat → Int32} {Q : Nat → sx_L → sx_S → Prop} {R : Int → sx_S → Prop} {s : sx_S} {i : Int} {PD : Int → sx_S → Prop} {PM : sx_S → sx_S → Prop} (q : 0 ≤ i ∧ i + 6 ≤ (sL : Int)) (hsL : sL ≤ 3072) (hD : ∀ a b : Int, (-2147483648 ≤ a ∧ a ≤ 2147483647) → (-2147483648 ≤ b ∧ b ≤ 2147483647) → ∀ K : Int → sx_S → Prop, (∀ z t, PD z t → K z t) → CALL 145 [.inr (.inl 0), .inl a, .inl b] s K) (hM : ∀ z t, PD z t → ∀ a b : Int, (-2147483648 ≤ a ∧ a ≤ 2147483647) → (-2147483648 ≤ b ∧ b ≤ 2147483647) → ∀ K : Int → sx_S → Prop, (∀ z t2, PM t t2 → K z t2) → CALL 217 [.inr (.inl 66), .inl a, .inl b] t K) (hQ : ∀ z t t2, PD z t → PM t t2 → Q 378 [(0, .inr (.inl 1000000)), (1, .inr (.inl 0)), (2, .inr (.inl 66)), (3, .inl i)] t2) : sx_wp true sL sx eL_law CALL [(18, [0, 1, 2, 3]), (88, [0, 1, 2, 3]), (151, [0, 1, 2, 3]), (174, [0, 1, 2, 3]), (197, [0, 1, 2, 3]), (220, [0, 1, 2, 3]), (233, [0, 1, 2, 3]), (246, [0, 1, 2, 3]), (269, [0, 1, 2, 3]), (302, [0, 1, 2, 3]), (335, [0, 1, 2, 3]), (378, [0, 1, 2, 3])] Q R 400 302 [(0, .inr (.inl 1000000)), (1, .inr (.inl 0)), (2, .inr (.inl 66)), (3, .inl i)] [] s := by
  repeat' (first | (with_reducible intro _) | (refine And.intro ?_ ?_) | (refine hQ _ _ _ (by assumption) (by assumption)) | (refine hM _ _ (by assumption) _ _ ?_ ?_ _ ?_) | (refine hD _ _ ?_ ?_ _ ?_))
  all_goals (try dsimp only)
  all_goals (first | trivial | assumption | omega | (exact rf_i32 _) | (exact (rf_i32 _).1) | (exact (rf_i32 _).2) | (dsimp only at *; omega) | (simp only [sx_w_t] at *; omega) | (subst_vars; omega) | skip)

set_option maxRecDepth 8000 in
theorem w_law_sl {CALL : sx_Ca} {sL : Nat} {sx : Nat → Int32} {Q : Nat → sx_L → sx_S → Prop} {R : Int → sx_S → Prop} {s : sx_S} {i : Int} {PD : Int → sx_S → Prop} {PM : Int → sx_S → Int → sx_S → Prop} (q : 0 ≤ i ∧ i + 6 ≤ (sL : Int)) (hsL : sL ≤ 3072) (hD : ∀ a b c : Int, a = (sx (i + 1).toNat).toInt → b = (sx (i + 2).toNat).toInt → c = (sx (i + 3).toNat).toInt → (-2147483648 ≤ a ∧ a ≤ 2147483647) → (-2147483648 ≤ b ∧ b ≤ 2147483647) → (-2147483648 ≤ c ∧ c ≤ 2147483647) → ∀ K : Int → sx_S → Prop, (∀ z t, PD z t → K z t) → CALL 146 [.inr (.inl 0), .inl a, .inl b, .inl c] s K) (hM : ∀ z t, PD z t → ∀ a b c : Int, a = (sx (i + 1).toNat).toInt → b = (sx (i + 2).toNat).toInt → c = (sx (i + 3).toNat).toInt → (-2147483648 ≤ a ∧ a ≤ 2147483647) → (-2147483648 ≤ b ∧ b ≤ 2147483647) → (-2147483648 ≤ c ∧ c ≤ 2147483647) → ∀ K : Int → sx_S → Prop, (∀ z2 t2, PM z t z2 t2 → K z2 t2) → CALL 218 [.inr (.inl 66), .inl a, .inl b, .inl c] t K) (hS : ∀ z t z2 t2, PD z t → PM z t z2 t2 → z = z2 ∧ (-2147483648 ≤ z ∧ z ≤ 2147483647)) (hQ : ∀ z t z2 t2, PD z t → PM z t z2 t2 → Q 378 [(0, .inr (.inl 1000000)), (1, .inr (.inl 0)), (2, .inr (.inl 66)), (3, .inl i)] t2) : sx_wp true sL sx eL_law CALL [(18, [0, 1, 2, 3]), (88, [0, 1, 2, 3]), (151, [0, 1, 2, 3]), (174, [0, 1, 2, 3]), (197, [0, 1, 2, 3]), (220, [0, 1, 2, 3]), (233, [0, 1, 2, 3]), (246, [0, 1, 2, 3]), (269, [0, 1, 2, 3]), (302, [0, 1, 2, 3]), (335, [0, 1, 2, 3]), (378, [0, 1, 2, 3])] Q R 400 335 [(0, .inr (.inl 1000000)), (1, .inr (.inl 0)), (2, .inr (.inl 66)), (3, .inl i)] [] s := by
  have e1 : sx_w true (i + 1) = i + 1 := rf_wid (by omega) (by omega)
  have e2 : sx_w true (i + 2) = i + 2 := rf_wid (by omega) (by omega)
  have e3 : sx_w true (i + 3) = i + 3 := rf_wid (by omega) (by omega)
  repeat' (first | (with_reducible intro _) | (refine And.intro ?_ ?_) | (refine hQ _ _ _ _ (by assumption) (by assumption)) | (refine hM _ _ (by assumption) _ _ _ ?_ ?_ ?_ ?_ ?_ ?_ _ ?_) | (refine hD _ _ _ ?_ ?_ ?_ ?_ ?_ ?_ _ ?_))
  all_goals (try dsimp only)
  all_goals (first | trivial | assumption | omega | (exact rf_i32 _) | (exact (rf_i32 _).1) | (exact (rf_i32 _).2) | rfl | (subst_vars; rfl) | (rw [e1]; done) | (rw [e2]; done) | (rw [e3]; done) | (dsimp only; rw [e1]; done) | (dsimp only; rw [e2]; done) | (dsimp only; rw [e3]; done) | (subst_vars; dsimp only at *; rw [e1]; done) | (subst_vars; dsimp only at *; rw [e2]; done) | (subst_vars; dsimp only at *; rw [e3]; done) | (exfalso; have hs := hS _ _ _ _ (by assumption) (by assumption); omega) | (have hs := hS _ _ _ _ (by assumption) (by assumption); omega) | (dsimp only at *; omega) | (simp only [sx_w_t] at *; omega) | (subst_vars; omega) | skip)
set_option maxRecDepth 8000 in
theorem w_law_fd {CALL : sx_Ca} {sL : Nat} {sx : Nat → Int32} {Q : Nat → sx_L → sx_S → Prop} {R : Int → sx_S → Prop} {s : sx_S} {i : Int} {PD : sx_S → Prop} {PM : sx_S → sx_S → Prop} (q : 0 ≤ i ∧ i + 6 ≤ (sL : Int)) (hsL : sL ≤ 3072) (hD : ∀ a b c e f : Int, a = (sx (i + 1).toNat).toInt → b = (sx (i + 2).toNat).toInt → c = (sx (i + 3).toNat).toInt → e = (sx (i + 4).toNat).toInt → f = (sx (i + 5).toNat).toInt → ∀ K : Int → sx_S → Prop, (∀ z t, PD t → K z t) → CALL 137 [.inr (.inl 0), .inl a, .inl b, .inl c, .inl e, .inl f] s K) (hM : ∀ t, PD t → ∀ a b c e f : Int, a = (sx (i + 1).toNat).toInt → b = (sx (i + 2).toNat).toInt → c = (sx (i + 3).toNat).toInt → e = (sx (i + 4).toNat).toInt → f = (sx (i + 5).toNat).toInt → ∀ K : Int → sx_S → Prop, (∀ z t2, PM t t2 → K z t2) → CALL 150 [.inr (.inl 66), .inl a, .inl b, .inl c, .inl e, .inl f] t K) (hQ : ∀ t t2, PD t → PM t t2 → Q 378 [(0, .inr (.inl 1000000)), (1, .inr (.inl 0)), (2, .inr (.inl 66)), (3, .inl i)] t2) : sx_wp true sL sx eL_law CALL [(18, [0, 1, 2, 3]), (88, [0, 1, 2, 3]), (151, [0, 1, 2, 3]), (174, [0, 1, 2, 3]), (197, [0, 1, 2, 3]), (220, [0, 1, 2, 3]), (233, [0, 1, 2, 3]), (246, [0, 1, 2, 3]), (269, [0, 1, 2, 3]), (302, [0, 1, 2, 3]), (335, [0, 1, 2, 3]), (378, [0, 1, 2, 3])] Q R 400 88 [(0, .inr (.inl 1000000)), (1, .inr (.inl 0)), (2, .inr (.inl 66)), (3, .inl i)] [] s := by
  have e1 : sx_w true (i + 1) = i + 1 := rf_wid (by omega) (by omega)
  have e2 : sx_w true (i + 2) = i + 2 := rf_wid (by omega) (by omega)
  have e3 : sx_w true (i + 3) = i + 3 := rf_wid (by omega) (by omega)
  have e4 : sx_w true (i + 4) = i + 4 := rf_wid (by omega) (by omega)
  have e5 : sx_w true (i + 5) = i + 5 := rf_wid (by omega) (by omega)
  repeat' (first | (with_reducible intro _) | (refine And.intro ?_ ?_) | (refine hQ _ _ (by assumption) (by assumption)) | (refine hM _ (by assumption) _ _ _ _ _ ?_ ?_ ?_ ?_ ?_ _ ?_) | (refine hD _ _ _ _ _ ?_ ?_ ?_ ?_ ?_ _ ?_))
  all_goals (try dsimp only)
  all_goals (first | trivial | assumption | omega | (exact rf_i32 _) | (exact (rf_i32 _).1) | (exact (rf_i32 _).2) | rfl | (subst_vars; rfl) | (rw [e1]; done) | (rw [e2]; done) | (rw [e3]; done) | (rw [e4]; done) | (rw [e5]; done) | (subst_vars; dsimp only at *; first | (rw [e1]; done) | (rw [e2]; done) | (rw [e3]; done) | (rw [e4]; done) | (rw [e5]; done)) | (dsimp only at *; omega) | (simp only [sx_w_t] at *; omega) | (subst_vars; omega) | skip)

set_option maxRecDepth 8000 in
theorem w_law_load {CALL : sx_Ca} {sL : Nat} {sx : Nat → Int32} {Q : Nat → sx_L → sx_S → Prop} {R : Int → sx_S → Prop} {s : sx_S} {i : Int} {PD : sx_S → Prop} {PM : sx_S → sx_S → Prop} (q : 0 ≤ i ∧ i + 6 ≤ (sL : Int)) (hsL : sL ≤ 3072) (hD : ∀ a : Int, a = (sx (i + 1).toNat).toInt → (-2147483648 ≤ a ∧ a ≤ 2147483647) → ∀ K : Int → sx_S → Prop, (∀ z t, PD t → K z t) → CALL 138 [.inr (.inl 0), .inl a] s K) (hM : ∀ t, PD t → ∀ a : Int, a = (sx (i + 1).toNat).toInt → (-2147483648 ≤ a ∧ a ≤ 2147483647) → ∀ K : Int → sx_S → Prop, (∀ z t2, PM t t2 → K z t2) → CALL 175 [.inr (.inl 66), .inl a] t K) (hQ : ∀ t t2, PD t → PM t t2 → Q 378 [(0, .inr (.inl 1000000)), (1, .inr (.inl 0)), (2, .inr (.inl 66)), (3, .inl i)] t2) : sx_wp true sL sx eL_law CALL [(18, [0, 1, 2, 3]), (88, [0, 1, 2, 3]), (151, [0, 1, 2, 3]), (174, [0, 1, 2, 3]), (197, [0, 1, 2, 3]), (220, [0, 1, 2, 3]), (233, [0, 1, 2, 3]), (246, [0, 1, 2, 3]), (269, [0, 1, 2, 3]), (302, [0, 1, 2, 3]), (335, [0, 1, 2, 3]), (378, [0, 1, 2, 3])] Q R 400 151 [(0, .inr (.inl 1000000)), (1, .inr (.inl 0)), (2, .inr (.inl 66)), (3, .inl i)] [] s := by
  have e1 : sx_w true (i + 1) = i + 1 := rf_wid (by omega) (by omega)
  repeat' (first | (with_reducible intro _) | (refine And.intro ?_ ?_) | (refine hQ _ _ (by assumption) (by assumption)) | (refine hM _ (by assumption) _ ?_ ?_ _ ?_) | (refine hD _ ?_ ?_ _ ?_))
  all_goals (try dsimp only)
  all_goals (first | trivial | assumption | omega | (exact rf_i32 _) | (exact (rf_i32 _).1) | (exact (rf_i32 _).2) | rfl | (subst_vars; rfl) | (rw [e1]) | (dsimp only; rw [e1]) | (subst_vars; dsimp only at *; rw [e1]) | (dsimp only at *; omega) | (simp only [sx_w_t] at *; omega) | (subst_vars; omega) | skip)

set_option maxRecDepth 8000 in
theorem w_law_233 {CALL : sx_Ca} {sL : Nat} {sx : Nat → Int32} {Q : Nat → sx_L → sx_S → Prop} {R : Int → sx_S → Prop} {s : sx_S} {i : Int} {PD : Int → sx_S → Prop} {PM : sx_S → sx_S → Prop} (q : 0 ≤ i ∧ i + 6 ≤ (sL : Int)) (hsL : sL ≤ 3072) (hD : ∀ K : Int → sx_S → Prop, (∀ z t, PD z t → K z t) → CALL 142 [.inr (.inl 0)] s K) (hM : ∀ z t, PD z t → ∀ K : Int → sx_S → Prop, (∀ z t2, PM t t2 → K z t2) → CALL 214 [.inr (.inl 66)] t K) (hQ : ∀ z t t2, PD z t → PM t t2 → Q 378 [(0, .inr (.inl 1000000)), (1, .inr (.inl 0)), (2, .inr (.inl 66)), (3, .inl i)] t2) : sx_wp true sL sx eL_law CALL [(18, [0, 1, 2, 3]), (88, [0, 1, 2, 3]), (151, [0, 1, 2, 3]), (174, [0, 1, 2, 3]), (197, [0, 1, 2, 3]), (220, [0, 1, 2, 3]), (233, [0, 1, 2, 3]), (246, [0, 1, 2, 3]), (269, [0, 1, 2, 3]), (302, [0, 1, 2, 3]), (335, [0, 1, 2, 3]), (378, [0, 1, 2, 3])] Q R 400 233 [(0, .inr (.inl 1000000)), (1, .inr (.inl 0)), (2, .inr (.inl 66)), (3, .inl i)] [] s := by
  repeat' (first | (with_reducible intro _) | (refine And.intro ?_ ?_) | (refine hQ _ _ _ (by assumption) (by assumption)) | (refine hM _ _ (by assumption)   _ ?_) | (refine hD   _ ?_))
  all_goals (try dsimp only)
  all_goals (first | trivial | assumption | omega | (exact rf_i32 _) | (exact (rf_i32 _).1) | (exact (rf_i32 _).2) | (dsimp only at *; omega) | (simp only [sx_w_t] at *; omega) | (subst_vars; omega) | skip)
end
section
/-! ===== the law: what holds between its calls ===== -/
theorem wr_C_cg {b c : Nat → Int} {n : Int} {l : List vl_I} {s : sx_S} (h : ∀ k : Nat, (k : Int) < n → b k = c k) (g : wr_C b n l s) : wr_C c n l s := fun _ => by
  obtain ⟨bb, mt, h1, h2⟩ := g trivial
  exact ⟨bb, mt, fun k hk => (h1 k hk).trans (h k hk), h2⟩
theorem wr_C_45 {b : Nat → Int} {n : Int} {l : List vl_I} {s : sx_S} (h : wr_C b n l s) : s.1 66 45 = ((vl_mf l []).length : Int) := by
  obtain ⟨bb, mt, _, h2⟩ := h trivial
  exact (((h2 trivial).2.2) trivial).1.symm
theorem dk_LD_tx {b : Nat → Int} {n : Int} {l : List vl_I} {s : sx_S} (hI : cx_I s) (h : dk_LD b n l s) : ∃ (TV : Int → qx_T → Prop) (AR : Nat → List Int) (tl : vw_L), vl_tx (px_SN b n) TV AR l [] [] tl ∧ wy_V b n l TV := by
  obtain ⟨⟨n0, n240⟩, hX, hck, ⟨bb, hE⟩, hpr, h6, h10⟩ := ((h trivial).1 trivial).1 trivial
  obtain ⟨tl, _, x2, _⟩ := dl_X hI n0 hX hck hE hpr h6 h10
  exact ⟨_, _, tl, x2, ⟨dl_tv s, fun v T h => dl_tv_eq h⟩, hck⟩
theorem wk_D_22 {b : Nat → Int} {n : Int} {l : List vl_I} {s : sx_S} (h : wk_D b n l s) : s.1 22 2 = ((vl_mf l []).length : Int) := by
  obtain ⟨_, _, _, _, _, _, _, _, _, _, _, _, _, _, _, _, q, _⟩ := h trivial
  exact q.1
theorem wk_D_18 {b : Nat → Int} {n : Int} {l : List vl_I} {s : sx_S} (h : wk_D b n l s) : s.1 18 10 = ((vl_eq l [] []).length : Int) := by
  obtain ⟨_, _, _, _, _, _, _, _, _, _, _, _, _, z1, _, _, _, q, _⟩ := h trivial
  have := (vs_tl_mk (z1 trivial).1.1).1
  omega
theorem wr_D_47 {b : Nat → Int} {n : Int} {l : List vl_I} {s : sx_S} (h : wr_D b n l s) : s.1 66 47 = ((vl_eq l [] []).length : Int) := by
  obtain ⟨_, _, _, hY⟩ := h trivial
  obtain ⟨_, _, _, _, _, _, _, _, _, _, hsd⟩ := hY trivial
  exact hsd.1
/-- what both hold of one text -/
def wv_T (b : Nat → Int) (n : Int) (l : List vl_I) (s : sx_S) : Prop := True → (vk_LD b n l (rf_l0 s) ∧ wr_C b n l s) ∧ (∃ (TV : Int → qx_T → Prop) (AR : Nat → List Int) (tl : vw_L), vl_tx (px_SN b n) TV AR l [] [] tl ∧ wy_V b n l TV) ∧ ((s.1 0 3 = -1 ∧ dk_LD b n l s ∧ s.1 66 78 = 0) ∨ (s.1 0 3 = 0 ∧ vl_sat (px_SN b n) l ∧ wk_D b n l s ∧ s.1 66 78 ≠ 0 ∧ wr_D b n l s) ∨ (s.1 0 3 = 1 ∧ ¬ vl_sat (px_SN b n) l ∧ s.1 66 78 = 0))
def wv_W (b : Nat → Int) (n : Int) (l : List vl_I) (s : sx_S) : Prop := s.1 0 2 = s.1 66 37 ∧ (s.1 0 2 ≠ 0 → wv_T b n l s) ∧ (s.1 0 2 = 0 → s.1 66 78 = 0)
def wv_X (s : sx_S) : Prop := ∃ (b : Nat → Int) (n : Int) (l : List vl_I), wv_W b n l s
/-- a call that leaves it -/
def wv_K (b : Nat → Int) (n : Int) (l : List vl_I) (s t : sx_S) : Prop := True → vz_K s t ∧ t.1 66 78 = s.1 66 78 ∧ (wr_C b n l s → wr_C b n l t) ∧ (s.1 66 78 ≠ 0 → wr_D b n l s → wr_D b n l t) ∧ (s.1 0 2 ≠ 0 → s.1 0 3 = 0 → wk_D b n l s → wk_D b n l t)
section
variable {b : Nat → Int} {n : Int} {l : List vl_I}
theorem wv_K_0 (s : sx_S) : wv_K b n l s s := fun _ => ⟨vz_K_0 s, rfl, fun h => h, fun _ h => h, fun _ _ h => h⟩
theorem wv_K_t {s t u : sx_S} (h2 : wv_K b n l t u) (h1 : wv_K b n l s t) : wv_K b n l s u := fun _ => by
  obtain ⟨a1, a2, a3, a4, a5⟩ := h1 trivial
  obtain ⟨b1, b2, b3, b4, b5⟩ := h2 trivial
  obtain ⟨e1, e2, _⟩ := (a1 trivial).1
  exact ⟨vz_K_t b1 a1, b2.trans a2, fun h => b3 (a3 h), fun q h => b4 (by rw [a2]; exact q) (a4 q h), fun q1 q2 h => b5 (by rw [e1]; exact q1) (by rw [e2]; exact q2) (a5 q1 q2 h)⟩
theorem wv_W_k {s t : sx_S} (h : wv_W b n l s) (k : wv_K b n l s t) : wv_W b n l t := by
  obtain ⟨h1, h2, h3⟩ := h
  obtain ⟨kz, k7, kC, kR, kD⟩ := k trivial
  obtain ⟨⟨k1, k2, k3⟩, k4, k5⟩ := kz trivial
  refine ⟨by omega, fun q _ => ?_, fun q => by rw [k7]; exact h3 (by omega)⟩
  have q' : s.1 0 2 ≠ 0 := by
    rw [← k1]
    exact q
  obtain ⟨⟨g1, gC⟩, g2, g3⟩ := h2 q' trivial
  refine ⟨⟨k5 (by omega) b n l g1, kC gC⟩, g2, ?_⟩
  rw [k2, k7]
  rcases g3 with ⟨q1, q2, q3⟩ | ⟨q1, q2, q3, q4, q5⟩ | q2
  · exact Or.inl ⟨q1, dk_LD_c k4 q2, q3⟩
  · exact Or.inr (Or.inl ⟨q1, q2, kD q' q1 q3, q4, kR q4 q5⟩)
  · exact Or.inr (Or.inr q2)
theorem wv_W_h {s : sx_S} (h : wv_W b n l s) (h2 : s.1 0 2 ≠ 0) (h3 : s.1 0 3 = 0) : wk_D b n l s := by
  obtain ⟨_, _, g3⟩ := h.2.1 h2 trivial
  rcases g3 with ⟨q, _⟩ | ⟨_, _, q, _⟩ | ⟨q, _⟩
  · omega
  · exact q
  · omega
theorem wv_W_r {s : sx_S} (h : wv_W b n l s) (h78 : s.1 66 78 ≠ 0) : wr_D b n l s := by
  by_cases c : s.1 0 2 = 0
  · exact absurd (h.2.2 c) h78
  · obtain ⟨_, _, g3⟩ := h.2.1 c trivial
    rcases g3 with ⟨_, _, q⟩ | ⟨_, _, _, _, q⟩ | ⟨_, _, q⟩
    · exact absurd q h78
    · exact q
    · exact absurd q h78
/-- both have a solution, of as many unknowns, or none has -/
theorem wv_W_e {s : sx_S} (h : wv_W b n l s) : (s.1 66 78 ≠ 0 ∧ s.1 0 2 ≠ 0 ∧ s.1 0 3 = 0 ∧ s.1 22 2 = s.1 66 45 ∧ s.1 18 10 = s.1 66 47) ∨ (s.1 66 78 = 0 ∧ (s.1 0 2 = 0 ∨ s.1 0 3 ≠ 0)) := by
  by_cases c : s.1 0 2 = 0
  · exact Or.inr ⟨h.2.2 c, Or.inl c⟩
  · obtain ⟨⟨_, gC⟩, _, g3⟩ := h.2.1 c trivial
    rcases g3 with ⟨q1, _, q⟩ | ⟨q1, _, q, q4, q5⟩ | ⟨q1, _, q⟩
    · exact Or.inr ⟨q, Or.inr (by omega)⟩
    · refine Or.inl ⟨q4, c, q1, ?_, ?_⟩
      · rw [wk_D_22 q, wr_C_45 gC]
      · rw [wk_D_18 q, wr_D_47 q5]
    · exact Or.inr ⟨q, Or.inr (by omega)⟩
theorem wv_K_w {s t : sx_S} (hI : cx_I t) (h : cx_F [(29, 37), (55, 65)] s t) (hD : s.1 0 2 ≠ 0 → s.1 0 3 = 0 → wk_D b n l t) : wv_K b n l s t := fun _ => ⟨vz_K_w h, by rw [(h.same 66 rfl).1], fun g => wr_C_F h (by decide) (fun k _ => by rw [(h.same 66 rfl).1]) g, fun _ g => wr_D_d hI h rfl g, fun q1 q2 _ => hD q1 q2⟩
theorem wv_K_d {s t : sx_S} (hI : cx_I t) (h : cx_F [(0, 1)] s t) (h2 : t.1 0 2 = s.1 0 2) (h3 : t.1 0 3 = s.1 0 3) : wv_K b n l s t := fun _ => ⟨vz_K_d h h2 h3, by rw [(h.same 66 rfl).1], fun g => wr_C_F h (by decide) (fun k _ => by rw [(h.same 66 rfl).1]) g, fun _ g => wr_D_d hI h rfl g, fun _ _ g => wk_D_F hI h rfl g⟩
theorem wv_K_f {s t : sx_S} (hI : cx_I t) (h : cx_F [(66, 67)] s t) (hf : rf_f [1] s t) : wv_K b n l s t := fun _ => ⟨vz_K_f h hf, hf 78 rfl, fun g => wr_C_F h (by decide) (fun k hk => by
  rcases hk with rfl | rfl | rfl | rfl <;> exact hf _ rfl) g, fun _ g => wr_D_k hI (cx_F_step h rfl (cx_F_refl _ _)) hf g, fun _ _ g => wk_D_F hI h rfl g⟩
theorem wv_K_p {s t : sx_S} (h : rf_BC s) (p : t = s ∨ (s.1 66 78 ≠ 0 ∧ rf_PP s t)) (hD : s.1 66 78 ≠ 0 → wr_D b n l t) : wv_K b n l s t := by
  rcases p with rfl | ⟨p1, p2⟩
  · exact wv_K_0 _
  · intro _
    have kz := vz_K_p h (Or.inr ⟨p1, p2⟩)
    obtain ⟨⟨q1, _⟩, q2, q3⟩ := p2
    exact ⟨kz, q3 78 rfl, fun g => wr_C_F q2 (by decide) (fun k hk => by
      rcases hk with rfl | rfl | rfl | rfl <;> exact q3 _ rfl) g, fun q _ => hD q, fun _ _ g => wk_D_F q1 q2 rfl g⟩
end
end
section
/-! ===== the law's loop ===== -/
/-- the same bytes in both tapes -/
def rf_TE (s : sx_S) : Prop := ∀ k : Nat, (k : Int) < s.1 66 1 → s.2.1 1 k = s.2.1 67 k
def rf_LV (sL ms pc : Nat) (ls : sx_L) (s : sx_S) : Prop := (∃ i : Int, ls = [(0, .inr (.inl 1000000)), (1, .inr (.inl 0)), (2, .inr (.inl 66)), (3, .inl i)] ∧ (0 ≤ i ∧ i ≤ 3078) ∧ (rf_BC s ∧ s.1 66 1 = s.1 0 1 ∧ rf_TE s ∧ wv_X s) ∧ ((pc = 18 ∧ (s.2.2.2 : Int) + 10 * s.1 66 1 ≤ 34 * i ∧ (ms : Int) = 3 * (4000 - i)) ∨ (pc ∈ [88, 151, 174, 197, 220, 233, 246, 269, 302, 335] ∧ i + 6 ≤ (sL : Int) ∧ (s.2.2.2 : Int) + 10 * s.1 66 1 ≤ 34 * i ∧ (ms : Int) = 3 * (4000 - i) - 1) ∨ (pc = 378 ∧ i + 6 ≤ (sL : Int) ∧ (s.2.2.2 : Int) + 10 * s.1 66 1 ≤ 34 * (i + 6) ∧ (ms : Int) = 3 * (4000 - i) - 2)))
/-- a call that leaves what is fed as it was -/
def rf_LK (b : Nat → Int) (n : Int) (l : List vl_I) (s t : sx_S) : Prop := rf_BC t ∧ t.2.2 = s.2.2 ∧ t.1 66 1 = s.1 66 1 ∧ t.1 0 1 = s.1 0 1 ∧ t.2.1 1 = s.2.1 1 ∧ t.2.1 67 = s.2.1 67 ∧ wv_K b n l s t
theorem rf_LK_t {b : Nat → Int} {n : Int} {l : List vl_I} {s t u : sx_S} (h2 : rf_LK b n l t u) (h1 : rf_LK b n l s t) : rf_LK b n l s u := ⟨h2.1, h2.2.1.trans h1.2.1, h2.2.2.1.trans h1.2.2.1, h2.2.2.2.1.trans h1.2.2.2.1, h2.2.2.2.2.1.trans h1.2.2.2.2.1, h2.2.2.2.2.2.1.trans h1.2.2.2.2.2.1, wv_K_t h2.2.2.2.2.2.2 h1.2.2.2.2.2.2⟩
theorem rf_law_d {b : Nat → Int} {n : Int} {l : List vl_I} {s t : sx_S} (c1 : cx_I t) (c2 : wk_fw s t) (c3 : s.1 0 2 ≠ 0 → s.1 0 3 = 0 → wk_D b n l t) (h : rf_BC s) : rf_LK b n l s t := by
  have f : cx_F [(29, 37), (55, 65)] s t := cx_F_step (c2 trivial).1 rfl (cx_F_refl _ _)
  exact ⟨rf_BC_desk c1 f rfl h, (f 0).2, by rw [(f.same 66 rfl).1], by rw [(f.same 0 rfl).1], (f.same 1 rfl).2, (f.same 67 rfl).2, wv_K_w c1 f c3⟩
theorem rf_law_p {b : Nat → Int} {n : Int} {l : List vl_I} {s t : sx_S} (h : rf_BC s) (p : t = s ∨ (s.1 66 78 ≠ 0 ∧ rf_PP s t)) (hD : s.1 66 78 ≠ 0 → wr_D b n l t) : rf_LK b n l s t := by
  have k := wv_K_p h p hD
  refine ⟨rf_BC_P h p, ?_⟩
  rcases p with rfl | ⟨_, _, p2, p3⟩
  · exact ⟨rfl, rfl, rfl, rfl, rfl, k⟩
  · exact ⟨(p2 0).2, p3 1 rfl, by rw [(p2.same 0 rfl).1], (p2.same 1 rfl).2, (p2.same 67 rfl).2, k⟩
set_option maxRecDepth 8000 in
theorem rf_law {sL : Nat} {sx : Nat → Int32} (hsL : sL ≤ 3072) (s0 : sx_S) (h0 : rf_BC s0) (h1 : s0.1 66 1 = 0) (h2 : s0.1 0 1 = 0) (h3 : s0.2.2.2 = 0) (h4 : wv_X s0) : sx_E sL sx 2048 230 18 [(0, .inr (.inl 1000000)), (1, .inr (.inl 0)), (2, .inr (.inl 66)), (3, .inl 0)] [] s0 (fun z _ => z = 1) := by
  refine sx_loops (wr := true) (d := 2046) (n := 400) (stop := [(18, [0, 1, 2, 3]), (88, [0, 1, 2, 3]), (151, [0, 1, 2, 3]), (174, [0, 1, 2, 3]), (197, [0, 1, 2, 3]), (220, [0, 1, 2, 3]), (233, [0, 1, 2, 3]), (246, [0, 1, 2, 3]), (269, [0, 1, 2, 3]), (302, [0, 1, 2, 3]), (335, [0, 1, 2, 3]), (378, [0, 1, 2, 3])]) (rf_LV sL) hsL (e := eL_law) rfl ?_ 12000 18 _ s0 ⟨0, rfl, by omega, ⟨h0, by omega, fun k hk => by omega, h4⟩, Or.inl ⟨rfl, by omega, by omega⟩⟩
  rintro ms pc ls s ⟨i, rfl, hi0, ⟨hB, hfe, hTE, hCN0⟩, h⟩
  obtain ⟨zb, zn, zl, hCN⟩ := id hCN0
  have r1 := hB.1.fld 66 1 (by decide) rfl
  rcases h with ⟨rfl, ho, hm⟩ | ⟨hpc, hi, ho, hm⟩ | ⟨rfl, hi, ho, hm⟩
  · refine w_law_18 hsL hi0 rfl (fun hi p hp => ?_)
    have hp2 : p ∈ [88, 151, 174, 197, 220, 233, 246, 269, 302, 335] ∨ p = 378 := by
      simp only [List.mem_cons, List.not_mem_nil, or_false] at hp ⊢
      omega
    rcases hp2 with hp2 | hp2
    · exact ⟨ms - 1, by omega, i, rfl, hi0, ⟨hB, hfe, hTE, hCN0⟩, Or.inr (Or.inl ⟨hp2, hi, ho, by omega⟩)⟩
    · exact ⟨ms - 2, by omega, i, rfl, hi0, ⟨hB, hfe, hTE, hCN0⟩, Or.inr (Or.inr ⟨hp2, hi, by omega, by omega⟩)⟩
  · have fin0 : ∀ t2 : sx_S, rf_BC t2 → t2.1 66 1 = t2.1 0 1 → rf_TE t2 → wv_X t2 → (t2.2.2.2 : Int) + 10 * t2.1 66 1 ≤ 34 * (i + 6) → ∃ m', m' < ms ∧ (rf_LV sL) m' 378 [(0, .inr (.inl 1000000)), (1, .inr (.inl 0)), (2, .inr (.inl 66)), (3, .inl i)] t2 := fun t2 b1 b2 bT bC b3 => ⟨ms - 1, by omega, i, rfl, hi0, ⟨b1, b2, bT, bC⟩, Or.inr (Or.inr ⟨rfl, hi, b3, by omega⟩)⟩
    have hi : 0 ≤ i ∧ i + 6 ≤ (sL : Int) := ⟨hi0.1, hi⟩
    have hWk : s.1 0 2 ≠ 0 → s.1 0 3 = 0 → wk_D zb zn zl s := wv_W_h hCN
    have fin : ∀ t2 : sx_S, rf_LK zb zn zl s t2 → ∃ m', m' < ms ∧ (rf_LV sL) m' 378 [(0, .inr (.inl 1000000)), (1, .inr (.inl 0)), (2, .inr (.inl 66)), (3, .inl i)] t2 := fun t2 hk => by
      obtain ⟨k1, k2, k3, k4, k5, k6, k7⟩ := hk
      refine fin0 t2 k1 (by omega) (fun k hk => by rw [k5, k6]; exact hTE k (by omega)) ⟨zb, zn, zl, wv_W_k hCN k7⟩ ?_
      rw [k2, k3]
      omega
    simp only [List.mem_cons, List.not_mem_nil, or_false] at hpc
    rcases hpc with rfl | rfl | rfl | rfl | rfl | rfl | rfl | rfl | rfl | rfl
    · refine w_law_fd (PD := fun t => (rf_BC t ∧ t.2.2 = s.2.2 ∧ t.1 66 1 = s.1 66 1 ∧ t.2.1 67 = s.2.1 67 ∧ wv_K zb zn zl s t) ∧ ((240 < s.1 0 1 + 20 ∧ t = s) ∨ (s.1 0 1 + 20 ≤ 240 ∧ dz_TP 1 0 (dz_FB (sx (i + 1).toNat).toInt (sx (i + 2).toNat).toInt (sx (i + 3).toNat).toInt (sx (i + 4).toNat).toInt (sx (i + 5).toNat).toInt) s 20 t))) (PM := fun t t2 => (rf_BC t2 ∧ t2.2.2 = t.2.2 ∧ t2.1 0 1 = t.1 0 1 ∧ t2.2.1 1 = t.2.1 1 ∧ wv_K zb zn zl t t2) ∧ ((240 < t.1 66 1 + 20 ∧ t2 = t) ∨ (t.1 66 1 + 20 ≤ 240 ∧ dz_TP 67 66 (dz_FB (sx (i + 1).toNat).toInt (sx (i + 2).toNat).toInt (sx (i + 3).toNat).toInt (sx (i + 4).toNat).toInt (sx (i + 5).toNat).toInt) t 20 t2))) hi hsL (fun a b c e f ea eb ec ee ef K' hK' => ?_) (fun t hd a b c e f ea eb ec ee ef K' hK' => ?_) (fun t t2 d1 d2 => ?_)
      · subst ea eb ec ee ef
        exact c_dz_feed hsL 2047 (by omega) _ _ _ _ _ s K' hB.1 (rf_i32 _) (rf_i32 _) (rf_i32 _) (rf_i32 _) (rf_i32 _) (fun q => hK' _ s ⟨⟨hB, rfl, rfl, rfl, wv_K_0 _⟩, Or.inl ⟨q, rfl⟩⟩) (fun q t c2 c3 => hK' _ t ⟨⟨rf_BC_desk (c3 trivial).1 c2 rfl hB, (c2 0).2, by rw [(c2.same 66 rfl).1], (c2.same 67 rfl).2, wv_K_d (c3 trivial).1 c2 ((c3 trivial).2.2.2.2 2 (by decide)) ((c3 trivial).2.2.2.2 3 (by decide))⟩, Or.inr ⟨q, c3⟩⟩)
      · subst ea eb ec ee ef
        exact c_q_feed hsL 2047 (by omega) _ _ _ _ _ t K' hd.1.1.1 (rf_i32 _) (rf_i32 _) (rf_i32 _) (rf_i32 _) (rf_i32 _) (fun q => hK' _ t ⟨⟨hd.1.1, rfl, rfl, rfl, wv_K_0 _⟩, Or.inl ⟨q, rfl⟩⟩) (fun q t2 c2 c4 c3 => hK' _ t2 ⟨⟨rf_BC_k (c3 trivial).1 (cx_F_step c2 rfl (cx_F_refl _ _)) c4 hd.1.1, (c2 0).2, by rw [(c2.same 0 rfl).1], (c2.same 1 rfl).2, wv_K_f (c3 trivial).1 c2 c4⟩, Or.inr ⟨q, c3⟩⟩)
      · obtain ⟨⟨_, e1, d3, d67, dk⟩, d4⟩ := d1
        obtain ⟨⟨b1, e2, d6, d11, dl⟩, d5⟩ := d2
        have hCN2 : wv_X t2 := ⟨zb, zn, zl, wv_W_k hCN (wv_K_t dl dk)⟩
        rcases d4 with ⟨f1, f2⟩ | ⟨f1, f2⟩
        · subst f2
          rcases d5 with ⟨g1, g2⟩ | ⟨g1, _⟩
          · subst g2
            refine fin0 t2 b1 hfe hTE hCN2 ?_
            omega
          · omega
        · rcases d5 with ⟨g1, _⟩ | ⟨g1, g2⟩
          · omega
          · obtain ⟨_, v1, v2, v3, _⟩ := f2 trivial
            obtain ⟨_, w1, w2, w3, _⟩ := g2 trivial
            have v1' : t.1 0 1 = s.1 0 1 + 20 := v1
            have w1' : t2.1 66 1 = t.1 66 1 + 20 := w1
            refine fin0 t2 b1 (by omega) (fun k hk => ?_) hCN2 ?_
            · rw [d11]
              by_cases q : (k : Int) < s.1 0 1
              · rw [v2 k q, w2 k (by omega), d67]
                exact hTE k (by omega)
              · obtain ⟨j, hj⟩ : ∃ j, k = (s.1 0 1).toNat + j := ⟨k - (s.1 0 1).toNat, by omega⟩
                have ek : (s.1 0 1).toNat = (t.1 66 1).toNat := by omega
                have a1 := v3 j (by omega)
                have a2 := w3 j (by omega)
                rw [← ek] at a2
                rw [hj, a1, a2]
            · rw [e2, e1]
              omega
    · refine w_law_load (PD := fun t => (((sx (i + 1).toNat).toInt < 0 ∨ s.1 0 1 < (sx (i + 1).toNat).toInt) ∧ t = s) ∨ ((0 ≤ (sx (i + 1).toNat).toInt ∧ (sx (i + 1).toNat).toInt ≤ s.1 0 1) ∧ (rf_BC t ∧ t.2.2 = s.2.2 ∧ t.1 66 1 = s.1 66 1 ∧ t.2.1 67 = s.2.1 67) ∧ t.1 0 1 = 0 ∧ ∃ z, px_an (s.2.1 1) (sx (i + 1).toNat).toInt z ∧ ((z = 0 ∧ t.1 0 2 = 1 ∧ t.1 0 3 = -1 ∧ ∃ l, px_TX (px_K (s.2.1 1) (sx (i + 1).toNat).toInt) l 0 ∧ dk_LD (s.2.1 1) (sx (i + 1).toNat).toInt l t) ∨ (z ≠ 0 ∧ t.1 0 2 = 0)))) (PM := fun t t2 => (rf_BC t2 ∧ ∀ p, p < 66 → t2.1 p = t.1 p ∧ t2.2.1 p = t.2.1 p) ∧ ((((sx (i + 1).toNat).toInt < 0 ∨ t.1 66 1 < (sx (i + 1).toNat).toInt) ∧ t2 = t) ∨ ((0 ≤ (sx (i + 1).toNat).toInt ∧ (sx (i + 1).toNat).toInt ≤ t.1 66 1) ∧ (t2.1 66 1 = 0 ∧ t2.1 66 78 = 0) ∧ (t2.2.2.2 : Int) ≤ (t.2.2.2 : Int) + 9 * (sx (i + 1).toNat).toInt ∧ ∃ z2, px_A5 (t.2.1 67) (sx (i + 1).toNat).toInt z2 (t2.1 66 37) (t2.1 66 42) (t2.1 66 45) (t2.1 66 47) ∧ (z2 = 0 → ∃ l, vk_LD (t.2.1 67) (sx (i + 1).toNat).toInt l (rf_l0 t2) ∧ wr_C (t.2.1 67) (sx (i + 1).toNat).toInt l t2)))) hi hsL (fun a ea ha K' hK' => ?_) (fun t hd a ea ha K' hK' => ?_) (fun t t2 d1 d2 => ?_)
      · subst ea
        exact c_DK_load hsL 2047 (by omega) _ s K' hB.1 ha (fun q => hK' _ s (Or.inl ⟨q, rfl⟩)) (fun q1 q2 z t c1 c2 c3 c4 c5 => hK' z t (Or.inr ⟨⟨q1, q2⟩, ⟨rf_BC_desk c1 c2 rfl hB, (c2 0).2, by rw [(c2.same 66 rfl).1], (c2.same 67 rfl).2⟩, c3, z, c4, c5⟩))
      · subst ea
        have hbc : rf_BC t ∧ t.2.2 = s.2.2 := by
          rcases hd with ⟨_, q⟩ | ⟨_, q, _⟩
          · subst q
            exact ⟨hB, rfl⟩
          · exact ⟨q.1, q.2.1⟩
        have hown : t.2.2.2 ≤ 490000 := by
          rw [hbc.2]
          omega
        refine c_x_load hsL 2047 (by omega) _ t K' hbc.1.1 ha hown (fun z2 t2 c1 c2 c3 ca cv => hK' z2 t2 ?_)
        rcases c3 with ⟨c4, c5⟩ | ⟨c4, c5, c6, c7, c8⟩
        · subst c5
          exact ⟨⟨hbc.1, fun _ _ => ⟨rfl, rfl⟩⟩, Or.inl ⟨c4, rfl⟩⟩
        · rcases ca with ⟨ca, _⟩ | ⟨_, ca⟩
          · omega
          · exact ⟨⟨⟨c1, c8, fun c => absurd c6 c⟩, c2⟩, Or.inr ⟨c4, ⟨c5, c6⟩, c7.2, z2, ca, cv c4⟩⟩
      · obtain ⟨⟨b1, bc⟩, d2⟩ := d2
        have k0 := (bc 0 (by omega)).1
        rcases d1 with ⟨q1, q3⟩ | ⟨q1, ⟨_, e1, q3, q67⟩, q5, z, q4, q6⟩
        · subst q3
          rcases d2 with ⟨_, g⟩ | ⟨g, _⟩
          · subst g
            refine fin0 t2 b1 hfe hTE hCN0 ?_
            omega
          · omega
        · rcases d2 with ⟨g, _⟩ | ⟨_, ⟨g1, g78⟩, g2, z2, g3, g4⟩
          · omega
          · rw [q67] at g3 g4
            have hby : ∀ k : Nat, (k : Int) < (sx (i + 1).toNat).toInt → s.2.1 67 k = s.2.1 1 k := fun k hk => (hTE k (by omega)).symm
            obtain ⟨an2, a0, a1⟩ := px_A5_an g3
            have ez : z2 = z := px_an_fun (px_an_cg hby q1.1 an2) q4
            have f01 : t2.1 0 1 = t.1 0 1 := by rw [k0]
            have f02 : t2.1 0 2 = t.1 0 2 := by rw [k0]
            have f03 : t2.1 0 3 = t.1 0 3 := by rw [k0]
            refine fin0 t2 b1 (by omega) (fun k hk => by omega) ?_ (by rw [e1] at g2; omega)
            rcases q6 with ⟨z0, h2, h3, l, h4, h5⟩ | ⟨z0, h2⟩
            · have h37 := a0 (by omega)
              obtain ⟨l2, v1, w1⟩ := g4 (by omega)
              have v2 := vk_LD_cg hby q1.1 v1
              have w2 := wr_C_cg hby w1
              have el : l2 = l := px_TX_fun (v2 trivial).1 h4
              subst el
              have h6 : dk_LD (s.2.1 1) (sx (i + 1).toNat).toInt l2 t2 := dk_LD_c (fun p _ h => bc p (by omega)) h5
              refine ⟨s.2.1 1, (sx (i + 1).toNat).toInt, l2, by omega, fun _ _ => ?_, fun _ => g78⟩
              exact ⟨⟨v2, w2⟩, dk_LD_tx b1.1 h6, Or.inl ⟨by omega, h6, g78⟩⟩
            · have h37 := a1 (by omega)
              exact ⟨fun _ => 0, 0, [], by omega, fun q => absurd (f02.trans h2) q, fun _ => g78⟩
    · exact w_law_174 (PD := fun _ t => rf_LK zb zn zl s t) (PM := fun t t2 => rf_LK zb zn zl t t2) hi hsL (fun a ha K' hK' => c_dtold hsL 2047 (by omega) a s K' hB.1 ha (fun z _ => hK' z s ⟨hB, rfl, rfl, rfl, rfl, rfl, wv_K_0 _⟩)) (fun z t hd a ha K' hK' => c_r_told hsL 2047 (by omega) a t K' hd.1.1 ha (fun z _ => hK' z t ⟨hd.1, rfl, rfl, rfl, rfl, rfl, wv_K_0 _⟩)) (fun z t t2 h1 h2 => fin t2 (rf_LK_t h2 h1))
    · exact w_law_197 (PD := fun _ t => rf_LK zb zn zl s t) (PM := fun t t2 => rf_LK zb zn zl t t2) hi hsL (fun a ha K' hK' => c_dcount hsL 2047 (by omega) a s K' hB.1 ha (fun z _ => hK' z s ⟨hB, rfl, rfl, rfl, rfl, rfl, wv_K_0 _⟩)) (fun z t hd a ha K' hK' => c_r_count hsL 2047 (by omega) a t K' hd.1.1 ha (fun z _ => hK' z t ⟨hd.1, rfl, rfl, rfl, rfl, rfl, wv_K_0 _⟩)) (fun z t t2 h1 h2 => fin t2 (rf_LK_t h2 h1))
    · by_cases h02 : s.1 0 2 = 0
      · refine w_law_220 (PD := fun _ t => t = s) (PM := fun t t2 => t2 = t) hi hsL (fun K' hK' => ?_) (fun z t hd K' hK' => ?_) (fun z t t2 d1 d2 => ?_)
        · exact c_k_solve hsL 2047 (by omega) (fun _ => 0) 0 [] s K' hB.1 (fun q => absurd h02 q) (fun z t h => hK' z t ((h trivial).2.2 (Or.inl h02)))
        · subst hd
          have t37 : t.1 66 37 = 0 := by
            rw [← hCN.1]
            exact h02
          refine c_x_solve (wb_L (fun _ => [])) (wb_K _ hsL) (wb_F _) hsL 2047 (by omega) (fun _ => 0) 0 [] (fun _ _ => True) (fun _ => []) [] t K' hB.1 (fun q => absurd t37 q) (fun q => absurd t37 q) (fun q => absurd t37 q) (fun z2 t2 h => hK' z2 t2 ?_)
          rcases h with ⟨_, h1, h2⟩ | ⟨q, _⟩
          · exact h2
          · exact absurd t37 q
        · subst d2
          subst d1
          exact fin _ ⟨hB, rfl, rfl, rfl, rfl, rfl, wv_K_0 _⟩
      · obtain ⟨⟨g1, gC⟩, ⟨TV, AR, tl, g2, gV⟩, g3⟩ := hCN.2.1 h02 trivial
        have h37 : s.1 66 37 ≠ 0 := by
          rw [← hCN.1]
          exact h02
        refine w_law_220 (PD := fun z t => dk_SO zb zn zl s z t ∧ ((t.1 0 3 = 0 ∧ vl_sat (px_SN zb zn) zl ∧ wk_D zb zn zl t) ∨ (t.1 0 3 = 1 ∧ ¬ vl_sat (px_SN zb zn) zl))) (PM := fun t t2 => ((rf_SO t t2 ∧ vk_LD zb zn zl (rf_l0 t2)) ∧ wr_C zb zn zl t) ∧ ((vl_sat (px_SN zb zn) zl ∧ wr_D zb zn zl t2 ∧ t2.1 66 78 = 1) ∨ (¬ vl_sat (px_SN zb zn) zl ∧ t2.1 66 78 = 0))) hi hsL (fun K' hK' => ?_) (fun z t hd K' hK' => ?_) (fun z t t2 d1 d2 => ?_)
        · refine c_k_solve hsL 2047 (by omega) zb zn zl s K' hB.1 (fun _ q => ?_) (fun z t h => hK' z t ⟨h, ?_⟩)
          · rcases g3 with ⟨_, q2, _⟩ | ⟨q2, _⟩ | ⟨q2, _⟩
            · exact q2
            · omega
            · omega
          · obtain ⟨hd1, hd2, hd3⟩ := h trivial
            obtain ⟨_, _, _, _, e1, e2⟩ := hd1 trivial
            by_cases q : s.1 0 3 = -1
            · obtain ⟨f1, f2⟩ := e2 h02 q
              rcases f2 with ⟨f2, f3⟩ | ⟨f2, f3⟩
              · exact Or.inl ⟨by omega, f3, hd2 h02 q f2⟩
              · exact Or.inr ⟨by omega, f3⟩
            · have et := hd3 (Or.inr q)
              rw [et]
              rcases g3 with ⟨q2, _⟩ | ⟨q2, q3, q4, _⟩ | ⟨q2, q3, _⟩
              · exact absurd q2 q
              · exact Or.inl ⟨q2, q3, q4⟩
              · exact Or.inr ⟨q2, q3⟩
        · obtain ⟨c1, c2, _⟩ := (hd.1 trivial).1 trivial
          have e66 := (c2.same 66 rfl).1
          have hBt : rf_BC t := rf_BC_desk c1 c2 rfl hB
          have big : ∀ p, 66 ≤ p → t.2.1 p = s.2.1 p := fun p hp => ((c2 p).1 (fun q hq => by
            simp only [List.mem_cons, List.not_mem_nil, or_false] at hq
            rcases hq with rfl | rfl | rfl <;> (dsimp only; omega))).2
          have gt : vk_LD zb zn zl (rf_l0 t) := vk_LD_s (by rw [e66]) (by rw [e66]) (by rw [e66]) (by rw [e66]) (by rw [e66]) (fun p h1 _ _ => big p (by omega)) (fun p j h1 _ _ => by rw [big p (by omega)]) (fun j _ => by rw [big 105 (by omega)]) g1
          have gCt : wr_C zb zn zl t := wr_C_c (fun p hp => big p (by omega)) (fun k _ => by rw [e66]) gC
          have hRn : ∀ u : sx_S, (∀ p, 68 ≤ p → p ≤ 99 → u.2.1 p = t.2.1 p) → u.1 66 3 = t.1 66 3 → u.1 66 42 = t.1 66 42 → we_Rn (wb_E (wy_nm zb zn (vl_kf zl []))) u := fun u a1 a2 a3 => (wb_L (wy_nm zb zn (vl_kf zl [])) trivial).2.2.2 t u a1 a2 a3 (wr_nm hBt.1 gCt)
          refine c_x_solve (wb_L (wy_nm zb zn (vl_kf zl []))) (wb_K _ hsL) (wb_F _) hsL 2047 (by omega) zb zn zl TV AR tl t K' hBt.1 (fun q => ⟨hBt.2.1 q, hRn⟩) (fun _ => ⟨gt, vs_tl_vl g2⟩) (fun _ => ⟨gCt, g2, gV⟩) (fun z2 t2 h => hK' z2 t2 ?_)
          have iff := vs_sat_vl g2
          rcases h with ⟨q, _⟩ | ⟨_, h1, h2⟩
          · rw [e66] at q
            exact absurd q h37
          · refine ⟨⟨h1, gCt⟩, ?_⟩
            rcases h2 with ⟨_, f2, f3, f5⟩ | ⟨_, f1, f2⟩
            · exact Or.inl ⟨iff.mp f2, fun _ => ⟨TV, AR, tl, f3⟩, f5⟩
            · exact Or.inr ⟨fun q => f2 (iff.mpr q), f1⟩
        · obtain ⟨h, d3⟩ := d1
          obtain ⟨⟨⟨hso, hvk⟩, gCt⟩, d4⟩ := d2
          obtain ⟨c1, c2, ⟨c3, c4⟩, _⟩ := (h trivial).1 trivial
          have e66 := (c2.same 66 rfl).1
          have hBt : rf_BC t := rf_BC_desk c1 c2 rfl hB
          have t37 : t.1 66 37 ≠ 0 := by
            rw [e66]
            exact h37
          have hB2 := rf_BC_SO hBt (Or.inr ⟨t37, hso⟩)
          obtain ⟨⟨_, p2, p3⟩, _⟩ := hso
          have k0 := (p2.same 0 rfl).1
          have gC2 : wr_C zb zn zl t2 := wr_C_F p2 (by decide) (fun k hk => by
            rcases hk with rfl | rfl | rfl | rfl <;> exact p3 _ rfl) gCt
          refine fin0 t2 hB2 (by rw [p3 1 rfl, k0, e66, c3]; exact hfe) (fun k hk => ?_) ⟨zb, zn, zl, ?_, fun _ _ => ⟨⟨hvk, gC2⟩, ⟨TV, AR, tl, g2, gV⟩, Or.inr ?_⟩, fun q => ?_⟩ ?_
          · rw [(p2.same 1 rfl).2, (p2.same 67 rfl).2, (c2.same 1 rfl).2, (c2.same 67 rfl).2]
            exact hTE k (by rw [p3 1 rfl, e66] at hk; exact hk)
          · rw [k0, c4, p3 37 rfl, e66]
            exact hCN.1
          · rw [k0]
            rcases d3 with ⟨f1, f2, f3⟩ | ⟨f1, f2⟩ <;> rcases d4 with ⟨f4, f5, f6⟩ | ⟨f4, f5⟩
            · exact Or.inl ⟨f1, f2, wk_D_F hB2.1 p2 rfl f3, by omega, f5⟩
            · exact absurd f2 f4
            · exact absurd f4 f2
            · exact Or.inr ⟨f1, f2, f5⟩
          · exfalso
            rw [k0, c4] at q
            exact h02 q
          · rw [(p2 0).2, (c2 0).2, p3 1 rfl, e66]
            omega
    · exact w_law_233 (PD := fun _ t => rf_LK zb zn zl s t) (PM := fun t t2 => rf_LK zb zn zl t t2) hi hsL (fun K' hK' => c_dfresh hsL 2047 (by omega) s K' hB.1 (fun z _ => hK' z s ⟨hB, rfl, rfl, rfl, rfl, rfl, wv_K_0 _⟩)) (fun z t hd K' hK' => c_r_fresh hsL 2047 (by omega) t K' hd.1.1 (fun z _ => hK' z t ⟨hd.1, rfl, rfl, rfl, rfl, rfl, wv_K_0 _⟩)) (fun z t t2 h1 h2 => fin t2 (rf_LK_t h2 h1))
    · exact w_law_246 (PD := fun _ t => rf_LK zb zn zl s t) (PM := fun t t2 => rf_LK zb zn zl t t2) hi hsL (fun a ha K' hK' => c_K_size hsL 2047 (by omega) a s K' hB.1 ha hWk (fun z t c1 c2 c3 _ => hK' z t (rf_law_d c1 c2 c3 hB))) (fun z t hd a ha K' hK' => c_X_size0 hsL 2047 (by omega) a t K' hd.1.1 ha (wv_W_r (wv_W_k hCN hd.2.2.2.2.2.2)) (fun z t2 h2 h3 => hK' z t2 (rf_law_p hd.1 h2 h3))) (fun z t t2 h1 h2 => fin t2 (rf_LK_t h2 h1))
    · exact w_law_269 (PD := fun _ t => rf_LK zb zn zl s t) (PM := fun t t2 => rf_LK zb zn zl t t2) hi hsL (fun a b ha hb K' hK' => c_K_letter hsL 2047 (by omega) a b s K' hB.1 ha hb hWk (fun z t c1 c2 c3 _ _ => hK' z t (rf_law_d c1 c2 c3 hB))) (fun z t hd a b ha hb K' hK' => c_X_letter0 hsL 2047 (by omega) a b t K' hd.1.1 ha hb (wv_W_r (wv_W_k hCN hd.2.2.2.2.2.2)) (fun z t2 h2 h3 => hK' z t2 (rf_law_p hd.1 h2 h3))) (fun z t t2 h1 h2 => fin t2 (rf_LK_t h2 h1))
    · exact w_law_302 (PD := fun _ t => rf_LK zb zn zl s t) (PM := fun t t2 => rf_LK zb zn zl t t2) hi hsL (fun a b ha hb K' hK' => c_K_side hsL 2047 (by omega) a b s K' hB.1 ha hb hWk (fun z t c1 c2 c3 _ => hK' z t (rf_law_d c1 c2 c3 hB))) (fun z t hd a b ha hb K' hK' => c_X_side0 hsL 2047 (by omega) a b t K' hd.1.1 ha hb (wv_W_r (wv_W_k hCN hd.2.2.2.2.2.2)) (fun z t2 h2 h3 => hK' z t2 (rf_law_p hd.1 h2 h3))) (fun z t t2 h1 h2 => fin t2 (rf_LK_t h2 h1))
    · refine w_law_sl (PD := fun z t => (rf_LK zb zn zl s t ∧ (-2147483648 ≤ z ∧ z ≤ 2147483647)) ∧ (((s.1 0 2 ≠ 0 ∧ s.1 0 3 = 0 ∧ (0 ≤ (sx (i + 1).toNat).toInt ∧ (sx (i + 1).toNat).toInt < s.1 18 10) ∧ 0 ≤ (sx (i + 2).toNat).toInt ∧ (sx (i + 2).toNat).toInt ≤ 1) ∧ ∃ o, wy_Os zb zn zl (sx (i + 1).toNat).toInt (sx (i + 2).toNat).toInt o ∧ z = wy_by o (sx (i + 3).toNat).toInt) ∨ (¬ (s.1 0 2 ≠ 0 ∧ s.1 0 3 = 0 ∧ (0 ≤ (sx (i + 1).toNat).toInt ∧ (sx (i + 1).toNat).toInt < s.1 18 10) ∧ 0 ≤ (sx (i + 2).toNat).toInt ∧ (sx (i + 2).toNat).toInt ≤ 1) ∧ z = -1))) (PM := fun _ t z2 t2 => rf_LK zb zn zl t t2 ∧ (((t.1 66 78 ≠ 0 ∧ (0 ≤ (sx (i + 1).toNat).toInt ∧ (sx (i + 1).toNat).toInt < t.1 66 47) ∧ 0 ≤ (sx (i + 2).toNat).toInt ∧ (sx (i + 2).toNat).toInt ≤ 1) ∧ ∃ o, wy_Os zb zn zl (sx (i + 1).toNat).toInt (sx (i + 2).toNat).toInt o ∧ z2 = wy_by o (sx (i + 3).toNat).toInt) ∨ (¬ (t.1 66 78 ≠ 0 ∧ (0 ≤ (sx (i + 1).toNat).toInt ∧ (sx (i + 1).toNat).toInt < t.1 66 47) ∧ 0 ≤ (sx (i + 2).toNat).toInt ∧ (sx (i + 2).toNat).toInt ≤ 1) ∧ z2 = -1))) hi hsL (fun a b c ea eb ec ha hb hc K' hK' => ?_) (fun z t hd a b c ea eb ec ha hb hc K' hK' => ?_) (fun z t z2 t2 d1 d2 => ?_) (fun z t z2 t2 d1 d2 => fin t2 (rf_LK_t d2.1 d1.1.1))
      · subst ea eb ec
        exact c_K_sideLetter hsL 2047 (by omega) _ _ _ s K' hB.1 ha hb hc hWk (fun z t c1 c2 c3 c5 c4 => hK' z t ⟨⟨rf_law_d c1 c2 c3 hB, c5⟩, c4⟩)
      · subst ea eb ec
        exact c_X_sideLetter hsL 2047 (by omega) _ _ _ t K' hd.1.1.1.1 ha hb hc (wv_W_r (wv_W_k hCN hd.1.1.2.2.2.2.2.2)) (fun z2 t2 _ h2 h3 h4 => hK' z2 t2 ⟨rf_law_p hd.1.1.1 h2 h3, h4⟩)
      · obtain ⟨⟨k1, r1⟩, d1⟩ := d1
        refine ⟨?_, r1⟩
        have e := wv_W_e hCN
        have e78 := (k1.2.2.2.2.2.2 trivial).2.1
        have e45 : t.1 66 78 ≠ 0 → t.1 66 47 = s.1 66 47 := fun q => by
          have q' : s.1 66 78 ≠ 0 := by
            rw [← e78]
            exact q
          rw [wr_D_47 (wv_W_r hCN q'), wr_D_47 (wv_W_r (wv_W_k hCN k1.2.2.2.2.2.2) q)]
        rcases d1 with ⟨c1, o, o1, o2⟩ | ⟨c1, c2⟩
        · rcases d2.2 with ⟨c3, o', o3, o4⟩ | ⟨c3, c4⟩
          · rw [o2, o4, wy_Os_fun o1 o3]
          · exfalso
            have e45' : t.1 66 47 = s.1 66 47 := e45 (by clear e45; omega)
            clear e45
            omega
        · rcases d2.2 with ⟨c3, o', o3, o4⟩ | ⟨c3, c4⟩
          · exfalso
            have e45' : t.1 66 47 = s.1 66 47 := e45 c3.1
            clear e45
            omega
          · omega
  · refine w_law_378 (by omega) (fun y hy => ⟨ms - 16, by omega, y, rfl, by omega, ⟨hB, hfe, hTE, hCN0⟩, Or.inl ⟨rfl, by omega, by omega⟩⟩)
end
