section
/-! ===== the reference: lambda, hasParts, write, piece by piece ===== -/
theorem w_lambdaC {CALL : sx_Ca} {sL : Nat} {sx : Nat → Int32} {Q : Nat → sx_L → sx_S → Prop} {R : Int → sx_S → Prop} {s : sx_S} {a0 a1 : Int} {P1 : sx_S → Prop} {P2 P3 : sx_S → sx_S → Prop} (hI : cx_I s) (p0 : 0 ≤ a0 ∧ a0 ≤ 399999) (p1 : -2147483648 ≤ a1 ∧ a1 ≤ 2147483647) (h1 : ∀ K : Int → sx_S → Prop, (∀ z t, P1 t → K z t) → CALL 203 [.inr (.inl 66), .inl 92] (s.1, sx_ua s.2.1 107 a0.toNat a1, s.2.2) K) (h2 : ∀ t, P1 t → ∀ K : Int → sx_S → Prop, (∀ z t2, P2 t t2 → K z t2) → CALL 204 [.inr (.inl 66), .inl 120, .inl a1] t K) (h3 : ∀ t t2, P1 t → P2 t t2 → ∀ K : Int → sx_S → Prop, (∀ z t3, P3 t2 t3 → K z t3) → CALL 203 [.inr (.inl 66), .inl 46] t2 K) (hK : ∀ t t2 t3, P1 t → P2 t t2 → P3 t2 t3 → R 0 t3) : sx_wp true sL sx eX12_lambda CALL [] Q R 400 0 (sx_argsF 0 [.inr (.inl 66), .inl a0, .inl a1]) [] s := by
  repeat' (first | (with_reducible intro _) | (refine And.intro ?_ ?_) | (refine hK _ _ _ (by assumption) (by assumption) (by assumption)) | (refine h3 _ _ (by assumption) (by assumption) _ ?_) | (refine h2 _ (by assumption) _ ?_) | (refine h1 _ ?_))
  all_goals (try dsimp only)
  all_goals (first | trivial | assumption | omega | (dsimp only at *; omega) | (simp only [sx_w_t] at *; omega) | (subst_vars; omega) | (subst_vars; assumption) | (subst_vars; dsimp only at *; omega) | (subst_vars; dsimp only at *; simp only [sx_w_t] at *; omega) | skip)

theorem w_hasParts {CALL : sx_Ca} {sL : Nat} {sx : Nat → Int32} {Q : Nat → sx_L → sx_S → Prop} {R : Int → sx_S → Prop} {s : sx_S} {a0 a1 : Int} (hQ : Q 2 [(0, .inr (.inl 66)), (3, .inl a0)] s) : sx_wp true sL sx eX12_hasParts CALL [(2, [0, 3])] Q R 400 0 (sx_argsF 0 [.inr (.inl 66), .inl a0, .inl a1]) [] s := by
  exact hQ
theorem w_write_63 {CALL : sx_Ca} {sL : Nat} {sx : Nat → Int32} {Q : Nat → sx_L → sx_S → Prop} {R : Int → sx_S → Prop} {s : sx_S} {x4 x5 dp : Int} {PE : Int → Int → sx_S → Prop} (hI : cx_I s) (p4 : 0 ≤ x4 ∧ x4 ≤ 59999) (hr : 0 ≤ s.2.1 101 x4.toNat ∧ s.2.1 101 x4.toNat ≤ 2999) (hE : ∀ x : Int, x = s.2.1 101 x4.toNat → ∀ K : Int → sx_S → Prop, (∀ z t, PE x z t → K z t) → CALL 188 [.inr (.inl 66), .inl x4, .inl x5] (s.1, sx_ua s.2.1 119 x.toNat 1, s.2.2) K) (hEI : ∀ x z t, PE x z t → cx_I t ∧ t.2.1 101 = s.2.1 101) (hQ : ∀ x : Int, x = s.2.1 101 x4.toNat → ∀ z t, PE x z t → ∀ u : Int, u = t.2.1 113 (s.2.1 101 x4.toNat).toNat → Q 14 [(0, .inr (.inl 66)), (3, .inl dp), (4, .inl u), (5, .inl z)] t) : sx_wp true sL sx eX12_write CALL [(14, [0, 3, 4, 5]), (63, [0, 3, 4, 5]), (103, [0, 3, 4, 5]), (131, [0, 3, 4, 5, 6]), (138, [0, 3, 4, 5, 6]), (168, [0, 3, 4, 5]), (189, [0, 3, 4, 5]), (243, [0, 3, 4, 5]), (252, [0, 3, 5, 6]), (264, [0, 3, 5, 6]), (274, [0, 3, 5, 6, 7]), (285, [0, 3, 5, 6, 7]), (318, [0, 3, 5, 6, 7]), (329, [0, 3, 5, 6])] Q R 400 63 [(0, .inr (.inl 66)), (3, .inl dp), (4, .inl x4), (5, .inl x5)] [] s := by
  repeat' (first | (with_reducible intro _) | (refine And.intro ?_ ?_) | (refine hQ _ ?_ _ _ (by assumption) _ ?_) | (refine hE _ ?_ _ ?_))
  all_goals (try dsimp only)
  all_goals (first | trivial | assumption | omega | (dsimp only at *; omega) | (exact (hEI _ _ _ (by assumption)).1) | (have hei := hEI _ _ _ (by assumption); subst_vars; dsimp only at *; rw [hei.2] at *; first | omega | assumption | rfl) | (have hei := hEI _ _ _ (by assumption); dsimp only at *; rw [hei.2] at *; omega) | (have hei := hEI _ _ _ (by assumption); subst_vars; dsimp only at *; rw [hei.2]) | (subst_vars; rfl) | (subst_vars; first | assumption | omega) | skip)
theorem w_write_103 {CALL : sx_Ca} {sL : Nat} {sx : Nat → Int32} {Q : Nat → sx_L → sx_S → Prop} {R : Int → sx_S → Prop} {s : sx_S} {x4 x5 dp : Int} {PV : Int → sx_S → Prop} (hI : cx_I s) (p4 : 0 ≤ x4 ∧ x4 ≤ 59999) (hr : s.2.1 100 x4.toNat = 0 → 0 ≤ s.2.1 101 x4.toNat ∧ s.2.1 101 x4.toNat ≤ 399999) (hV : s.2.1 100 x4.toNat = 0 → ∀ u : Int, u = s.2.1 106 (s.2.1 101 x4.toNat).toNat → ∀ K : Int → sx_S → Prop, (∀ z t, PV z t → K z t) → CALL 167 [.inr (.inl 66), .inl u] s K) (hQ1 : s.2.1 100 x4.toNat = 0 → ∀ z t, PV z t → Q 131 [(0, .inr (.inl 66)), (3, .inl dp), (4, .inl x4), (5, .inl x5), (6, .inl z)] t) (hQ2 : s.2.1 100 x4.toNat ≠ 0 → Q 168 [(0, .inr (.inl 66)), (3, .inl dp), (4, .inl x4), (5, .inl x5)] s) : sx_wp true sL sx eX12_write CALL [(14, [0, 3, 4, 5]), (63, [0, 3, 4, 5]), (103, [0, 3, 4, 5]), (131, [0, 3, 4, 5, 6]), (138, [0, 3, 4, 5, 6]), (168, [0, 3, 4, 5]), (189, [0, 3, 4, 5]), (243, [0, 3, 4, 5]), (252, [0, 3, 5, 6]), (264, [0, 3, 5, 6]), (274, [0, 3, 5, 6, 7]), (285, [0, 3, 5, 6, 7]), (318, [0, 3, 5, 6, 7]), (329, [0, 3, 5, 6])] Q R 400 103 [(0, .inr (.inl 66)), (3, .inl dp), (4, .inl x4), (5, .inl x5)] [] s := by
  repeat' (first | (with_reducible intro _) | (refine And.intro ?_ ?_) | (refine hQ1 ?_ _ _ (by assumption)) | (refine hQ2 ?_) | (refine hV ?_ _ ?_ _ ?_))
  all_goals (try dsimp only)
  all_goals (first | trivial | assumption | omega | (dsimp only at *; omega) | (subst_vars; rfl) | (subst_vars; first | assumption | omega) | skip)
theorem w_write_131 {CALL : sx_Ca} {sL : Nat} {sx : Nat → Int32} {Q : Nat → sx_L → sx_S → Prop} {R : Int → sx_S → Prop} {s : sx_S} {x4 x5 x6 dp : Int} {PL : sx_S → Prop} (hL : ∀ K : Int → sx_S → Prop, (∀ z t, PL t → K z t) → CALL 206 [.inr (.inl 66), .inl x6, .inl dp] s K) (hQ : ∀ t, PL t → Q 138 [(0, .inr (.inl 66)), (3, .inl dp), (4, .inl x4), (5, .inl x5), (6, .inl x6)] t) : sx_wp true sL sx eX12_write CALL [(14, [0, 3, 4, 5]), (63, [0, 3, 4, 5]), (103, [0, 3, 4, 5]), (131, [0, 3, 4, 5, 6]), (138, [0, 3, 4, 5, 6]), (168, [0, 3, 4, 5]), (189, [0, 3, 4, 5]), (243, [0, 3, 4, 5]), (252, [0, 3, 5, 6]), (264, [0, 3, 5, 6]), (274, [0, 3, 5, 6, 7]), (285, [0, 3, 5, 6, 7]), (318, [0, 3, 5, 6, 7]), (329, [0, 3, 5, 6])] Q R 400 131 [(0, .inr (.inl 66)), (3, .inl dp), (4, .inl x4), (5, .inl x5), (6, .inl x6)] [] s := by
  repeat' (first | (with_reducible intro _) | (refine And.intro ?_ ?_) | (refine hQ _ (by assumption)) | (refine hL _ ?_))
  all_goals (try dsimp only)
  all_goals (first | trivial | assumption | omega | (dsimp only at *; omega) | (simp only [sx_w_t] at *; omega) | (subst_vars; omega) | (subst_vars; assumption) | (subst_vars; dsimp only at *; omega) | (subst_vars; dsimp only at *; simp only [sx_w_t] at *; omega) | skip)
theorem w_write_138 {CALL : sx_Ca} {sL : Nat} {sx : Nat → Int32} {Q : Nat → sx_L → sx_S → Prop} {R : Int → sx_S → Prop} {s : sx_S} {x4 x5 x6 dp : Int} {PN : Int → sx_S → Prop} {PW : sx_S → Prop} (hI : cx_I s) (p4 : 0 ≤ x4 ∧ x4 ≤ 59999) (hdp : 0 ≤ dp ∧ dp ≤ 1000000) (hN : ∀ u : Int, u = s.2.1 101 x4.toNat → ∀ K : Int → sx_S → Prop, (∀ z t, PN z t → K z t) → CALL 184 [.inr (.inl 66), .inl u, .inl x6, .inl x5] s K) (hW : ∀ z t, PN z t → ∀ u v : Int, u = s.2.1 102 x4.toNat → v = dp + 1 → ∀ K : Int → sx_S → Prop, (∀ z t, PW t → K z t) → CALL 209 [.inr (.inl 66), .inl u, .inl z, .inl v] t K) (hK : ∀ t, PW t → R 0 t) : sx_wp true sL sx eX12_write CALL [(14, [0, 3, 4, 5]), (63, [0, 3, 4, 5]), (103, [0, 3, 4, 5]), (131, [0, 3, 4, 5, 6]), (138, [0, 3, 4, 5, 6]), (168, [0, 3, 4, 5]), (189, [0, 3, 4, 5]), (243, [0, 3, 4, 5]), (252, [0, 3, 5, 6]), (264, [0, 3, 5, 6]), (274, [0, 3, 5, 6, 7]), (285, [0, 3, 5, 6, 7]), (318, [0, 3, 5, 6, 7]), (329, [0, 3, 5, 6])] Q R 400 138 [(0, .inr (.inl 66)), (3, .inl dp), (4, .inl x4), (5, .inl x5), (6, .inl x6)] [] s := by
  repeat' (first | (with_reducible intro _) | (refine And.intro ?_ ?_) | (refine hK _ (by assumption)) | (refine hW _ _ (by assumption) _ _ ?_ ?_ _ ?_) | (refine hN _ ?_ _ ?_))
  all_goals (try dsimp only)
  all_goals (first | trivial | assumption | omega | (dsimp only at *; omega) | (simp only [sx_w_t] at *; omega) | (subst_vars; omega) | (subst_vars; assumption) | (subst_vars; dsimp only at *; omega) | (subst_vars; dsimp only at *; simp only [sx_w_t] at *; omega) | skip)
theorem w_write_168 {CALL : sx_Ca} {sL : Nat} {sx : Nat → Int32} {Q : Nat → sx_L → sx_S → Prop} {R : Int → sx_S → Prop} {s : sx_S} {x4 x5 dp : Int} {PW : sx_S → Prop} (hI : cx_I s) (p4 : 0 ≤ x4 ∧ x4 ≤ 59999) (hW : s.2.1 100 x4.toNat = 3 → ∀ K : Int → sx_S → Prop, (∀ z t, PW t → K z t) → CALL 211 [.inr (.inl 66), .inl x4, .inl x5, .inl dp] s K) (hK : ∀ t, PW t → R 0 t) (hQ : s.2.1 100 x4.toNat ≠ 3 → Q 189 [(0, .inr (.inl 66)), (3, .inl dp), (4, .inl x4), (5, .inl x5)] s) : sx_wp true sL sx eX12_write CALL [(14, [0, 3, 4, 5]), (63, [0, 3, 4, 5]), (103, [0, 3, 4, 5]), (131, [0, 3, 4, 5, 6]), (138, [0, 3, 4, 5, 6]), (168, [0, 3, 4, 5]), (189, [0, 3, 4, 5]), (243, [0, 3, 4, 5]), (252, [0, 3, 5, 6]), (264, [0, 3, 5, 6]), (274, [0, 3, 5, 6, 7]), (285, [0, 3, 5, 6, 7]), (318, [0, 3, 5, 6, 7]), (329, [0, 3, 5, 6])] Q R 400 168 [(0, .inr (.inl 66)), (3, .inl dp), (4, .inl x4), (5, .inl x5)] [] s := by
  repeat' (first | (with_reducible intro _) | (refine And.intro ?_ ?_) | (refine hK _ (by assumption)) | (refine hQ ?_) | (refine hW ?_ _ ?_))
  all_goals (try dsimp only)
  all_goals (first | trivial | assumption | omega | (dsimp only at *; omega) | (simp only [sx_w_t] at *; omega) | (subst_vars; omega) | (subst_vars; assumption) | (subst_vars; dsimp only at *; omega) | (subst_vars; dsimp only at *; simp only [sx_w_t] at *; omega) | skip)
theorem w_write_243 {CALL : sx_Ca} {sL : Nat} {sx : Nat → Int32} {Q : Nat → sx_L → sx_S → Prop} {R : Int → sx_S → Prop} {s : sx_S} {x4 x5 dp : Int} (hI : cx_I s) (p4 : 0 ≤ x4 ∧ x4 ≤ 59999) (hQ : ∀ u : Int, u = s.2.1 102 x4.toNat → Q 252 [(0, .inr (.inl 66)), (3, .inl dp), (5, .inl x5), (6, .inl u)] s) : sx_wp true sL sx eX12_write CALL [(14, [0, 3, 4, 5]), (63, [0, 3, 4, 5]), (103, [0, 3, 4, 5]), (131, [0, 3, 4, 5, 6]), (138, [0, 3, 4, 5, 6]), (168, [0, 3, 4, 5]), (189, [0, 3, 4, 5]), (243, [0, 3, 4, 5]), (252, [0, 3, 5, 6]), (264, [0, 3, 5, 6]), (274, [0, 3, 5, 6, 7]), (285, [0, 3, 5, 6, 7]), (318, [0, 3, 5, 6, 7]), (329, [0, 3, 5, 6])] Q R 400 243 [(0, .inr (.inl 66)), (3, .inl dp), (4, .inl x4), (5, .inl x5)] [] s := by
  repeat' (first | (with_reducible intro _) | (refine And.intro ?_ ?_) | (refine hQ _ ?_))
  all_goals (try dsimp only)
  all_goals (first | trivial | assumption | omega | (dsimp only at *; omega) | (simp only [sx_w_t] at *; omega) | (subst_vars; omega) | (subst_vars; assumption) | (subst_vars; dsimp only at *; omega) | (subst_vars; dsimp only at *; simp only [sx_w_t] at *; omega) | skip)
theorem w_write_252 {CALL : sx_Ca} {sL : Nat} {sx : Nat → Int32} {Q : Nat → sx_L → sx_S → Prop} {R : Int → sx_S → Prop} {s : sx_S} {x5 x6 dp : Int} {PW : sx_S → Prop} (p6 : -1 ≤ x6 ∧ x6 ≤ 59999) (hK : x6 = -1 → R 0 s) (hP : x6 ≠ -1 → ∀ K : Int → sx_S → Prop, (∀ z t, PW t → K z t) → CALL 203 [.inr (.inl 66), .inl 32] s K) (hQ : x6 ≠ -1 → ∀ t, PW t → Q 264 [(0, .inr (.inl 66)), (3, .inl dp), (5, .inl x5), (6, .inl x6)] t) : sx_wp true sL sx eX12_write CALL [(14, [0, 3, 4, 5]), (63, [0, 3, 4, 5]), (103, [0, 3, 4, 5]), (131, [0, 3, 4, 5, 6]), (138, [0, 3, 4, 5, 6]), (168, [0, 3, 4, 5]), (189, [0, 3, 4, 5]), (243, [0, 3, 4, 5]), (252, [0, 3, 5, 6]), (264, [0, 3, 5, 6]), (274, [0, 3, 5, 6, 7]), (285, [0, 3, 5, 6, 7]), (318, [0, 3, 5, 6, 7]), (329, [0, 3, 5, 6])] Q R 400 252 [(0, .inr (.inl 66)), (3, .inl dp), (5, .inl x5), (6, .inl x6)] [] s := by
  repeat' (first | (with_reducible intro _) | (refine And.intro ?_ ?_) | (refine hK ?_) | (refine hQ ?_ _ (by assumption)) | (refine hP ?_ _ ?_))
  all_goals (try dsimp only)
  all_goals (first | trivial | assumption | omega | (dsimp only at *; omega) | (simp only [sx_w_t] at *; omega) | (subst_vars; omega) | (subst_vars; assumption) | (subst_vars; dsimp only at *; omega) | (subst_vars; dsimp only at *; simp only [sx_w_t] at *; omega) | skip)
theorem w_write_285 {CALL : sx_Ca} {sL : Nat} {sx : Nat → Int32} {Q : Nat → sx_L → sx_S → Prop} {R : Int → sx_S → Prop} {s : sx_S} {x5 x6 x7 dp : Int} {PW : sx_S → Prop} (hI : cx_I s) (hW : ∀ K : Int → sx_S → Prop, (∀ z t, PW t → K z t) → CALL 209 [.inr (.inl 66), .inl x6, .inl x5, .inl dp] s K) (hQ : ∀ t, PW t → ∀ a b : Int, a = s.1 66 71 → b = s.1 66 58 → Q 318 [(0, .inr (.inl 66)), (3, .inl dp), (5, .inl x5), (6, .inl x6), (7, .inl x7)] (sx_uf (sx_uf t.1 66 71 a) 66 58 b, t.2)) : sx_wp true sL sx eX12_write CALL [(14, [0, 3, 4, 5]), (63, [0, 3, 4, 5]), (103, [0, 3, 4, 5]), (131, [0, 3, 4, 5, 6]), (138, [0, 3, 4, 5, 6]), (168, [0, 3, 4, 5]), (189, [0, 3, 4, 5]), (243, [0, 3, 4, 5]), (252, [0, 3, 5, 6]), (264, [0, 3, 5, 6]), (274, [0, 3, 5, 6, 7]), (285, [0, 3, 5, 6, 7]), (318, [0, 3, 5, 6, 7]), (329, [0, 3, 5, 6])] Q R 400 285 [(0, .inr (.inl 66)), (3, .inl dp), (5, .inl x5), (6, .inl x6), (7, .inl x7)] [] s := by
  repeat' (first | (with_reducible intro _) | (refine And.intro ?_ ?_) | (refine hQ _ (by assumption) _ _ ?_ ?_) | (refine hW _ ?_))
  all_goals (try dsimp only)
  all_goals (first | trivial | assumption | omega | (dsimp only at *; omega) | (simp only [sx_w_t] at *; omega) | (subst_vars; omega) | (subst_vars; assumption) | (subst_vars; dsimp only at *; omega) | (subst_vars; dsimp only at *; simp only [sx_w_t] at *; omega) | skip)
theorem w_write_329 {CALL : sx_Ca} {sL : Nat} {sx : Nat → Int32} {Q : Nat → sx_L → sx_S → Prop} {R : Int → sx_S → Prop} {s : sx_S} {x5 x6 dp : Int} (hI : cx_I s) (p6 : 0 ≤ x6 ∧ x6 ≤ 59999) (hQ : ∀ u : Int, u = s.2.1 103 x6.toNat → Q 252 [(0, .inr (.inl 66)), (3, .inl dp), (5, .inl x5), (6, .inl u)] s) : sx_wp true sL sx eX12_write CALL [(14, [0, 3, 4, 5]), (63, [0, 3, 4, 5]), (103, [0, 3, 4, 5]), (131, [0, 3, 4, 5, 6]), (138, [0, 3, 4, 5, 6]), (168, [0, 3, 4, 5]), (189, [0, 3, 4, 5]), (243, [0, 3, 4, 5]), (252, [0, 3, 5, 6]), (264, [0, 3, 5, 6]), (274, [0, 3, 5, 6, 7]), (285, [0, 3, 5, 6, 7]), (318, [0, 3, 5, 6, 7]), (329, [0, 3, 5, 6])] Q R 400 329 [(0, .inr (.inl 66)), (3, .inl dp), (5, .inl x5), (6, .inl x6)] [] s := by
  repeat' (first | (with_reducible intro _) | (refine And.intro ?_ ?_) | (refine hQ _ ?_))
  all_goals (try dsimp only)
  all_goals (first | trivial | assumption | omega | (dsimp only at *; omega) | (simp only [sx_w_t] at *; omega) | (subst_vars; omega) | (subst_vars; assumption) | (subst_vars; dsimp only at *; omega) | (subst_vars; dsimp only at *; simp only [sx_w_t] at *; omega) | skip)
end
section
/-! ===== the reference: writeFresh, writeVar, piece by piece ===== -/
theorem w_fresh {CALL : sx_Ca} {sL : Nat} {sx : Nat → Int32} {Q : Nat → sx_L → sx_S → Prop} {R : Int → sx_S → Prop} {s : sx_S} {a0 a1 a2 : Int} (hI : cx_I s) (p0 : 0 ≤ a0 ∧ a0 ≤ 59999) (hr : 0 ≤ s.2.1 101 a0.toNat ∧ s.2.1 101 a0.toNat ≤ 2999) (hQ1 : ∀ m : Int, m = s.2.1 101 a0.toNat → s.2.1 118 m.toNat = -1 → Q 19 [(0, .inr (.inl 66)), (1, .inl a0), (2, .inl a1), (3, .inl a2), (4, .inl m)] s) (hQ2 : ∀ m : Int, m = s.2.1 101 a0.toNat → s.2.1 118 m.toNat ≠ -1 → Q 165 [(0, .inr (.inl 66)), (1, .inl a0), (2, .inl a1), (3, .inl a2), (4, .inl m)] s) : sx_wp true sL sx eX12_writeFresh CALL [(19, [0, 1, 2, 3, 4]), (54, [0, 1, 2, 3, 4, 5]), (72, [0, 1, 2, 3, 4, 5, 6, 7]), (149, [0, 1, 2, 3, 4]), (165, [0, 1, 2, 3, 4]), (178, [0, 1, 2, 3, 4]), (181, [0, 1, 2, 3, 4, 5]), (199, [0, 1, 2, 3, 4, 5])] Q R 400 0 (sx_argsF 0 [.inr (.inl 66), .inl a0, .inl a1, .inl a2]) [] s := by
  repeat' (first | (with_reducible intro _) | (refine And.intro ?_ ?_) | (refine hQ1 _ ?_ ?_) | (refine hQ2 _ ?_ ?_))
  all_goals (try dsimp only)
  all_goals (first | trivial | assumption | omega | (dsimp only at *; omega) | (simp only [sx_w_t] at *; omega) | (subst_vars; omega) | (subst_vars; assumption) | (subst_vars; dsimp only at *; omega) | (subst_vars; dsimp only at *; simp only [sx_w_t] at *; omega) | skip)
theorem w_fresh_19 {CALL : sx_Ca} {sL : Nat} {sx : Nat → Int32} {Q : Nat → sx_L → sx_S → Prop} {R : Int → sx_S → Prop} {s : sx_S} {a0 a1 a2 x4 : Int} (hI : cx_I s) (p4 : 0 ≤ x4 ∧ x4 ≤ 2999) (h79 : 0 ≤ s.1 66 79 ∧ s.1 66 79 ≤ 100000) (hQ : ∀ f w v : Int, f = s.1 66 79 → w = s.1 66 79 + 1 → v = s.1 66 83 → Q 54 [(0, .inr (.inl 66)), (1, .inl a0), (2, .inl a1), (3, .inl a2), (4, .inl x4), (5, .inl 0)] (sx_uf s.1 66 79 w, sx_ua (sx_ua s.2.1 118 x4.toNat f) 120 x4.toNat v, s.2.2)) : sx_wp true sL sx eX12_writeFresh CALL [(19, [0, 1, 2, 3, 4]), (54, [0, 1, 2, 3, 4, 5]), (72, [0, 1, 2, 3, 4, 5, 6, 7]), (149, [0, 1, 2, 3, 4]), (165, [0, 1, 2, 3, 4]), (178, [0, 1, 2, 3, 4]), (181, [0, 1, 2, 3, 4, 5]), (199, [0, 1, 2, 3, 4, 5])] Q R 400 19 [(0, .inr (.inl 66)), (1, .inl a0), (2, .inl a1), (3, .inl a2), (4, .inl x4)] [] s := by
  repeat' (first | (with_reducible intro _) | (refine And.intro ?_ ?_) | (refine hQ _ _ _ ?_ ?_ ?_))
  all_goals (try dsimp only)
  repeat' (first | (with_reducible assumption) | ((with_reducible (change cx_I (sx_uf _ _ _ _, _))); refine cx_I_uf rfl rfl ?_ ?_ ?_) | ((with_reducible (change cx_I (_, sx_ua _ _ _ _, _))); refine cx_I_ua rfl rfl ?_ ?_ ?_) | ((with_reducible (change cx_I (_, sx_ua _ 16 _ _, _))); refine cx_I_ari ?_ ?_ ?_) | ((with_reducible (change cx_I (sx_uf _ 11 6 _, _))); refine cx_I_ufA rfl ?_ ?_ ?_ ?_) | (with_reducible exact cx_F_refl _ _) | ((with_reducible (change cx_F _ _ (sx_uf _ _ _ _, _))); refine cx_F_uf rfl ?_) | ((with_reducible (change cx_F _ _ (_, sx_ua _ _ _ _, _))); refine cx_F_ua rfl ?_) | ((with_reducible (change cx_I (_, sx_cpy _ _ _ _ _ _, _))); refine cx_I_cpy rfl rfl rfl (by decide) ?_) | ((with_reducible (change cx_F _ _ (_, sx_cpy _ _ _ _ _ _, _))); refine cx_F_cpy rfl ?_) | ((with_reducible (change cx_F _ _ _)); refine cx_F_step (by assumption) rfl ?_) | ((with_reducible (change rf_f _ _ (sx_uf _ 66 _ _, _))); refine rf_f_uf rfl ?_) | ((with_reducible (change rf_f _ _ _)); exact (fun _ _ => rfl)) | ((with_reducible (change rf_f _ _ (_, sx_ua _ _ _ _, _))); refine rf_f_ua ?_) | ((with_reducible (change rf_f _ _ _)); assumption) | ((with_reducible (change rf_f _ _ _)); refine rf_f_step (by assumption) rfl ?_) | ((with_reducible (change rf_f _ _ _)); refine rf_f_F (by assumption) rfl ?_) | fail)
  all_goals (first | trivial | assumption | omega | (dsimp only at *; omega) | (simp only [sx_w_t] at *; omega) | (subst_vars; omega) | (subst_vars; assumption) | (subst_vars; dsimp only at *; omega) | (subst_vars; dsimp only at *; simp only [sx_w_t] at *; omega) | (simp only [sx_uf_if, sx_ua_if, sx_w_t, true_and, and_true, and_self, and_false, false_and, if_true, if_false, reduceIte] at *; omega) | (subst_vars; simp only [sx_uf_if, sx_ua_if, sx_w_t, true_and, and_true, and_self, and_false, false_and, if_true, if_false, reduceIte] at *; omega) | skip)
theorem w_fresh_54 {CALL : sx_Ca} {sL : Nat} {sx : Nat → Int32} {Q : Nat → sx_L → sx_S → Prop} {R : Int → sx_S → Prop} {s : sx_S} {a0 a1 a2 x4 x5 : Int} (hI : cx_I s) (p4 : 0 ≤ x4 ∧ x4 ≤ 2999) (q : 0 ≤ x5 ∧ x5 ≤ 4) (hE : s.2.1 108 x4.toNat ≤ x5 → Q 149 [(0, .inr (.inl 66)), (1, .inl a0), (2, .inl a1), (3, .inl a2), (4, .inl x4)] s) (hQ : x5 < s.2.1 108 x4.toNat → Q 72 [(0, .inr (.inl 66)), (1, .inl a0), (2, .inl a1), (3, .inl a2), (4, .inl x4), (5, .inl x5), (6, .inl 0), (7, .inl 0)] s) : sx_wp true sL sx eX12_writeFresh CALL [(19, [0, 1, 2, 3, 4]), (54, [0, 1, 2, 3, 4, 5]), (72, [0, 1, 2, 3, 4, 5, 6, 7]), (149, [0, 1, 2, 3, 4]), (165, [0, 1, 2, 3, 4]), (178, [0, 1, 2, 3, 4]), (181, [0, 1, 2, 3, 4, 5]), (199, [0, 1, 2, 3, 4, 5])] Q R 400 54 [(0, .inr (.inl 66)), (1, .inl a0), (2, .inl a1), (3, .inl a2), (4, .inl x4), (5, .inl x5)] [] s := by
  repeat' (first | (with_reducible intro _) | (refine And.intro ?_ ?_) | (refine hE ?_) | (refine hQ ?_))
  all_goals (try dsimp only)
  all_goals (first | trivial | assumption | omega | (dsimp only at *; omega) | (simp only [sx_w_t] at *; omega) | (subst_vars; omega) | (subst_vars; assumption) | (subst_vars; dsimp only at *; omega) | (subst_vars; dsimp only at *; simp only [sx_w_t] at *; omega) | skip)
theorem w_fresh_72 {CALL : sx_Ca} {sL : Nat} {sx : Nat → Int32} {Q : Nat → sx_L → sx_S → Prop} {R : Int → sx_S → Prop} {s : sx_S} {a0 a1 a2 x4 x5 x6 x7 w1 w2 : Int} (hI : cx_I s) (p4 : 0 ≤ x4 ∧ x4 ≤ 2999) (q5 : 0 ≤ x5 ∧ x5 ≤ 3) (q6 : 0 ≤ x6 ∧ x6 ≤ 3) (q7 : 0 ≤ x7 ∧ x7 ≤ 4) (h1 : x7 < s.2.1 108 x4.toNat → 0 ≤ w1 ∧ w1 ≤ 399999) (h2 : x7 < s.2.1 108 x4.toNat → 0 ≤ w2 ∧ w2 ≤ 399999) (h83 : 0 ≤ s.1 66 83 ∧ s.1 66 83 ≤ 19990) (hV1 : x7 < s.2.1 108 x4.toNat → ∀ K : Int → sx_S → Prop, K w1 s → CALL 187 [.inr (.inl 66), .inl a0, .inl a1, .inl x7] s K) (hV2 : x7 < s.2.1 108 x4.toNat → ∀ K : Int → sx_S → Prop, K w2 s → CALL 187 [.inr (.inl 66), .inl a0, .inl a1, .inl x5] s K) (hQ : x7 < s.2.1 108 x4.toNat → ∀ b y : Int, ((s.2.1 107 w1.toNat < s.2.1 107 w2.toNat ∧ b = x6 + 1) ∨ (s.2.1 107 w2.toNat ≤ s.2.1 107 w1.toNat ∧ b = x6)) → y = x7 + 1 → Q 72 [(0, .inr (.inl 66)), (1, .inl a0), (2, .inl a1), (3, .inl a2), (4, .inl x4), (5, .inl x5), (6, .inl b), (7, .inl y)] s) (hE : s.2.1 108 x4.toNat ≤ x7 → ∀ n y : Int, n = s.1 66 83 + x6 → y = x5 + 1 → Q 54 [(0, .inr (.inl 66)), (1, .inl a0), (2, .inl a1), (3, .inl a2), (4, .inl x4), (5, .inl y)] (s.1, sx_ua s.2.1 121 n.toNat x5, s.2.2)) : sx_wp true sL sx eX12_writeFresh CALL [(19, [0, 1, 2, 3, 4]), (54, [0, 1, 2, 3, 4, 5]), (72, [0, 1, 2, 3, 4, 5, 6, 7]), (149, [0, 1, 2, 3, 4]), (165, [0, 1, 2, 3, 4]), (178, [0, 1, 2, 3, 4]), (181, [0, 1, 2, 3, 4, 5]), (199, [0, 1, 2, 3, 4, 5])] Q R 400 72 [(0, .inr (.inl 66)), (1, .inl a0), (2, .inl a1), (3, .inl a2), (4, .inl x4), (5, .inl x5), (6, .inl x6), (7, .inl x7)] [] s := by
  repeat' (first | (with_reducible intro _) | (refine And.intro ?_ ?_) | (refine hE ?_ _ _ ?_ ?_) | (refine hQ ?_ _ _ ?_ ?_) | (refine hV1 ?_ _ ?_) | (refine hV2 ?_ _ ?_))
  all_goals (try dsimp only)
  repeat' (first | (with_reducible assumption) | ((with_reducible (change cx_I (sx_uf _ _ _ _, _))); refine cx_I_uf rfl rfl ?_ ?_ ?_) | ((with_reducible (change cx_I (_, sx_ua _ _ _ _, _))); refine cx_I_ua rfl rfl ?_ ?_ ?_) | ((with_reducible (change cx_I (_, sx_ua _ 16 _ _, _))); refine cx_I_ari ?_ ?_ ?_) | ((with_reducible (change cx_I (sx_uf _ 11 6 _, _))); refine cx_I_ufA rfl ?_ ?_ ?_ ?_) | (with_reducible exact cx_F_refl _ _) | ((with_reducible (change cx_F _ _ (sx_uf _ _ _ _, _))); refine cx_F_uf rfl ?_) | ((with_reducible (change cx_F _ _ (_, sx_ua _ _ _ _, _))); refine cx_F_ua rfl ?_) | ((with_reducible (change cx_I (_, sx_cpy _ _ _ _ _ _, _))); refine cx_I_cpy rfl rfl rfl (by decide) ?_) | ((with_reducible (change cx_F _ _ (_, sx_cpy _ _ _ _ _ _, _))); refine cx_F_cpy rfl ?_) | ((with_reducible (change cx_F _ _ _)); refine cx_F_step (by assumption) rfl ?_) | ((with_reducible (change rf_f _ _ (sx_uf _ 66 _ _, _))); refine rf_f_uf rfl ?_) | ((with_reducible (change rf_f _ _ _)); exact (fun _ _ => rfl)) | ((with_reducible (change rf_f _ _ (_, sx_ua _ _ _ _, _))); refine rf_f_ua ?_) | ((with_reducible (change rf_f _ _ _)); assumption) | ((with_reducible (change rf_f _ _ _)); refine rf_f_step (by assumption) rfl ?_) | ((with_reducible (change rf_f _ _ _)); refine rf_f_F (by assumption) rfl ?_) | fail)
  all_goals (first | trivial | assumption | omega | (dsimp only at *; omega) | (simp only [sx_w_t] at *; omega) | (subst_vars; omega) | (subst_vars; assumption) | (subst_vars; dsimp only at *; omega) | (subst_vars; dsimp only at *; simp only [sx_w_t] at *; omega) | (simp only [sx_uf_if, sx_ua_if, sx_w_t, true_and, and_true, and_self, and_false, false_and, if_true, if_false, reduceIte] at *; omega) | (subst_vars; simp only [sx_uf_if, sx_ua_if, sx_w_t, true_and, and_true, and_self, and_false, false_and, if_true, if_false, reduceIte] at *; omega) | skip)
theorem w_fresh_149 {CALL : sx_Ca} {sL : Nat} {sx : Nat → Int32} {Q : Nat → sx_L → sx_S → Prop} {R : Int → sx_S → Prop} {s : sx_S} {a0 a1 a2 x4 : Int} (hI : cx_I s) (p4 : 0 ≤ x4 ∧ x4 ≤ 2999) (h83 : 0 ≤ s.1 66 83 ∧ s.1 66 83 ≤ 19990) (hQ : ∀ v : Int, v = s.1 66 83 + s.2.1 108 x4.toNat → Q 165 [(0, .inr (.inl 66)), (1, .inl a0), (2, .inl a1), (3, .inl a2), (4, .inl x4)] (sx_uf s.1 66 83 v, s.2)) : sx_wp true sL sx eX12_writeFresh CALL [(19, [0, 1, 2, 3, 4]), (54, [0, 1, 2, 3, 4, 5]), (72, [0, 1, 2, 3, 4, 5, 6, 7]), (149, [0, 1, 2, 3, 4]), (165, [0, 1, 2, 3, 4]), (178, [0, 1, 2, 3, 4]), (181, [0, 1, 2, 3, 4, 5]), (199, [0, 1, 2, 3, 4, 5])] Q R 400 149 [(0, .inr (.inl 66)), (1, .inl a0), (2, .inl a1), (3, .inl a2), (4, .inl x4)] [] s := by
  repeat' (first | (with_reducible intro _) | (refine And.intro ?_ ?_) | (refine hQ _ ?_))
  all_goals (try dsimp only)
  repeat' (first | (with_reducible assumption) | ((with_reducible (change cx_I (sx_uf _ _ _ _, _))); refine cx_I_uf rfl rfl ?_ ?_ ?_) | ((with_reducible (change cx_I (_, sx_ua _ _ _ _, _))); refine cx_I_ua rfl rfl ?_ ?_ ?_) | ((with_reducible (change cx_I (_, sx_ua _ 16 _ _, _))); refine cx_I_ari ?_ ?_ ?_) | ((with_reducible (change cx_I (sx_uf _ 11 6 _, _))); refine cx_I_ufA rfl ?_ ?_ ?_ ?_) | (with_reducible exact cx_F_refl _ _) | ((with_reducible (change cx_F _ _ (sx_uf _ _ _ _, _))); refine cx_F_uf rfl ?_) | ((with_reducible (change cx_F _ _ (_, sx_ua _ _ _ _, _))); refine cx_F_ua rfl ?_) | ((with_reducible (change cx_I (_, sx_cpy _ _ _ _ _ _, _))); refine cx_I_cpy rfl rfl rfl (by decide) ?_) | ((with_reducible (change cx_F _ _ (_, sx_cpy _ _ _ _ _ _, _))); refine cx_F_cpy rfl ?_) | ((with_reducible (change cx_F _ _ _)); refine cx_F_step (by assumption) rfl ?_) | ((with_reducible (change rf_f _ _ (sx_uf _ 66 _ _, _))); refine rf_f_uf rfl ?_) | ((with_reducible (change rf_f _ _ _)); exact (fun _ _ => rfl)) | ((with_reducible (change rf_f _ _ (_, sx_ua _ _ _ _, _))); refine rf_f_ua ?_) | ((with_reducible (change rf_f _ _ _)); assumption) | ((with_reducible (change rf_f _ _ _)); refine rf_f_step (by assumption) rfl ?_) | ((with_reducible (change rf_f _ _ _)); refine rf_f_F (by assumption) rfl ?_) | fail)
  all_goals (first | trivial | assumption | omega | (dsimp only at *; omega) | (simp only [sx_w_t] at *; omega) | (subst_vars; omega) | (subst_vars; assumption) | (subst_vars; dsimp only at *; omega) | (subst_vars; dsimp only at *; simp only [sx_w_t] at *; omega) | (simp only [sx_uf_if, sx_ua_if, sx_w_t, true_and, and_true, and_self, and_false, false_and, if_true, if_false, reduceIte] at *; omega) | (subst_vars; simp only [sx_uf_if, sx_ua_if, sx_w_t, true_and, and_true, and_self, and_false, false_and, if_true, if_false, reduceIte] at *; omega) | skip)
theorem w_fresh_178 {CALL : sx_Ca} {sL : Nat} {sx : Nat → Int32} {Q : Nat → sx_L → sx_S → Prop} {R : Int → sx_S → Prop} {s : sx_S} {a0 a1 a2 x4 : Int} (hQ : Q 181 [(0, .inr (.inl 66)), (1, .inl a0), (2, .inl a1), (3, .inl a2), (4, .inl x4), (5, .inl 0)] s) : sx_wp true sL sx eX12_writeFresh CALL [(19, [0, 1, 2, 3, 4]), (54, [0, 1, 2, 3, 4, 5]), (72, [0, 1, 2, 3, 4, 5, 6, 7]), (149, [0, 1, 2, 3, 4]), (165, [0, 1, 2, 3, 4]), (178, [0, 1, 2, 3, 4]), (181, [0, 1, 2, 3, 4, 5]), (199, [0, 1, 2, 3, 4, 5])] Q R 400 178 [(0, .inr (.inl 66)), (1, .inl a0), (2, .inl a1), (3, .inl a2), (4, .inl x4)] [] s := by
  exact hQ
theorem w_fresh_181 {CALL : sx_Ca} {sL : Nat} {sx : Nat → Int32} {Q : Nat → sx_L → sx_S → Prop} {R : Int → sx_S → Prop} {s : sx_S} {a0 a1 a2 x4 x5 : Int} {PW : sx_S → Prop} (hI : cx_I s) (p4 : 0 ≤ x4 ∧ x4 ≤ 2999) (q : 0 ≤ x5 ∧ x5 ≤ 4) (hK : s.2.1 108 x4.toNat ≤ x5 → R 0 s) (hP : x5 < s.2.1 108 x4.toNat → ∀ K : Int → sx_S → Prop, (∀ z t, PW t → K z t) → CALL 203 [.inr (.inl 66), .inl 32] s K) (hQ : x5 < s.2.1 108 x4.toNat → ∀ t, PW t → Q 199 [(0, .inr (.inl 66)), (1, .inl a0), (2, .inl a1), (3, .inl a2), (4, .inl x4), (5, .inl x5)] t) : sx_wp true sL sx eX12_writeFresh CALL [(19, [0, 1, 2, 3, 4]), (54, [0, 1, 2, 3, 4, 5]), (72, [0, 1, 2, 3, 4, 5, 6, 7]), (149, [0, 1, 2, 3, 4]), (165, [0, 1, 2, 3, 4]), (178, [0, 1, 2, 3, 4]), (181, [0, 1, 2, 3, 4, 5]), (199, [0, 1, 2, 3, 4, 5])] Q R 400 181 [(0, .inr (.inl 66)), (1, .inl a0), (2, .inl a1), (3, .inl a2), (4, .inl x4), (5, .inl x5)] [] s := by
  repeat' (first | (with_reducible intro _) | (refine And.intro ?_ ?_) | (refine hK ?_) | (refine hQ ?_ _ (by assumption)) | (refine hP ?_ _ ?_))
  all_goals (try dsimp only)
  all_goals (first | trivial | assumption | omega | (dsimp only at *; omega) | (simp only [sx_w_t] at *; omega) | (subst_vars; omega) | (subst_vars; assumption) | (subst_vars; dsimp only at *; omega) | (subst_vars; dsimp only at *; simp only [sx_w_t] at *; omega) | skip)
theorem w_fresh_199 {CALL : sx_Ca} {sL : Nat} {sx : Nat → Int32} {Q : Nat → sx_L → sx_S → Prop} {R : Int → sx_S → Prop} {s : sx_S} {a0 a1 a2 x4 x5 w : Int} {PW : sx_S → Prop} (hI : cx_I s) (p4 : 0 ≤ x4 ∧ x4 ≤ 2999) (q : 0 ≤ x5 ∧ x5 ≤ 3) (ho : s.2.1 120 x4.toNat + x5 ≤ 19999) (hV : ∀ u : Int, u = s.2.1 121 (s.2.1 120 x4.toNat + x5).toNat → ∀ K : Int → sx_S → Prop, K w s → CALL 187 [.inr (.inl 66), .inl a0, .inl a1, .inl u] s K) (hW : ∀ K : Int → sx_S → Prop, (∀ z t, PW t → K z t) → CALL 212 [.inr (.inl 66), .inl w, .inl a2] s K) (hQ : ∀ t, PW t → ∀ y : Int, y = x5 + 1 → Q 181 [(0, .inr (.inl 66)), (1, .inl a0), (2, .inl a1), (3, .inl a2), (4, .inl x4), (5, .inl y)] t) : sx_wp true sL sx eX12_writeFresh CALL [(19, [0, 1, 2, 3, 4]), (54, [0, 1, 2, 3, 4, 5]), (72, [0, 1, 2, 3, 4, 5, 6, 7]), (149, [0, 1, 2, 3, 4]), (165, [0, 1, 2, 3, 4]), (178, [0, 1, 2, 3, 4]), (181, [0, 1, 2, 3, 4, 5]), (199, [0, 1, 2, 3, 4, 5])] Q R 400 199 [(0, .inr (.inl 66)), (1, .inl a0), (2, .inl a1), (3, .inl a2), (4, .inl x4), (5, .inl x5)] [] s := by
  have h120 := hI.arr 120 (by decide) rfl x4.toNat
  have e1 : sx_w true (s.2.1 120 x4.toNat + x5) = s.2.1 120 x4.toNat + x5 := rf_wid (by omega) (by omega)
  repeat' (first | (with_reducible intro _) | (refine And.intro ?_ ?_) | (refine hQ _ (by assumption) _ ?_) | (refine hV _ ?_ _ ?_) | (refine hW _ ?_))
  all_goals (try dsimp only)
  all_goals (first | trivial | assumption | omega | (dsimp only at *; omega) | (simp only [sx_w_t] at *; omega) | (exact Eq.trans (by assumption) (by dsimp only; rw [e1])) | (subst_vars; dsimp only at *; rw [e1]) | (subst_vars; dsimp only at *; simp only [sx_w_t] at *; omega) | skip)

theorem w_wvar_25 {CALL : sx_Ca} {sL : Nat} {sx : Nat → Int32} {Q : Nat → sx_L → sx_S → Prop} {R : Int → sx_S → Prop} {s : sx_S} {a0 a1 : Int} {PW : sx_S → Prop} (hP : ∀ K : Int → sx_S → Prop, (∀ z t, PW t → K z t) → CALL 203 [.inr (.inl 66), .inl 40] s K) (hQ : ∀ t, PW t → Q 31 [(0, .inr (.inl 66)), (1, .inl a0), (2, .inl a1)] t) : sx_wp true sL sx eX12_writeVar CALL [(25, [0, 1, 2]), (31, [0, 1, 2]), (66, [0])] Q R 400 25 [(0, .inr (.inl 66)), (1, .inl a0), (2, .inl a1)] [] s := by
  repeat' (first | (with_reducible intro _) | (refine And.intro ?_ ?_) | (refine hQ _ (by assumption)) | (refine hP _ ?_))
  all_goals (try dsimp only)
  all_goals (first | trivial | assumption | omega | (dsimp only at *; omega) | (simp only [sx_w_t] at *; omega) | (subst_vars; omega) | (subst_vars; assumption) | (subst_vars; dsimp only at *; omega) | (subst_vars; dsimp only at *; simp only [sx_w_t] at *; omega) | skip)
theorem w_wvar_31 {CALL : sx_Ca} {sL : Nat} {sx : Nat → Int32} {Q : Nat → sx_L → sx_S → Prop} {R : Int → sx_S → Prop} {s : sx_S} {a0 a1 : Int} {PL : Int → sx_S → Prop} {PW : sx_S → Prop} (hI : cx_I s) (hL : ∀ K : Int → sx_S → Prop, (∀ z t, PL z t → K z t) → CALL 181 [.inr (.inl 66), .inl a0] s K) (hW : ∀ z t, PL z t → ∀ K : Int → sx_S → Prop, (∀ z t, PW t → K z t) → CALL 209 [.inr (.inl 66), .inl z, .inl (-1), .inl a1] t K) (hQ : ∀ t, PW t → ∀ a b : Int, a = s.1 66 50 → b = s.1 66 58 → Q 66 [(0, .inr (.inl 66))] (sx_uf (sx_uf t.1 66 50 a) 66 58 b, t.2)) : sx_wp true sL sx eX12_writeVar CALL [(25, [0, 1, 2]), (31, [0, 1, 2]), (66, [0])] Q R 400 31 [(0, .inr (.inl 66)), (1, .inl a0), (2, .inl a1)] [] s := by
  repeat' (first | (with_reducible intro _) | (refine And.intro ?_ ?_) | (refine hQ _ (by assumption) _ _ ?_ ?_) | (refine hW _ _ (by assumption) _ ?_) | (refine hL _ ?_))
  all_goals (try dsimp only)
  all_goals (first | trivial | assumption | omega | (dsimp only at *; omega) | (simp only [sx_w_t] at *; omega) | (subst_vars; omega) | (subst_vars; assumption) | (subst_vars; dsimp only at *; omega) | (subst_vars; dsimp only at *; simp only [sx_w_t] at *; omega) | skip)
theorem w_wvar_66 {CALL : sx_Ca} {sL : Nat} {sx : Nat → Int32} {Q : Nat → sx_L → sx_S → Prop} {R : Int → sx_S → Prop} {s : sx_S} {PW : sx_S → Prop} (hP : ∀ K : Int → sx_S → Prop, (∀ z t, PW t → K z t) → CALL 203 [.inr (.inl 66), .inl 41] s K) (hK : ∀ t, PW t → R 0 t) : sx_wp true sL sx eX12_writeVar CALL [(25, [0, 1, 2]), (31, [0, 1, 2]), (66, [0])] Q R 400 66 [(0, .inr (.inl 66))] [] s := by
  repeat' (first | (with_reducible intro _) | (refine And.intro ?_ ?_) | (refine hK _ (by assumption)) | (refine hP _ ?_))
  all_goals (try dsimp only)
  all_goals (first | trivial | assumption | omega | (dsimp only at *; omega) | (simp only [sx_w_t] at *; omega) | (subst_vars; omega) | (subst_vars; assumption) | (subst_vars; dsimp only at *; omega) | (subst_vars; dsimp only at *; simp only [sx_w_t] at *; omega) | skip)
end
section
/-- numbers and orders of the open unknowns -/
def rf_OD (s : sx_S) : Prop := (0 ≤ s.1 66 83 ∧ 0 ≤ s.1 66 79 ∧ s.1 66 83 + s.1 66 79 ≤ ((rf_sum (fun x => if s.2.1 118 x = -1 then 0 else 5) (s.1 66 61).toNat : Nat) : Int)) ∧ ∀ m : Nat, (m : Int) < s.1 66 61 → s.2.1 118 m ≠ -1 → (0 ≤ s.2.1 120 m ∧ s.2.1 120 m + s.2.1 108 m ≤ s.1 66 83) ∧ ∀ q : Nat, (q : Int) < s.2.1 108 m → 0 ≤ s.2.1 121 (s.2.1 120 m + (q : Int)).toNat ∧ s.2.1 121 (s.2.1 120 m + (q : Int)).toNat < s.2.1 108 m
theorem rf_sum_bd {f : Nat → Nat} {c : Nat} (h : ∀ j, f j ≤ c) : ∀ n : Nat, rf_sum f n ≤ n * c
  | 0 => by
    rw [Nat.zero_mul]
    exact Nat.le_refl _
  | n + 1 => by
    have h1 := rf_sum_bd h n
    have h2 := h n
    rw [rf_sum_s, Nat.add_mul, Nat.one_mul]
    omega
theorem rf_OD_bd {s : sx_S} (h : rf_OD s) (h61 : s.1 66 61 ≤ 2900) : (0 ≤ s.1 66 83 ∧ s.1 66 83 ≤ 14500) ∧ (0 ≤ s.1 66 79 ∧ s.1 66 79 ≤ 14500) := by
  have h0 : ∀ j : Nat, (fun x => if s.2.1 118 x = -1 then 0 else 5) j ≤ 5 := fun j => by
    show (if s.2.1 118 j = -1 then 0 else 5) ≤ 5
    by_cases c : s.2.1 118 j = -1
    · rw [if_pos c]
      omega
    · rw [if_neg c]
      omega
  have h1 := rf_sum_bd (f := fun x => if s.2.1 118 x = -1 then 0 else 5) (c := 5) h0 (s.1 66 61).toNat
  have h2 := h.1
  omega
theorem rf_OD_same {s t : sx_S} (h : rf_OD s) (e61 : t.1 66 61 = s.1 66 61) (e83 : t.1 66 83 = s.1 66 83) (e79 : t.1 66 79 = s.1 66 79) (ea : ∀ p, p = 108 ∨ p = 118 ∨ p = 120 ∨ p = 121 → t.2.1 p = s.2.1 p) : rf_OD t := by
  unfold rf_OD
  rw [e61, e83, e79, ea 108 (by decide), ea 118 (by decide), ea 120 (by decide), ea 121 (by decide)]
  exact h
/-- what writing leaves as it was -/
def rf_WF (s t : sx_S) : Prop := (cx_F [(66, 66), (100, 103), (105, 107), (115, 122)] s t ∧ rf_f [50, 58, 71, 79, 83, 86] s t ∧ t.1 66 50 = s.1 66 50) ∧ (rf_ag 100 103 (s.1 66 50) s t ∧ rf_ag 105 105 (s.1 66 56) s t ∧ rf_ag 106 107 (s.1 66 58) s t ∧ rf_ag 115 117 (s.1 66 71) s t) ∧ s.1 66 58 ≤ t.1 66 58 ∧ s.1 66 71 ≤ t.1 66 71 ∧ ∀ j : Nat, s.2.1 118 j ≠ -1 → t.2.1 118 j ≠ -1
theorem rf_WF_refl (s : sx_S) : rf_WF s s := ⟨⟨cx_F_refl _ _, rf_f_refl _ _, rfl⟩, ⟨rf_ag_refl _ _ _ _, rf_ag_refl _ _ _ _, rf_ag_refl _ _ _ _, rf_ag_refl _ _ _ _⟩, Int.le_refl _, Int.le_refl _, fun _ h => h⟩
theorem rf_WF_trans {s t u : sx_S} (h2 : rf_WF t u) (h1 : rf_WF s t) : rf_WF s u := by
  obtain ⟨⟨a1, a2, a3⟩, ⟨a4, a5, a6, a7⟩, a8, a9, a10⟩ := h1
  obtain ⟨⟨b1, b2, b3⟩, ⟨b4, b5, b6, b7⟩, b8, b9, b10⟩ := h2
  have e56 := a2 56 rfl
  exact ⟨⟨cx_F_step b1 rfl a1, rf_f_step b2 rfl a2, b3.trans a3⟩, ⟨rf_ag_trans b4 (by omega) a4, rf_ag_trans b5 (by omega) a5, rf_ag_trans b6 a8 a6, rf_ag_trans b7 a9 a7⟩, by omega, by omega, fun j hj => b10 j (a10 j hj)⟩
theorem rf_WF_EX {s t : sx_S} (h : rf_WF s t) : rf_EX (s.1 66 71) (s.1 66 58) s t ∧ rf_NC s t := by
  obtain ⟨⟨a1, a2, a3⟩, ⟨a4, a5, a6, a7⟩, a8, a9, _⟩ := h
  have e56 := a2 56 rfl
  have e61 := a2 61 rfl
  have e64 := a2 64 rfl
  have e70 := a2 70 rfl
  refine ⟨⟨⟨⟨a2 9 rfl, (a1.same 72 rfl).2, (a1.same 73 rfl).2, (a1.same 96 rfl).2, a2 42 rfl⟩, by omega, by omega, by omega, by omega, by omega⟩, fun j => ⟨fun hj => ⟨a4 100 j (by omega) (by omega) hj, a4 101 j (by omega) (by omega) hj, a4 102 j (by omega) (by omega) hj, a4 103 j (by omega) (by omega) hj, by rw [(a1.same 104 rfl).2]⟩, fun hj => a5 105 j (by omega) (by omega) hj, fun hj => a6 106 j (by omega) (by omega) hj, fun _ => ⟨by rw [(a1.same 108 rfl).2], by rw [(a1.same 109 rfl).2], fun _ => ⟨by rw [(a1.same 111 rfl).2], by rw [(a1.same 112 rfl).2], by rw [(a1.same 113 rfl).2], by rw [(a1.same 114 rfl).2]⟩⟩, fun _ => by rw [(a1.same 110 rfl).2], fun hj => ⟨a7 115 j (by omega) (by omega) hj, a7 116 j (by omega) (by omega) hj, a7 117 j (by omega) (by omega) hj⟩⟩⟩, e61, fun j _ => by rw [(a1.same 111 rfl).2]⟩
/-- small steps of writing -/
theorem rf_WF_put {s t : sx_S} (hF : cx_F [(66, 66), (122, 122)] s t) (hf : rf_f [86] s t) : rf_WF s t ∧ (rf_OD s → rf_OD t) ∧ t.1 66 71 = s.1 66 71 ∧ t.1 66 58 = s.1 66 58 ∧ t.2.1 107 = s.2.1 107 := by
  have e50 := hf 50 rfl
  have e58 := hf 58 rfl
  have e71 := hf 71 rfl
  refine ⟨⟨⟨cx_F_step hF rfl (cx_F_refl _ _), rf_f_step hf rfl (rf_f_refl _ _), e50⟩, ⟨rf_ag_F hF rfl (rf_ag_refl _ _ _ _), rf_ag_F hF rfl (rf_ag_refl _ _ _ _), rf_ag_F hF rfl (rf_ag_refl _ _ _ _), rf_ag_F hF rfl (rf_ag_refl _ _ _ _)⟩, by omega, by omega, fun j hj => by rw [(hF.same 118 rfl).2]; exact hj⟩, fun h => rf_OD_same h (hf 61 rfl) (hf 83 rfl) (hf 79 rfl) (fun p hp => ?_), e71, e58, (hF.same 107 rfl).2⟩
  rcases hp with rfl | rfl | rfl | rfl <;> exact (hF.same _ rfl).2
/-- the variables that stand free are called by such of distinct depths, below this one -/
def rf_DI (s : sx_S) (y : rf_Y) (F : Int → Prop) (dp : Int) : Prop := ∀ v, F v → (0 ≤ s.2.1 107 (rf_look y v).toNat ∧ s.2.1 107 (rf_look y v).toNat < dp) ∧ ∀ w, F w → s.2.1 107 (rf_look y v).toNat = s.2.1 107 (rf_look y w).toNat → v = w
theorem rf_DI_le {s : sx_S} {y : rf_Y} {F F' : Int → Prop} {dp : Int} (h : ∀ v, F' v → F v) (k : rf_DI s y F dp) : rf_DI s y F' dp := fun v hv => ⟨(k v (h v hv)).1, fun w hw => (k v (h v hv)).2 w (h w hw)⟩
end
section
/-! ===== the reference: writeVar ===== -/
/-- trees without unknowns -/
theorem rf_am_no {p : Nat → Int → Prop} : ∀ {n : rf_N}, ((∀ z, ¬ (rf_oc n).1 z) → (rf_am p n).1) ∧ ((∀ z, ¬ (rf_oc n).2 z) → (rf_am p n).2)
  | .leaf => ⟨fun _ => trivial, fun _ => trivial⟩
  | .inner j k u f x => by
    have hf := rf_am_no (p := p) (n := f)
    have hx := rf_am_no (p := p) (n := x)
    have h1 : (∀ z, ¬ (rf_oc (.inner j k u f x)).1 z) → (rf_am p (.inner j k u f x)).1 := fun h => ⟨fun q => absurd (Or.inl ⟨q, rfl⟩) (h k.2), fun q => hf.1 (fun z hz => h z (Or.inr (Or.inl ⟨q, hz⟩))), fun q => hf.2 (fun z hz => h z (Or.inr (Or.inr ⟨q, hz⟩)))⟩
    exact ⟨h1, fun h => ⟨h1 (fun z hz => h z (Or.inl hz)), hx.2 (fun z hz => h z (Or.inr hz))⟩⟩
theorem rf_gt_no {H H' : Nat → Int → Int → rf_T → Prop} {P : Nat → rf_T → Prop} (hH : ∀ j k r u, k ≠ 3 → H j k r u → (k = 0 ∨ k = 1 ∨ k = 2) ∧ H' j k r u) : ∀ {n : rf_N}, ((∀ z, ¬ (rf_oc n).1 z) → ∀ t, (rf_gt H P n).1 t → (rf_gt H' P n).1 t) ∧ ((∀ z, ¬ (rf_oc n).2 z) → ∀ u t, (rf_gt H P n).2 u t → (rf_gt H' P n).2 u t)
  | .leaf => ⟨fun _ _ h => h, fun _ _ _ h => h⟩
  | .inner j k u f x => by
    have hf := rf_gt_no hH (P := P) (n := f)
    have hx := rf_gt_no hH (P := P) (n := x)
    have h1 : (∀ z, ¬ (rf_oc (.inner j k u f x)).1 z) → ∀ t, (rf_gt H P (.inner j k u f x)).1 t → (rf_gt H' P (.inner j k u f x)).1 t := by
      rintro h t (⟨e, A, B, q1, q2, q3⟩ | ⟨e, w, q1, q2, q3⟩)
      · exact Or.inl ⟨e, A, B, q1, (hH _ _ _ _ (by omega) q2).2, hf.1 (fun z hz => h z (Or.inr (Or.inl ⟨e, hz⟩))) _ q3⟩
      · have e3 : k.1 ≠ 3 := fun c => h k.2 (Or.inl ⟨c, rfl⟩)
        obtain ⟨e4, e5⟩ := hH _ _ _ _ e3 q1
        exact Or.inr ⟨e, w, e5, hf.2 (fun z hz => h z (Or.inr (Or.inr ⟨by omega, hz⟩))) _ _ q2, q3⟩
    refine ⟨h1, ?_⟩
    rintro h w t ⟨A, B, q1, q2, q3⟩
    exact ⟨A, B, q1, h1 (fun z hz => h z (Or.inl hz)) A q2, hx.2 (fun z hz => h z (Or.inr hz)) _ _ q3⟩
/-- what stands free is in scope -/
theorem rf_sc_fo {G : Nat → Int → List Int → Prop} {W : Nat → Int → Int → Prop} : ∀ {n : rf_N}, ((rf_am (fun j r => ∀ Γ, G j r Γ → ∀ v, W j r v → v ∈ Γ) n).1 → ∀ Γ, (rf_sc G n).1 Γ → ∀ v, (rf_fo W n).1 v → v ∈ Γ) ∧ ((rf_am (fun j r => ∀ Γ, G j r Γ → ∀ v, W j r v → v ∈ Γ) n).2 → ∀ Γ, (rf_sc G n).2 Γ → ∀ v, (rf_fo W n).2 v → v ∈ Γ)
  | .leaf => ⟨fun _ _ _ _ h => h.elim, fun _ _ _ _ h => h.elim⟩
  | .inner j k u f x => by
    have hf := rf_sc_fo (G := G) (W := W) (n := f)
    have hx := rf_sc_fo (G := G) (W := W) (n := x)
    have h1 : (rf_am (fun j r => ∀ Γ, G j r Γ → ∀ v, W j r v → v ∈ Γ) (.inner j k u f x)).1 → ∀ Γ, (rf_sc G (.inner j k u f x)).1 Γ → ∀ v, (rf_fo W (.inner j k u f x)).1 v → v ∈ Γ := by
      rintro ⟨a, b, c⟩ Γ (⟨q1, q2⟩ | ⟨q1, q2, q3, q4⟩) v (⟨e, h⟩ | ⟨e, h0, h⟩ | ⟨e, h⟩)
      · omega
      · rcases List.mem_cons.mp (hf.1 (b e) _ q2 v h) with z | z
        · exact absurd z h0
        · exact z
      · omega
      · exact a e Γ (q3 e) v h
      · exact absurd e q1
      · rcases h with ⟨e2, h⟩ | h
        · rw [h]
          exact q2 e2
        · exact hf.2 (c e) Γ q4 v h
    exact ⟨h1, fun ⟨a, b⟩ Γ ⟨q1, q2⟩ v hv => hv.elim (fun z => h1 a Γ q1 v z) (fun z => hx.2 b Γ q2 v z)⟩
/-- the state in which things are written -/
def rf_WW (aM : Bool) (nb ib : Int) (s : sx_S) (g : rf_Gh) : Prop := (cx_I s ∧ rf_MI nb ib s g ∧ nb ≤ s.1 66 71 ∧ ib ≤ s.1 66 58 ∧ rf_ph s g ≤ 1150) ∧ (0 ≤ s.1 66 70 ∧ s.1 66 70 ≤ 100) ∧ s.1 66 61 ≤ 2900 ∧ (2 ≤ s.1 66 9 ∧ s.1 66 9 ≤ 6000) ∧ (s.1 66 50 ≤ cond aM 59950 59990 ∧ s.1 66 56 ≤ 119900) ∧ rf_OD s
theorem rf_WW_up {aM : Bool} {nb ib : Int} {s t : sx_S} {g : rf_Gh} (h : rf_WW aM nb ib s g) (hI : cx_I t) (hF : rf_WF s t) (hO : rf_OD t) : rf_WW aM nb ib t g := by
  obtain ⟨⟨a1, a2, a3, a4, a5⟩, a6, a7, a8, a9, a10⟩ := h
  obtain ⟨hE, hN⟩ := rf_WF_EX hF
  obtain ⟨⟨b1, b2, b3⟩, _, b8, b9, _⟩ := hF
  refine ⟨⟨hI, rf_NC_MI (rf_EX_le hE a3 a4) hN (Int.le_refl _) (Int.le_refl _) a2, by omega, by omega, by rw [rf_NC_ph hE hN]; exact a5⟩, by rw [b2 70 rfl]; exact a6, by rw [b2 61 rfl]; exact a7, by rw [b2 9 rfl]; exact a8, by rw [b3, b2 56 rfl]; exact a9, hO⟩
def rf_okw (aM : Bool) (A : rf_N) (p q : Nat) : Prop := ((∀ z, ¬ (rf_oc A).1 z) ∧ (rf_wh A).1 ≤ q) ∨ (aM = true ∧ p + 100 ≤ q)
/-- a long form, as a node under names -/
theorem rf_lv_CL {s t : sx_S} {g : rf_Gh} {nb ib v z dp : Int} {T : rf_T} {n : rf_N} (hM : rf_MI nb ib s g) (h70 : 0 ≤ s.1 66 70) (c2 : cx_F [(66, 66), (100, 103), (105, 106)] s t) (c3 : rf_f [50, 56, 58] s t) (hE : rf_EX (s.1 66 71) (s.1 66 58) s t) (n1 : rf_no t n z) (n5 : (rf_gt (rf_H t) rf_P n).1 T) (n6 : (rf_wh n).1 ≤ 9) (n7 : ∀ m, ¬ (rf_oc n).1 m) (n8 : (rf_sc rf_G0 n).1 [v]) (hd : 0 ≤ s.2.1 107 v.toNat ∧ s.2.1 107 v.toNat < dp) : rf_CL t g (fun _ _ => False) n .leaf T [] (1150 + (rf_wh n).1) z (-1) ∧ rf_DI t .leaf (rf_fo (rf_Wd t g.2.2) n).1 dp := by
  have hfo : ∀ w, (rf_fo (rf_Wd t g.2.2) n).1 w → w = v := fun w hw => by
    have := (rf_sc_fo (G := rf_G0) (W := rf_Wd t g.2.2) (n := n)).1 (rf_am_no.1 n7) [v] n8 w hw
    simpa using this
  refine ⟨⟨⟨n1, ?_, ⟨fun _ _ h => h.elim, Or.inr (fun _ _ h => h)⟩, rf_NM_nil (by rw [c3 70 rfl]; exact h70)⟩, ⟨rf_am_no.1 n7, fun a b ha hb _ => by rw [hfo a ha, hfo b hb]⟩, by omega, ⟨List.nodup_nil, fun x hx => absurd hx List.not_mem_nil, by show 1150 + (rf_wh n).1 ≤ 1150 + (rf_wh n).1 + 0; omega⟩⟩, fun a ha => ⟨?_, fun b hb _ => by rw [hfo a ha, hfo b hb]⟩⟩
  · refine (rf_gt_no (fun j k r u h3 h => ?_)).1 n7 T n5
    rcases h with ⟨h1, h2⟩ | ⟨h1, h2, h4⟩ | ⟨h1, h2⟩ | ⟨h1, _⟩
    · exact ⟨Or.inl h1, Or.inl ⟨h1, h2⟩⟩
    · exact ⟨Or.inr (Or.inl h1), Or.inr (Or.inl ⟨h1, h2, h4⟩)⟩
    · exact ⟨Or.inr (Or.inr h1), Or.inr (Or.inr (Or.inl ⟨h1, h2⟩))⟩
    · exact absurd h1 h3
  · rw [hfo a ha]
    show 0 ≤ t.2.1 107 v.toNat ∧ t.2.1 107 v.toNat < dp
    rw [(c2.same 107 rfl).2]
    exact hd
/-- a long form is made -/
theorem rf_lv_EX {s t : sx_S} (c2 : cx_F [(66, 66), (100, 103), (105, 106)] s t) (c3 : rf_f [50, 56, 58] s t) (c4 : rf_xu s t) (c5 : rf_ag 100 103 (s.1 66 50) s t) : rf_EX (s.1 66 71) (s.1 66 58) s t ∧ rf_NC s t := by
  obtain ⟨x1, x2⟩ := c4
  have x3 := (x2 0).1
  have e61 := c3 61 rfl
  have e64 := c3 64 rfl
  have e70 := c3 70 rfl
  refine ⟨⟨⟨⟨c3 9 rfl, (c2.same 72 rfl).2, (c2.same 73 rfl).2, (c2.same 96 rfl).2, c3 42 rfl⟩, by omega, by omega, by omega, by omega, by omega⟩, fun j => ⟨fun hj => ⟨c5 100 j (by omega) (by omega) hj, c5 101 j (by omega) (by omega) hj, c5 102 j (by omega) (by omega) hj, c5 103 j (by omega) (by omega) hj, by rw [(c2.same 104 rfl).2]⟩, fun hj => (x2 j).2.2.1 hj, fun hj => (x2 j).2.1 hj, fun _ => ⟨by rw [(c2.same 108 rfl).2], by rw [(c2.same 109 rfl).2], fun _ => ⟨by rw [(c2.same 111 rfl).2], by rw [(c2.same 112 rfl).2], by rw [(c2.same 113 rfl).2], by rw [(c2.same 114 rfl).2]⟩⟩, fun _ => by rw [(c2.same 110 rfl).2], fun _ => ⟨by rw [(c2.same 115 rfl).2], by rw [(c2.same 116 rfl).2], by rw [(c2.same 117 rfl).2]⟩⟩⟩, e61, fun j _ => by rw [(c2.same 111 rfl).2]⟩
/-- it is forgotten again -/
theorem rf_lv_WF {s t u : sx_S} {a b : Int} (c2 : cx_F [(66, 66), (100, 103), (105, 106)] s t) (c3 : rf_f [50, 56, 58] s t) (c4 : rf_xu s t) (c5 : rf_ag 100 103 (s.1 66 50) s t) (e56 : t.1 66 56 = s.1 66 56) (hF : rf_WF t u) (ha : a = s.1 66 50) (hb : b = s.1 66 58) : rf_WF s (sx_uf (sx_uf u.1 66 50 a) 66 58 b, u.2) := by
  obtain ⟨x1, x2⟩ := c4
  have x3 := (x2 0).1
  obtain ⟨⟨a1, a2, a3⟩, ⟨a4, a5, a6, a7⟩, a8, a9, a10⟩ := hF
  have e71 := c3 71 rfl
  have o : ∀ k, k ≠ 50 → k ≠ 58 → sx_uf (sx_uf u.1 66 50 a) 66 58 b 66 k = u.1 66 k := fun k h1 h2 => by
    rw [sx_uf_if, if_neg (fun c => h2 c.2), sx_uf_if, if_neg (fun c => h1 c.2)]
  have o50 : sx_uf (sx_uf u.1 66 50 a) 66 58 b 66 50 = a := by
    rw [sx_uf_if, if_neg (fun c => absurd c.2 (by decide)), sx_uf_if, if_pos ⟨rfl, rfl⟩]
  have o58 : sx_uf (sx_uf u.1 66 50 a) 66 58 b 66 58 = b := by
    rw [sx_uf_if, if_pos ⟨rfl, rfl⟩]
  refine ⟨⟨cx_F_uf rfl (cx_F_uf rfl (cx_F_step a1 rfl (cx_F_step c2 rfl (cx_F_refl _ _)))), fun k hk => ?_, o50.trans ha⟩, ⟨rf_ag_trans a4 (by omega) c5, fun p j hp hq hj => ?_, fun p j hp hq hj => ?_, ?_⟩, ?_, ?_, fun j hj => a10 j (by rw [(c2.same 118 rfl).2]; exact hj)⟩
  · by_cases k56 : k = 56
    · subst k56
      show sx_uf (sx_uf u.1 66 50 a) 66 58 b 66 56 = _
      rw [o 56 (by decide) (by decide), a2 56 rfl]
      exact e56
    · have k50 : k ≠ 50 := fun c => by
        rw [c] at hk
        exact absurd hk (by decide)
      have k58 : k ≠ 58 := fun c => by
        rw [c] at hk
        exact absurd hk (by decide)
      show sx_uf (sx_uf u.1 66 50 a) 66 58 b 66 k = _
      rw [o k k50 k58, a2 k hk, c3 k ?_]
      simp only [List.contains_eq_mem, List.mem_cons, List.not_mem_nil, or_false, decide_eq_false_iff_not, not_or]
      exact ⟨k50, k56, k58⟩
  · have : p = 105 := by omega
    subst this
    exact (a5 105 j hp hq (by omega)).trans ((x2 j).2.2.1 hj)
  · have h1 : p = 106 ∨ p = 107 := by omega
    refine (a6 p j hp hq (by omega)).trans ?_
    rcases h1 with rfl | rfl
    · exact (x2 j).2.1 hj
    · rw [(c2.same 107 rfl).2]
  · refine rf_ag_trans a7 (by omega) (fun p j hp hq _ => ?_)
    have : p = 115 ∨ p = 116 ∨ p = 117 := by omega
    rcases this with rfl | rfl | rfl <;> rw [(c2.same _ rfl).2]
  · show _ ≤ sx_uf (sx_uf u.1 66 50 a) 66 58 b 66 58
    omega
  · show _ ≤ sx_uf (sx_uf u.1 66 50 a) 66 58 b 66 71
    rw [o 71 (by decide) (by decide)]
    omega
end
section
/-! ===== the reference: writeFresh ===== -/
theorem rf_sum_le2 {f h : Nat → Nat} : ∀ {n : Nat}, (∀ i, i < n → f i ≤ h i) → rf_sum f n ≤ rf_sum h n
  | 0, _ => Nat.le_refl _
  | n + 1, q => by
    have h1 := rf_sum_le2 (n := n) (fun i hi => q i (by omega))
    have h2 := q n (by omega)
    rw [rf_sum_s, rf_sum_s]
    omega
theorem rf_sum_lt2 {f h : Nat → Nat} {j : Nat} : ∀ {n : Nat}, j < n → (∀ i, i < n → f i ≤ h i) → f j < h j → rf_sum f n < rf_sum h n
  | 0, hj, _, _ => absurd hj (Nat.not_lt_zero _)
  | n + 1, hj, q, hl => by
    rw [rf_sum_s, rf_sum_s]
    by_cases e : j = n
    · have h1 := rf_sum_le2 (n := n) (fun i hi => q i (by omega))
      rw [e] at hl
      omega
    · have h1 := rf_sum_lt2 (n := n) (by omega) (fun i hi => q i (by omega)) hl
      have h2 := q n (by omega)
      omega
/-- how many lie below the k-th -/
def rf_r1 (D : Nat → Int) (k j : Nat) : Nat := if D j < D k then 1 else 0
def rf_rnk (D : Nat → Int) (n k : Nat) : Nat := rf_sum (rf_r1 D k) n
theorem rf_one_sum : ∀ n : Nat, rf_sum (fun _ => 1) n = n
  | 0 => rfl
  | n + 1 => by
    rw [rf_sum_s, rf_one_sum n]
theorem rf_r1_le (D : Nat → Int) (k j : Nat) : rf_r1 D k j ≤ 1 := by
  unfold rf_r1
  by_cases c : D j < D k
  · rw [if_pos c]
    omega
  · rw [if_neg c]
    omega
theorem rf_rnk_lt {D : Nat → Int} {n k : Nat} (hk : k < n) : rf_rnk D n k < n := by
  have h1 : rf_r1 D k k < 1 := by
    unfold rf_r1
    rw [if_neg (by omega)]
    omega
  have := rf_sum_lt2 (f := rf_r1 D k) (h := fun _ => 1) (j := k) (n := n) hk (fun i _ => rf_r1_le D k i) h1
  rw [rf_one_sum] at this
  exact this
theorem rf_rnk_mono {D : Nat → Int} {n j k : Nat} (hj : j < n) (h : D j < D k) : rf_rnk D n j < rf_rnk D n k := by
  refine rf_sum_lt2 (j := j) hj (fun i _ => ?_) ?_
  · unfold rf_r1
    by_cases c : D i < D j
    · rw [if_pos c, if_pos (by omega)]
      omega
    · rw [if_neg c]
      omega
  · unfold rf_r1
    rw [if_neg (by omega), if_pos h]
    omega
theorem rf_rnk_inj {D : Nat → Int} {n j k : Nat} (hD : ∀ a b, a < n → b < n → D a = D b → a = b) (hj : j < n) (hk : k < n) (h : rf_rnk D n j = rf_rnk D n k) : j = k := by
  by_cases c : D j = D k
  · exact hD j k hj hk c
  · by_cases c2 : D j < D k
    · have := rf_rnk_mono (n := n) hj c2
      omega
    · have := rf_rnk_mono (D := D) (n := n) hk (show D k < D j by omega)
      omega
theorem rf_rnk_sur {D : Nat → Int} {n : Nat} (hn : n ≤ 4) (hD : ∀ a b, a < n → b < n → D a = D b → a = b) {r : Nat} (hr : r < n) : ∃ k, k < n ∧ rf_rnk D n k = r := by
  refine Classical.byContradiction (fun hc => ?_)
  have hne : ∀ k, k < n → rf_rnk D n k ≠ r := fun k hk e => hc ⟨k, hk, e⟩
  have hlt : ∀ k, k < n → rf_rnk D n k < n := fun k hk => rf_rnk_lt hk
  have hin : ∀ j k, j < n → k < n → rf_rnk D n j = rf_rnk D n k → j = k := fun j k hj hk e => rf_rnk_inj hD hj hk e
  have hcase : n = 1 ∨ n = 2 ∨ n = 3 ∨ n = 4 := by omega
  rcases hcase with rfl | rfl | rfl | rfl
  · have a0 := hne 0 (by omega)
    have b0 := hlt 0 (by omega)
    omega
  · have a0 := hne 0 (by omega)
    have a1 := hne 1 (by omega)
    have b0 := hlt 0 (by omega)
    have b1 := hlt 1 (by omega)
    have c01 := fun e => hin 0 1 (by omega) (by omega) e
    omega
  · have a0 := hne 0 (by omega)
    have a1 := hne 1 (by omega)
    have a2 := hne 2 (by omega)
    have b0 := hlt 0 (by omega)
    have b1 := hlt 1 (by omega)
    have b2 := hlt 2 (by omega)
    have c01 := fun e => hin 0 1 (by omega) (by omega) e
    have c02 := fun e => hin 0 2 (by omega) (by omega) e
    have c12 := fun e => hin 1 2 (by omega) (by omega) e
    omega
  · have a0 := hne 0 (by omega)
    have a1 := hne 1 (by omega)
    have a2 := hne 2 (by omega)
    have a3 := hne 3 (by omega)
    have b0 := hlt 0 (by omega)
    have b1 := hlt 1 (by omega)
    have b2 := hlt 2 (by omega)
    have b3 := hlt 3 (by omega)
    have c01 := fun e => hin 0 1 (by omega) (by omega) e
    have c02 := fun e => hin 0 2 (by omega) (by omega) e
    have c03 := fun e => hin 0 3 (by omega) (by omega) e
    have c12 := fun e => hin 1 2 (by omega) (by omega) e
    have c13 := fun e => hin 1 3 (by omega) (by omega) e
    have c23 := fun e => hin 2 3 (by omega) (by omega) e
    omega
/-- an open unknown gets its number, and its order is made -/
def rf_FA (s u : sx_S) (m : Int) (D : Nat → Int) (x5 : Int) : Prop := (cx_I u ∧ cx_F [(66, 66), (118, 118), (120, 121)] s u ∧ rf_f [79] s u ∧ u.1 66 79 = s.1 66 79 + 1) ∧ (∀ j : Nat, u.2.1 118 j = if j = m.toNat then s.1 66 79 else s.2.1 118 j) ∧ (∀ j : Nat, u.2.1 120 j = if j = m.toNat then s.1 66 83 else s.2.1 120 j) ∧ (∀ j : Nat, (j : Int) < s.1 66 83 → u.2.1 121 j = s.2.1 121 j) ∧ ∀ k : Nat, (k : Int) < x5 → u.2.1 121 (s.1 66 83 + ((rf_rnk D (s.2.1 108 m.toNat).toNat k : Nat) : Int)).toNat = (k : Int)
theorem rf_FA_OD {s u : sx_S} {m : Int} {D : Nat → Int} {v : Int} (hm : 0 ≤ m ∧ m < s.1 66 61) (hs : s.2.1 118 m.toNat = -1) (hO : rf_OD s) (r108 : 0 ≤ s.2.1 108 m.toNat ∧ s.2.1 108 m.toNat ≤ 4) (hD : ∀ a b, a < (s.2.1 108 m.toNat).toNat → b < (s.2.1 108 m.toNat).toNat → D a = D b → a = b) (h : rf_FA s u m D (s.2.1 108 m.toNat)) (hv : v = s.1 66 83 + s.2.1 108 m.toNat) : rf_OD (sx_uf u.1 66 83 v, u.2) := by
  obtain ⟨⟨h1, h2, h3, h4⟩, h5, h6, h7, h8⟩ := h
  obtain ⟨⟨o1, o2, o3⟩, o4⟩ := hO
  have e61 := h3 61 rfl
  have e83 : sx_uf u.1 66 83 v 66 83 = v := by
    rw [sx_uf_if]
    exact if_pos ⟨rfl, rfl⟩
  have o : ∀ k, k ≠ 83 → sx_uf u.1 66 83 v 66 k = u.1 66 k := fun k hk => by
    rw [sx_uf_if]
    exact if_neg (fun c => hk c.2)
  have e108 : u.2.1 108 = s.2.1 108 := (h2.same 108 rfl).2
  have hsum : rf_sum (fun x => if u.2.1 118 x = -1 then 0 else 5) (s.1 66 61).toNat = rf_sum (fun x => if s.2.1 118 x = -1 then 0 else 5) (s.1 66 61).toNat + 5 := by
    have q1 := rf_sum_upd (f := fun x => if u.2.1 118 x = -1 then 0 else 5) (g := fun x => if s.2.1 118 x = -1 then 0 else 5) (x := m.toNat) (n := (s.1 66 61).toNat) (by omega) (fun j hj => by
      show (if u.2.1 118 j = -1 then 0 else 5) = (if s.2.1 118 j = -1 then 0 else 5)
      rw [h5 j, if_neg hj])
    have q2 : (if u.2.1 118 m.toNat = -1 then (0 : Nat) else 5) = 5 := by
      rw [h5, if_pos rfl, if_neg (by omega)]
    have q3 : (if s.2.1 118 m.toNat = -1 then (0 : Nat) else 5) = 0 := if_pos hs
    rw [q2, q3] at q1
    omega
  refine ⟨⟨?_, ?_, ?_⟩, fun q hq hne => ?_⟩
  · show 0 ≤ sx_uf u.1 66 83 v 66 83
    omega
  · show 0 ≤ sx_uf u.1 66 83 v 66 79
    rw [o 79 (by decide)]
    omega
  · show sx_uf u.1 66 83 v 66 83 + sx_uf u.1 66 83 v 66 79 ≤ ((rf_sum (fun x => if u.2.1 118 x = -1 then 0 else 5) (sx_uf u.1 66 83 v 66 61).toNat : Nat) : Int)
    rw [e83, o 79 (by decide), o 61 (by decide), e61, hsum]
    push_cast
    omega
  · have hq2 : (q : Int) < s.1 66 61 := by
      have : (q : Int) < sx_uf u.1 66 83 v 66 61 := hq
      rw [o 61 (by decide)] at this
      omega
    have hne2 : u.2.1 118 q ≠ -1 := hne
    show (0 ≤ u.2.1 120 q ∧ u.2.1 120 q + u.2.1 108 q ≤ sx_uf u.1 66 83 v 66 83) ∧ ∀ r : Nat, (r : Int) < u.2.1 108 q → 0 ≤ u.2.1 121 (u.2.1 120 q + (r : Int)).toNat ∧ u.2.1 121 (u.2.1 120 q + (r : Int)).toNat < u.2.1 108 q
    rw [e83, e108, h6 q]
    by_cases c : q = m.toNat
    · rw [if_pos c, c]
      refine ⟨by omega, fun r hr => ?_⟩
      obtain ⟨k, k1, k2⟩ := rf_rnk_sur (n := (s.2.1 108 m.toNat).toNat) (by omega) hD (r := r) (by omega)
      have := h8 k (by omega)
      rw [k2] at this
      rw [this]
      omega
    · rw [if_neg c]
      rw [h5 q, if_neg c] at hne2
      obtain ⟨w1, w2⟩ := o4 q hq2 hne2
      refine ⟨by omega, fun r hr => ?_⟩
      rw [h7 _ (by omega)]
      exact w2 r hr
end
section
/-! ===== the reference: write, what it is made of ===== -/
theorem rf_fo_typed2 {s : sx_S} {g : rf_Gh} (hu : rf_Ub s g) {N : Int → rf_T → Prop} {A : rf_N} {i : Int} {x z : rf_T} (a1 : rf_no s A i) (a2 : (rf_gt (rf_Hn (s.1 66 58) s N) rf_P A).2 x z) {y : rf_Y} {b : Int} (a4 : rf_NM s N y b) : ∀ w, (rf_fo (rf_Wd s g.2.2) A).2 w → ∃ T, rf_vb (s.1 66 58) s (rf_look y w) T := by
  intro w hw
  have hbn := (rf_bn_gn a1).2 _ _ a2
  have h2 := (rf_am_mono (p := rf_bn s) (p' := fun j r => ∀ v, rf_Wd s g.2.2 j r v → ∃ q : Nat, (q : Int) < rf_aa s r ∧ v = rf_rv1 s j q) (n := A) (fun j _ r hb v ⟨q, q1, q2⟩ => ⟨q, hu r q hb.2.1.1 hb.2.1.2 q1, q2⟩)).2 hbn
  obtain ⟨T, hT⟩ := rf_fo_ty.2 _ _ a2 h2 w hw
  exact ⟨T, a4.2.2.1 w T hT⟩
theorem rf_DI_ag {s t : sx_S} {y : rf_Y} {F : Int → Prop} {dp : Int} (hF : ∀ w, F w → ∃ T, rf_vb (s.1 66 58) s (rf_look y w) T) (ha : rf_ag 107 107 (s.1 66 58) s t) (k : rf_DI s y F dp) : rf_DI t y F dp := by
  have e : ∀ v, F v → t.2.1 107 (rf_look y v).toNat = s.2.1 107 (rf_look y v).toNat := fun v hv => by
    obtain ⟨T, hT⟩ := hF v hv
    have := hT.1
    exact ha 107 _ (by omega) (by omega) (by omega)
  intro v hv
  rw [e v hv]
  refine ⟨(k v hv).1, fun w hw q => (k v hv).2 w hw ?_⟩
  rw [e w hw] at q
  exact q
/-- so much of the budget is left -/
def rf_WB (s u : sx_S) (q q' : Nat) : Prop := (cx_I u ∧ rf_WF s u ∧ rf_OD u) ∧ (u.1 66 71 + (q' : Int) ≤ s.1 66 71 + (q : Int) ∧ u.1 66 58 = s.1 66 58) ∧ q' ≤ q
def rf_W4 (aM : Bool) (s u : sx_S) (g : rf_Gh) (x : rf_T) (dp : Int) (q : Nat) (N : Int → rf_T → Prop) (A : rf_N) (y : rf_Y) (W : List Nat) (p q' : Nat) (x4 x5 : Int) : Prop := rf_WB s u q q' ∧ rf_CL u g N A y x W p x4 x5 ∧ rf_okw aM A p q' ∧ rf_DI u y (rf_fo (rf_Wd u g.2.2) A).1 dp
def rf_okr (aM : Bool) (f : rf_N) (p q : Nat) : Prop := ((∀ z, ¬ (rf_oc f).2 z) ∧ (rf_wh f).2 ≤ q) ∨ (aM = true ∧ p + 100 ≤ q)
def rf_WR (aM : Bool) (s u : sx_S) (g : rf_Gh) (dp : Int) (q : Nat) (N : Int → rf_T → Prop) (f : rf_N) (y : rf_Y) (w : rf_T) (W : List Nat) (p q' : Nat) (x5 x6 : Int) : Prop := rf_WB s u q q' ∧ rf_CR u g N f y w W p x6 x5 ∧ rf_okr aM f p (q' - 1) ∧ rf_DI u y (rf_fo (rf_Wd u g.2.2) f).2 dp ∧ 1 ≤ q'
/-- a variable is made; its depth is set -/
def rf_V1 (u t : sx_S) (x4 v : Int) : Prop := cx_I t ∧ cx_F [(66, 66), (106, 106)] u t ∧ v = u.1 66 58 ∧ t.1 66 58 = u.1 66 58 + 1 ∧ rf_f [58] u t ∧ rf_ag 106 106 (u.1 66 58) u t ∧ t.2.1 106 v.toNat = u.2.1 106 (u.2.1 101 x4.toNat).toNat
def rf_V2 (u t : sx_S) (v dp : Int) : Prop := cx_I t ∧ cx_F [(66, 66), (107, 107), (122, 122)] u t ∧ rf_f [86] u t ∧ ∀ j : Nat, t.2.1 107 j = if j = v.toNat then dp else u.2.1 107 j
theorem rf_WB_put {s u t : sx_S} {q q' : Nat} (h : rf_WB s u q q') (c1 : cx_I t) (c2 : cx_F [(66, 66), (122, 122)] u t) (c3 : rf_f [86] u t) : rf_WB s t q q' := by
  obtain ⟨⟨h1, h2, h3⟩, ⟨h4, h5⟩, h6⟩ := h
  obtain ⟨e1, e2, e3, e4, e5⟩ := rf_WF_put c2 c3
  exact ⟨⟨c1, rf_WF_trans e1 h2, e2 h3⟩, ⟨by omega, by omega⟩, h6⟩
theorem rf_CL_put {u t : sx_S} {g : rf_Gh} (hu : rf_Ub u g) {N : Int → rf_T → Prop} {A : rf_N} {y : rf_Y} {x : rf_T} {W : List Nat} {p : Nat} {i b dp : Int} (hF : rf_WF u t) (e71 : t.1 66 71 = u.1 66 71) (e58 : t.1 66 58 = u.1 66 58) (k : rf_CL u g N A y x W p i b) (kD : rf_DI u y (rf_fo (rf_Wd u g.2.2) A).1 dp) : rf_CL t g N A y x W p i b ∧ rf_DI t y (rf_fo (rf_Wd t g.2.2) A).1 dp := by
  obtain ⟨hE, hN⟩ := rf_WF_EX hF
  refine ⟨rf_CL_up hE (by omega) (by omega) (rf_EG_refl u g) hu k, ?_⟩
  refine rf_DI_le (fun v hv => ?_) (rf_DI_ag (t := t) (rf_fo_typed hu k.1.1 k.1.2.1 k.1.2.2.2) (fun a j h1 h2 h3 => hF.2.1.2.2.1 a j (by omega) h2 h3) kD)
  exact (rf_Wd_up hE (fun r q r0 r1 hq => ⟨hq, hu r q r0 r1 hq⟩)).1 ((rf_bn_gn k.1.1).1 _ k.1.2.1) v hv
theorem rf_CR_put {u t : sx_S} {g : rf_Gh} (hu : rf_Ub u g) {N : Int → rf_T → Prop} {f : rf_N} {y : rf_Y} {w : rf_T} {W : List Nat} {p : Nat} {i b dp : Int} (hF : rf_WF u t) (e71 : t.1 66 71 = u.1 66 71) (e58 : t.1 66 58 = u.1 66 58) (k : rf_CR u g N f y w W p i b) (kD : rf_DI u y (rf_fo (rf_Wd u g.2.2) f).2 dp) : rf_CR t g N f y w W p i b ∧ rf_DI t y (rf_fo (rf_Wd t g.2.2) f).2 dp := by
  obtain ⟨hE, hN⟩ := rf_WF_EX hF
  refine ⟨rf_CR_up hE (by omega) (by omega) (rf_EG_refl u g) hu k, ?_⟩
  refine rf_DI_le (fun v hv => ?_) (rf_DI_ag (t := t) (rf_fo_typed2 hu k.1.1 k.1.2.1 k.1.2.2.2) (fun a j h1 h2 h3 => hF.2.1.2.2.1 a j (by omega) h2 h3) kD)
  exact (rf_Wd_up hE (fun r q r0 r1 hq => ⟨hq, hu r q r0 r1 hq⟩)).2 ((rf_bn_gn k.1.1).2 _ _ k.1.2.1) v hv
/-- names and variables are taken back -/
theorem rf_WF_back {u t : sx_S} {a b : Int} (h : rf_WF u t) (ha : a = u.1 66 71) (hb : b = u.1 66 58) : rf_WF u (sx_uf (sx_uf t.1 66 71 a) 66 58 b, t.2) := by
  obtain ⟨o1, o2, o3⟩ := rf_back_f (a := a) (b := b) (t := t)
  obtain ⟨⟨a1, a2, a3⟩, ⟨a4, a5, a6, a7⟩, a8, a9, a10⟩ := h
  exact ⟨⟨cx_F_uf rfl (cx_F_uf rfl a1), rf_f_uf rfl (rf_f_uf rfl a2), (o1 50 (by decide) (by decide)).trans a3⟩, ⟨a4, a5, a6, a7⟩, Int.le_of_eq (o3.trans hb).symm, Int.le_of_eq (o2.trans ha).symm, a10⟩
/-- into a solved unknown -/
theorem rf_DI_en {nb ib : Int} {s t : sx_S} {g : rf_Gh} (hM : rf_MI nb ib s g) {y : rf_Y} {i dp : Int} {j : Nat} {kk : Int × Int} {uu : Unit} {f n : rf_N} (ej : i.toNat = j) (k3 : kk.1 = 3) (hr : 0 ≤ kk.2 ∧ kk.2 < s.1 66 61) (hs : s.2.1 111 kk.2.toNat ≠ 0) (hd : rf_di s g.2.2 j kk.2) (hE : rf_EX (s.1 66 71) (s.1 66 58) s t) (hib : ib ≤ s.1 66 58) (e107 : t.2.1 107 = s.2.1 107) (kD : rf_DI s y (rf_fo (rf_Wd s g.2.2) (.inner j kk uu f n)).1 dp) : rf_DI t (rf_bh (g.2.1 kk.2) (rf_row (rf_fm s kk.2) (rf_vo s y i) (rf_aa s kk.2).toNat)) (rf_fo (rf_Wd t g.2.2) (g.1 kk.2)).1 dp := by
  have hMX := hM.1 kk.2 hr.1 hr.2
  have hSV := hMX.2.2.2 hs
  have hfo : ∀ v, (rf_fo (rf_Wd t g.2.2) (g.1 kk.2)).1 v → (rf_fo (rf_Wd s g.2.2) (g.1 kk.2)).1 v := (rf_Wd_up hE (fun r q r0 r1 hq => ⟨hq, hM.ub r q r0 r1 hq⟩)).1 ((rf_bn_gn hSV.1.1).1 _ hSV.1.2.1)
  intro v hv
  obtain ⟨q, q1, q2, q3⟩ := rf_en_look (y := y) (n := i) hMX hs (hfo v hv)
  rw [ej] at q3
  rw [q3, e107]
  have hq := kD (rf_rv1 s j q) (Or.inl ⟨k3, q, q1, rfl⟩)
  refine ⟨hq.1, fun w hw e => ?_⟩
  obtain ⟨r, r1, r2, r3⟩ := rf_en_look (y := y) (n := i) hMX hs (hfo w hw)
  rw [ej] at r3
  rw [r3] at e
  have e2 := hd q r q1 r1 (hq.2 _ (Or.inl ⟨k3, r, r1, rfl⟩) e)
  subst e2
  exact hSV.2.2.2.2 v w (hfo v hv) (hfo w hw) (by rw [q2, r2])
/-- a mark of what was seen -/
theorem rf_WF_seen {s : sx_S} {n : Nat} {v : Int} : rf_WF s (s.1, sx_ua s.2.1 119 n v, s.2.2) := by
  have o : ∀ p, p ≠ 119 → sx_ua s.2.1 119 n v p = s.2.1 p := fun p hp => sx_ua_ne hp
  refine ⟨⟨cx_F_ua rfl (cx_F_refl _ _), rf_f_refl _ _, rfl⟩, ⟨fun p j h1 h2 _ => congrFun (o p (by omega)) j, fun p j h1 h2 _ => congrFun (o p (by omega)) j, fun p j h1 h2 _ => congrFun (o p (by omega)) j, fun p j h1 h2 _ => congrFun (o p (by omega)) j⟩, Int.le_refl _, Int.le_refl _, fun j hj => ?_⟩
  show sx_ua s.2.1 119 n v 118 j ≠ -1
  rw [o 118 (by decide)]
  exact hj
theorem rf_WF_name {s t : sx_S} (hF : cx_F [(66, 66), (115, 117)] s t) (hf : rf_f [71] s t) (ha : rf_ag 115 117 (s.1 66 71) s t) (hn : s.1 66 71 ≤ t.1 66 71) : rf_WF s t ∧ (rf_OD s → rf_OD t) := by
  have e50 := hf 50 rfl
  have e58 := hf 58 rfl
  refine ⟨⟨⟨cx_F_step hF rfl (cx_F_refl _ _), rf_f_step hf rfl (rf_f_refl _ _), e50⟩, ⟨rf_ag_F hF rfl (rf_ag_refl _ _ _ _), rf_ag_F hF rfl (rf_ag_refl _ _ _ _), rf_ag_F hF rfl (rf_ag_refl _ _ _ _), ha⟩, by omega, hn, fun j hj => by rw [(hF.same 118 rfl).2]; exact hj⟩, fun h => rf_OD_same h (hf 61 rfl) (hf 83 rfl) (hf 79 rfl) (fun p hp => ?_)⟩
  rcases hp with rfl | rfl | rfl | rfl <;> exact (hF.same _ rfl).2
theorem rf_WF_V {u u1 u2 : sx_S} {x4 v dp : Int} (h1 : rf_V1 u u1 x4 v) (h2 : rf_V2 u1 u2 v dp) (r58 : 0 ≤ u.1 66 58) : rf_WF u u2 ∧ (rf_OD u → rf_OD u2) ∧ u2.1 66 71 = u.1 66 71 ∧ u2.1 66 58 = u.1 66 58 + 1 ∧ (∀ j : Nat, u2.2.1 107 j = if j = v.toNat then dp else u.2.1 107 j) ∧ u2.2.1 106 v.toNat = u.2.1 106 (u.2.1 101 x4.toNat).toNat ∧ u2.2.1 101 = u.2.1 101 ∧ u2.2.1 102 = u.2.1 102 := by
  obtain ⟨a1, a2, a3, a4, a5, a6, a7⟩ := h1
  obtain ⟨b1, b2, b3, b4⟩ := h2
  have e50 := a5 50 rfl
  have f50 := b3 50 rfl
  have e71 := a5 71 rfl
  have f71 := b3 71 rfl
  have f58 := b3 58 rfl
  have e107 : u1.2.1 107 = u.2.1 107 := (a2.same 107 rfl).2
  have hF : cx_F [(66, 66), (106, 107), (122, 122)] u u2 := cx_F_step b2 rfl (cx_F_step a2 rfl (cx_F_refl _ _))
  have hf : rf_f [58, 86] u u2 := rf_f_step b3 rfl (rf_f_step a5 rfl (rf_f_refl _ _))
  refine ⟨⟨⟨cx_F_step hF rfl (cx_F_refl _ _), rf_f_step hf rfl (rf_f_refl _ _), by omega⟩, ⟨rf_ag_F hF rfl (rf_ag_refl _ _ _ _), rf_ag_F hF rfl (rf_ag_refl _ _ _ _), fun p j p1 p2 hj => ?_, rf_ag_F hF rfl (rf_ag_refl _ _ _ _)⟩, by omega, by omega, fun j hj => by rw [(hF.same 118 rfl).2]; exact hj⟩, fun h => rf_OD_same h (hf 61 rfl) (hf 83 rfl) (hf 79 rfl) (fun p hp => ?_), by omega, by omega, fun j => by rw [b4 j, e107], by rw [(b2.same 106 rfl).2]; exact a7, by rw [(hF.same 101 rfl).2], by rw [(hF.same 102 rfl).2]⟩
  · have : p = 106 ∨ p = 107 := by omega
    rcases this with rfl | rfl
    · rw [(b2.same 106 rfl).2]
      exact a6 106 j (by omega) (by omega) hj
    · rw [b4 j, if_neg (by omega), e107]
  · rcases hp with rfl | rfl | rfl | rfl <;> exact (hF.same _ rfl).2
theorem rf_okw_row {aM : Bool} {j : Nat} {kk : Int × Int} {uu : Unit} {f n : rf_N} {p q : Nat} (k0 : kk.1 = 1 ∨ kk.1 = 2) (hp : 1 ≤ p) (h : rf_okw aM (.inner j kk uu f n) p q) : rf_okr aM f (p - 1) (q - 1) := by
  rcases h with ⟨h1, h2⟩ | ⟨h1, h2⟩
  · refine Or.inl ⟨fun z hz => h1 z (Or.inr (Or.inr ⟨k0, hz⟩)), ?_⟩
    rw [rf_wh_2 k0] at h2
    omega
  · exact Or.inr ⟨h1, by omega⟩
theorem rf_okw_lam {aM : Bool} {j : Nat} {kk : Int × Int} {uu : Unit} {f n : rf_N} {p q : Nat} (k0 : kk.1 = 0) (hp : 1 ≤ p) (h : rf_okw aM (.inner j kk uu f n) p q) : rf_okw aM f (p - 1) (q - 1) := by
  rcases h with ⟨h1, h2⟩ | ⟨h1, h2⟩
  · refine Or.inl ⟨fun z hz => h1 z (Or.inr (Or.inl ⟨k0, hz⟩)), ?_⟩
    rw [rf_wh_0 k0] at h2
    omega
  · exact Or.inr ⟨h1, by omega⟩
theorem rf_okw_pos {aM : Bool} {j : Nat} {kk : Int × Int} {uu : Unit} {f n : rf_N} {p q : Nat} (h : rf_okw aM (.inner j kk uu f n) p q) : 1 ≤ q := by
  have := rf_wh_pos (j := j) (k := kk) (u := uu) (f := f) (x := n)
  rcases h with ⟨h1, h2⟩ | ⟨h1, h2⟩ <;> omega
end
