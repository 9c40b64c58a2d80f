/-! ===== the desk's checker: a NAME and its ARGs: pieces ===== -/
theorem w_nm {CALL : sx_Ca} {sL : Nat} {sx : Nat → Int32} {Q : Nat → sx_L → sx_S → Prop} {R : Int → sx_S → Prop} (h_dz_blame : ∀ (a0 a1 : Int) (s : sx_S) (K : Int → sx_S → Prop), cx_I s → (-2147483648 ≤ a0 ∧ a0 ≤ 2147483647) → (-2147483648 ≤ a1 ∧ a1 ≤ 2147483647) → (∀ (z : Int) (t : sx_S), cx_I t → cx_F [(18, 18)] s t → (z = 0) → (t.1 18 9 = s.1 18 9) → (t.1 18 10 = s.1 18 10) → K z t) → CALL 21 [.inr (.inl 18), .inl a0, .inl a1] s K) {s : sx_S} {a0 a1 lo : Int} {Zm : sx_S → Prop} {Zx : Prop} (hI : cx_I s) (hlo : 0 ≤ lo ∧ lo ≤ 2000) (hm0 : ∀ t, Zm t → cx_I t) (h_mg : ∀ K : Int → sx_S → Prop, (∀ t, Zm t → K lo t) → (Zx → K (-1) s) → CALL 32 [.inr (.inl 18), .inl (s.1 18 11)] s K) (hX : Zx → (∀ u, cx_I u → u.1 18 9 = s.1 18 9 → R (-1) u)) (hQ : ∀ t, Zm t → ∀ w, w = sx_w true (t.1 18 11 + 1) → ∀ y, y = t.1 18 12 → Q 48 [(0, .inr (.inl 18)), (1, .inl a0), (2, .inl a1), (3, .inl (s.1 18 11)), (4, .inl lo), (5, .inl y), (6, .inl 1), (7, .inl 0)] (sx_uf t.1 18 11 w, t.2)) : sx_wp true sL sx eX1_named CALL [(48, [0, 1, 2, 3, 4, 5, 6, 7]), (80, [0, 1, 2, 3, 4, 5, 6, 7, 8, 9]), (124, [0, 1, 2, 3, 4, 5, 6, 7, 9]), (153, [0, 3, 4, 5, 6])] Q R 400 0 (sx_argsF 0 [.inr (.inl 18), .inl a0, .inl a1]) [] s := by
  have h11 := hI.fld 18 11 (by decide) rfl
  have zzI : ∀ t : sx_S, cx_I t → cx_I (sx_uf t.1 18 11 (sx_w true (t.1 18 11 + 1)), t.2) := fun t h => cx_I_uf rfl rfl h (by rw [sx_w_t]; omega) (by rw [sx_w_t]; omega)
  repeat' (first | (with_reducible (rintro _ rfl)) | (with_reducible intro _) | (refine And.intro ?_ ?_) | (refine h_mg _ ?_ ?_) | (refine h_dz_blame _ _ _ _ ?_ ?_ ?_ ?_))
  all_goals (try dsimp only at *)
  all_goals (first | trivial | assumption | omega | (exfalso; omega) | (exact hm0 _ (by assumption)) | (exact zzI _ (hm0 _ (by assumption))) | (refine hQ _ ?_ _ ?_ _ ?_ <;> first | assumption | rfl) | (refine hX ?_ _ ?_ ?_ <;> assumption) | skip)
theorem w_nm_48 {CALL : sx_Ca} {sL : Nat} {sx : Nat → Int32} {Q : Nat → sx_L → sx_S → Prop} {R : Int → sx_S → Prop} {s : sx_S} {a0 a1 a3 x4 x5 x6 x7 : Int} {B : Prop} {Zt : Int → sx_S → Prop} (hI : cx_I s) (q7 : 0 ≤ x7 ∧ x7 < 240) (qa : a1 = 0 ∨ a1 = 1) (h_bg : a1 = 1 → ∀ K : Int → sx_S → Prop, (B → K 1 s) → (¬ B → K 0 s) → CALL 30 [.inr (.inl 18)] s K) (h_arg : a1 = 1 → B → ∀ K : Int → sx_S → Prop, (∀ w t, Zt w t → K w t) → CALL 31 [.inr (.inl 18), .inl a0] s K) (hQ : ∀ w t, Zt w t → Q 80 [(0, .inr (.inl 18)), (1, .inl a0), (2, .inl a1), (3, .inl a3), (4, .inl x4), (5, .inl x5), (6, .inl x6), (7, .inl x7), (8, .inl (s.1 18 11)), (9, .inl w)] t) (hE : a1 = 0 ∨ ¬ B → Q 153 [(0, .inr (.inl 18)), (3, .inl a3), (4, .inl x4), (5, .inl x5), (6, .inl x6)] s) : sx_wp true sL sx eX1_named CALL [(48, [0, 1, 2, 3, 4, 5, 6, 7]), (80, [0, 1, 2, 3, 4, 5, 6, 7, 8, 9]), (124, [0, 1, 2, 3, 4, 5, 6, 7, 9]), (153, [0, 3, 4, 5, 6])] Q R 400 48 [(0, .inr (.inl 18)), (1, .inl a0), (2, .inl a1), (3, .inl a3), (4, .inl x4), (5, .inl x5), (6, .inl x6), (7, .inl x7)] [] s := by
  have h11 := hI.fld 18 11 (by decide) rfl
  rcases qa with qa | qa
  · have hE' := hE (Or.inl qa)
    subst qa
    clear h_arg h_bg hQ
    repeat' (first | (with_reducible (rintro _ rfl)) | (with_reducible intro _) | (refine And.intro ?_ ?_) | (fail))
    all_goals (try dsimp only at *)
    all_goals (first | trivial | assumption | omega | (exfalso; omega) | skip)
  · have h_bg' := h_bg qa
    have h_arg' := h_arg qa
    have hE' := fun q => hE (Or.inr q)
    subst qa
    clear h_arg h_bg hE
    repeat' (first | (with_reducible (rintro _ rfl)) | (with_reducible intro _) | (refine And.intro ?_ ?_) | (refine h_bg' _ ?_ ?_) | (refine h_arg' ?_ _ ?_))
    all_goals (try dsimp only at *)
    all_goals (first | trivial | assumption | omega | (exfalso; omega) | (exact hE' (by assumption)) | (exact hQ _ _ (by assumption)) | skip)
theorem w_nm_80 {CALL : sx_Ca} {sL : Nat} {sx : Nat → Int32} {Q : Nat → sx_L → sx_S → Prop} {R : Int → sx_S → Prop} (h_dz_blame : ∀ (a0 a1 : Int) (s : sx_S) (K : Int → sx_S → Prop), cx_I s → (-2147483648 ≤ a0 ∧ a0 ≤ 2147483647) → (-2147483648 ≤ a1 ∧ a1 ≤ 2147483647) → (∀ (z : Int) (t : sx_S), cx_I t → cx_F [(18, 18)] s t → (z = 0) → (t.1 18 9 = s.1 18 9) → (t.1 18 10 = s.1 18 10) → K z t) → CALL 21 [.inr (.inl 18), .inl a0, .inl a1] s K) {s : sx_S} {a0 a1 a3 x4 x5 x6 x7 x8 x9 Af Ag : Int} (hI : cx_I s) (r8 : -2147483648 ≤ x8 ∧ x8 ≤ 2147483647) (r5 : -2147483648 ≤ Af ∧ Af ≤ 2147483647) (r9 : -1 ≤ x9 ∧ x9 ≤ 2000) (hf : x9 < 0 → R (-1) s) (h_from : 0 ≤ x9 → ∀ K : Int → sx_S → Prop, K Af s → CALL 117 [.inr (.inl 8), .inl x5] s K) (h_to : 0 ≤ x9 → Af = s.1 18 12 → ∀ K : Int → sx_S → Prop, K Ag s → CALL 118 [.inr (.inl 8), .inl x5] s K) (hne : 0 ≤ x9 → Af ≠ s.1 18 12 → (∀ u, cx_I u → u.1 18 9 = s.1 18 9 → R (-1) u)) (hQ : 0 ≤ x9 → Af = s.1 18 12 → Q 124 [(0, .inr (.inl 18)), (1, .inl a0), (2, .inl a1), (3, .inl a3), (4, .inl x4), (5, .inl Ag), (6, .inl x6), (7, .inl x7), (9, .inl x9)] s) : sx_wp true sL sx eX1_named CALL [(48, [0, 1, 2, 3, 4, 5, 6, 7]), (80, [0, 1, 2, 3, 4, 5, 6, 7, 8, 9]), (124, [0, 1, 2, 3, 4, 5, 6, 7, 9]), (153, [0, 3, 4, 5, 6])] Q R 400 80 [(0, .inr (.inl 18)), (1, .inl a0), (2, .inl a1), (3, .inl a3), (4, .inl x4), (5, .inl x5), (6, .inl x6), (7, .inl x7), (8, .inl x8), (9, .inl x9)] [] s := by
  have h12 := hI.fld 18 12 (by decide) rfl
  by_cases h9 : 0 ≤ x9
  · have h_from' := h_from h9
    by_cases hA : Af = s.1 18 12
    · have h_to' := h_to h9 hA
      have hQ' := hQ h9 hA
      clear hf hne h_to h_from hQ
      repeat' (first | (with_reducible (rintro _ rfl)) | (with_reducible intro _) | (refine And.intro ?_ ?_) | (refine h_from' _ ?_) | (refine h_to' _ ?_))
      all_goals (try dsimp only at *)
      all_goals (first | trivial | assumption | omega | (exfalso; omega) | skip)
    · have hne' := hne h9 hA
      clear hf hne h_to h_from hQ
      repeat' (first | (with_reducible (rintro _ rfl)) | (with_reducible intro _) | (refine And.intro ?_ ?_) | (refine h_from' _ ?_) | (refine h_dz_blame _ _ _ _ ?_ ?_ ?_ ?_))
      all_goals (try dsimp only at *)
      all_goals (first | trivial | assumption | omega | (exfalso; omega) | (refine hne' _ ?_ ?_ <;> assumption) | skip)
  · have hf' := hf (by omega)
    clear hf hne h_to h_from hQ
    repeat' (first | (with_reducible (rintro _ rfl)) | (with_reducible intro _) | (refine And.intro ?_ ?_) | (fail))
    all_goals (try dsimp only at *)
    all_goals (first | trivial | assumption | omega | (exfalso; omega) | skip)
theorem w_nm_124 {CALL : sx_Ca} {sL : Nat} {sx : Nat → Int32} {Q : Nat → sx_L → sx_S → Prop} {R : Int → sx_S → Prop} {s : sx_S} {a0 a1 a3 x4 x5 x6 x7 x9 : Int} {Zg : Int → sx_S → Prop} (q7 : 0 ≤ x7 ∧ x7 < 240) (q6 : x6 = 0 ∨ x6 = 1) (h_gv : ∀ K : Int → sx_S → Prop, (∀ y u, (y = 0 ∨ y = 1) → Zg y u → K y u) → CALL 33 [.inr (.inl 18), .inl x4, .inl x9] s K) (hQ : ∀ u x6', (∃ y, Zg y u ∧ (y = 1 ∧ x6 = 1 ∧ x6' = 1 ∨ (y = 0 ∨ x6 = 0) ∧ x6' = 0)) → Q 48 [(0, .inr (.inl 18)), (1, .inl a0), (2, .inl a1), (3, .inl a3), (4, .inl x4), (5, .inl x5), (6, .inl x6'), (7, .inl (x7 + 1))] u) : sx_wp true sL sx eX1_named CALL [(48, [0, 1, 2, 3, 4, 5, 6, 7]), (80, [0, 1, 2, 3, 4, 5, 6, 7, 8, 9]), (124, [0, 1, 2, 3, 4, 5, 6, 7, 9]), (153, [0, 3, 4, 5, 6])] Q R 400 124 [(0, .inr (.inl 18)), (1, .inl a0), (2, .inl a1), (3, .inl a3), (4, .inl x4), (5, .inl x5), (6, .inl x6), (7, .inl x7), (9, .inl x9)] [] s := by
  have zzy : sx_w true (x7 + 1) = x7 + 1 := px_wid (by omega) (by omega)
  rw [← zzy] at hQ
  repeat' (first | (with_reducible (rintro _ rfl)) | (with_reducible intro _) | (refine And.intro ?_ ?_) | (refine h_gv _ ?_))
  all_goals (try dsimp only at *)
  all_goals (first | trivial | assumption | omega | (exfalso; omega) | (exact hQ _ _ ⟨_, by assumption, by omega⟩) | skip)
theorem w_nm_153 {CALL : sx_Ca} {sL : Nat} {sx : Nat → Int32} {Q : Nat → sx_L → sx_S → Prop} {R : Int → sx_S → Prop} (h_dz_blame : ∀ (a0 a1 : Int) (s : sx_S) (K : Int → sx_S → Prop), cx_I s → (-2147483648 ≤ a0 ∧ a0 ≤ 2147483647) → (-2147483648 ≤ a1 ∧ a1 ≤ 2147483647) → (∀ (z : Int) (t : sx_S), cx_I t → cx_F [(18, 18)] s t → (z = 0) → (t.1 18 9 = s.1 18 9) → (t.1 18 10 = s.1 18 10) → K z t) → CALL 21 [.inr (.inl 18), .inl a0, .inl a1] s K) {s : sx_S} {a3 x4 x5 x6 : Int} {Zc : Int → sx_S → Prop} (hI : cx_I s) (q6 : x6 = 0 ∨ x6 = 1) (r3 : -2147483648 ≤ a3 ∧ a3 ≤ 2147483647) (hb : x6 = 0 → (∀ u, cx_I u → u.1 18 9 = s.1 18 9 → R (-1) u)) (h_cp : x6 = 1 → ∀ K : Int → sx_S → Prop, (∀ z t, Zc z t → K z t) → CALL 97 [.inr (.inl 11), .inl x4, .inl x5, .inl 0] (sx_uf s.1 18 12 x5, s.2) K) (hc : ∀ z t, Zc z t → R z t) : sx_wp true sL sx eX1_named CALL [(48, [0, 1, 2, 3, 4, 5, 6, 7]), (80, [0, 1, 2, 3, 4, 5, 6, 7, 8, 9]), (124, [0, 1, 2, 3, 4, 5, 6, 7, 9]), (153, [0, 3, 4, 5, 6])] Q R 400 153 [(0, .inr (.inl 18)), (3, .inl a3), (4, .inl x4), (5, .inl x5), (6, .inl x6)] [] s := by
  rcases q6 with q6 | q6
  · have hb' := hb q6
    subst q6
    clear h_cp
    repeat' (first | (with_reducible (rintro _ rfl)) | (with_reducible intro _) | (refine And.intro ?_ ?_) | (refine h_dz_blame _ _ _ _ ?_ ?_ ?_ ?_))
    all_goals (try dsimp only at *)
    all_goals (first | trivial | assumption | omega | (exfalso; omega) | (refine hb' _ ?_ ?_ <;> assumption) | skip)
  · have h_cp' := h_cp q6
    subst q6
    repeat' (first | (with_reducible (rintro _ rfl)) | (with_reducible intro _) | (refine And.intro ?_ ?_) | (refine h_cp' _ ?_) | (refine h_dz_blame _ _ _ _ ?_ ?_ ?_ ?_))
    all_goals (try dsimp only at *)
    all_goals (first | trivial | assumption | omega | (exfalso; omega) | (exact hc _ _ (by assumption)) | skip)
