/-! ===== the desk: tokens, types, names, terms (leaves) ===== -/
theorem w_kind {CALL : sx_Ca} {sL : Nat} {sx : Nat → Int32} {Q : Nat → sx_L → sx_S → Prop} {R : Int → sx_S → Prop} {s : sx_S} {t0 : Int} (hI : cx_I s) (p0 : (-2147483648 ≤ t0 ∧ t0 ≤ 2147483647)) (hK : ∀ z : Int, (-2147483648 ≤ z ∧ z ≤ 2147483647) → R z s) : sx_wp true sL sx eX8_kind CALL [] Q R 400 0 (sx_argsF 0 [.inr (.inl 2), .inl t0]) [] s := by
  repeat' (first | (with_reducible intro _) | (refine And.intro ?_ ?_) | (refine hK _ ?_))
  all_goals (try dsimp only)
  repeat' (first | (with_reducible assumption) | ((with_reducible (change cx_I (sx_uf _ _ _ _, _))); refine cx_I_uf rfl ?_ ?_ ?_) | ((with_reducible (change cx_I (_, sx_ua _ _ _ _, _))); refine cx_I_ua rfl ?_ ?_ ?_) | (with_reducible exact cx_F_refl _ _) | ((with_reducible (change cx_F _ _ (sx_uf _ _ _ _, _))); refine cx_F_uf rfl ?_) | ((with_reducible (change cx_F _ _ (_, sx_ua _ _ _ _, _))); refine cx_F_ua rfl ?_) | ((with_reducible (change cx_I (_, sx_cpy _ _ _ _ _ _, _))); refine cx_I_cpy rfl rfl (by decide) ?_) | ((with_reducible (change cx_F _ _ (_, sx_cpy _ _ _ _ _ _, _))); refine cx_F_cpy rfl ?_) | ((with_reducible (change cx_F _ _ _)); refine cx_F_step (by assumption) rfl ?_))
  all_goals (first | trivial | omega | (dsimp only at *; omega) | (simp only [sx_uf_if, sx_ua_if, sx_w_t, true_and, and_true, and_self, and_false, false_and, if_true, if_false, reduceIte] at *; omega) | (subst_vars; rfl) | (subst_vars; decide))

theorem c_kind {sL : Nat} {sx : Nat → Int32} (hsL : sL ≤ 3072) (d : Nat) (hd : 2 ≤ d) : ∀ (t0 : Int) (s : sx_S) (K : Int → sx_S → Prop), cx_I s → (-2147483648 ≤ t0 ∧ t0 ≤ 2147483647) → (∀ z : Int, (-2147483648 ≤ z ∧ z ≤ 2147483647) → K z s) → sx_C sL sx d 101 [.inr (.inl 2), .inl t0] s K := by
  intro t0 s K hI p0 hK
  obtain ⟨d, rfl⟩ : ∃ e, d = e + 2 := ⟨d - 2, by omega⟩
  exact sx_meth (wr := true) (n := 400) hsL (e := eX8_kind) rfl (w_kind (Q := fun _ _ _ => False)  hI p0 hK)

theorem w_start {CALL : sx_Ca} {sL : Nat} {sx : Nat → Int32} {Q : Nat → sx_L → sx_S → Prop} {R : Int → sx_S → Prop} {s : sx_S} {t0 : Int} (hI : cx_I s) (p0 : (-2147483648 ≤ t0 ∧ t0 ≤ 2147483647)) (hK : ∀ z : Int, (-2147483648 ≤ z ∧ z ≤ 2147483647) → R z s) : sx_wp true sL sx eX8_start CALL [] Q R 400 0 (sx_argsF 0 [.inr (.inl 2), .inl t0]) [] s := by
  repeat' (first | (with_reducible intro _) | (refine And.intro ?_ ?_) | (refine hK _ ?_))
  all_goals (try dsimp only)
  repeat' (first | (with_reducible assumption) | ((with_reducible (change cx_I (sx_uf _ _ _ _, _))); refine cx_I_uf rfl ?_ ?_ ?_) | ((with_reducible (change cx_I (_, sx_ua _ _ _ _, _))); refine cx_I_ua rfl ?_ ?_ ?_) | (with_reducible exact cx_F_refl _ _) | ((with_reducible (change cx_F _ _ (sx_uf _ _ _ _, _))); refine cx_F_uf rfl ?_) | ((with_reducible (change cx_F _ _ (_, sx_ua _ _ _ _, _))); refine cx_F_ua rfl ?_) | ((with_reducible (change cx_I (_, sx_cpy _ _ _ _ _ _, _))); refine cx_I_cpy rfl rfl (by decide) ?_) | ((with_reducible (change cx_F _ _ (_, sx_cpy _ _ _ _ _ _, _))); refine cx_F_cpy rfl ?_) | ((with_reducible (change cx_F _ _ _)); refine cx_F_step (by assumption) rfl ?_))
  all_goals (first | trivial | omega | (dsimp only at *; omega) | (simp only [sx_uf_if, sx_ua_if, sx_w_t, true_and, and_true, and_self, and_false, false_and, if_true, if_false, reduceIte] at *; omega) | (subst_vars; rfl) | (subst_vars; decide))

theorem c_start {sL : Nat} {sx : Nat → Int32} (hsL : sL ≤ 3072) (d : Nat) (hd : 2 ≤ d) : ∀ (t0 : Int) (s : sx_S) (K : Int → sx_S → Prop), cx_I s → (-2147483648 ≤ t0 ∧ t0 ≤ 2147483647) → (∀ z : Int, (-2147483648 ≤ z ∧ z ≤ 2147483647) → K z s) → sx_C sL sx d 102 [.inr (.inl 2), .inl t0] s K := by
  intro t0 s K hI p0 hK
  obtain ⟨d, rfl⟩ : ∃ e, d = e + 2 := ⟨d - 2, by omega⟩
  exact sx_meth (wr := true) (n := 400) hsL (e := eX8_start) rfl (w_start (Q := fun _ _ _ => False)  hI p0 hK)

theorem w_nameLength {CALL : sx_Ca} {sL : Nat} {sx : Nat → Int32} {Q : Nat → sx_L → sx_S → Prop} {R : Int → sx_S → Prop} {s : sx_S} {t0 : Int} (hI : cx_I s) (p0 : (-2147483648 ≤ t0 ∧ t0 ≤ 2147483647)) (hK : ∀ z : Int, (-2147483648 ≤ z ∧ z ≤ 2147483647) → R z s) : sx_wp true sL sx eX8_nameLength CALL [] Q R 400 0 (sx_argsF 0 [.inr (.inl 2), .inl t0]) [] s := by
  repeat' (first | (with_reducible intro _) | (refine And.intro ?_ ?_) | (refine hK _ ?_))
  all_goals (try dsimp only)
  repeat' (first | (with_reducible assumption) | ((with_reducible (change cx_I (sx_uf _ _ _ _, _))); refine cx_I_uf rfl ?_ ?_ ?_) | ((with_reducible (change cx_I (_, sx_ua _ _ _ _, _))); refine cx_I_ua rfl ?_ ?_ ?_) | (with_reducible exact cx_F_refl _ _) | ((with_reducible (change cx_F _ _ (sx_uf _ _ _ _, _))); refine cx_F_uf rfl ?_) | ((with_reducible (change cx_F _ _ (_, sx_ua _ _ _ _, _))); refine cx_F_ua rfl ?_) | ((with_reducible (change cx_I (_, sx_cpy _ _ _ _ _ _, _))); refine cx_I_cpy rfl rfl (by decide) ?_) | ((with_reducible (change cx_F _ _ (_, sx_cpy _ _ _ _ _ _, _))); refine cx_F_cpy rfl ?_) | ((with_reducible (change cx_F _ _ _)); refine cx_F_step (by assumption) rfl ?_))
  all_goals (first | trivial | omega | (dsimp only at *; omega) | (simp only [sx_uf_if, sx_ua_if, sx_w_t, true_and, and_true, and_self, and_false, false_and, if_true, if_false, reduceIte] at *; omega) | (subst_vars; rfl) | (subst_vars; decide))

theorem c_nameLength {sL : Nat} {sx : Nat → Int32} (hsL : sL ≤ 3072) (d : Nat) (hd : 2 ≤ d) : ∀ (t0 : Int) (s : sx_S) (K : Int → sx_S → Prop), cx_I s → (-2147483648 ≤ t0 ∧ t0 ≤ 2147483647) → (∀ z : Int, (-2147483648 ≤ z ∧ z ≤ 2147483647) → K z s) → sx_C sL sx d 103 [.inr (.inl 2), .inl t0] s K := by
  intro t0 s K hI p0 hK
  obtain ⟨d, rfl⟩ : ∃ e, d = e + 2 := ⟨d - 2, by omega⟩
  exact sx_meth (wr := true) (n := 400) hsL (e := eX8_nameLength) rfl (w_nameLength (Q := fun _ _ _ => False)  hI p0 hK)

theorem w_nameByte {CALL : sx_Ca} {sL : Nat} {sx : Nat → Int32} {Q : Nat → sx_L → sx_S → Prop} {R : Int → sx_S → Prop} {s : sx_S} {t0 t1 : Int} (hI : cx_I s) (p0 : (-2147483648 ≤ t0 ∧ t0 ≤ 2147483647)) (p1 : (-2147483648 ≤ t1 ∧ t1 ≤ 2147483647)) (hK : ∀ z : Int, (-2147483648 ≤ z ∧ z ≤ 2147483647) → R z s) : sx_wp true sL sx eX8_nameByte CALL [] Q R 400 0 (sx_argsF 0 [.inr (.inl 2), .inl t0, .inl t1]) [] s := by
  repeat' (first | (with_reducible intro _) | (refine And.intro ?_ ?_) | (refine hK _ ?_))
  all_goals (try dsimp only)
  repeat' (first | (with_reducible assumption) | ((with_reducible (change cx_I (sx_uf _ _ _ _, _))); refine cx_I_uf rfl ?_ ?_ ?_) | ((with_reducible (change cx_I (_, sx_ua _ _ _ _, _))); refine cx_I_ua rfl ?_ ?_ ?_) | (with_reducible exact cx_F_refl _ _) | ((with_reducible (change cx_F _ _ (sx_uf _ _ _ _, _))); refine cx_F_uf rfl ?_) | ((with_reducible (change cx_F _ _ (_, sx_ua _ _ _ _, _))); refine cx_F_ua rfl ?_) | ((with_reducible (change cx_I (_, sx_cpy _ _ _ _ _ _, _))); refine cx_I_cpy rfl rfl (by decide) ?_) | ((with_reducible (change cx_F _ _ (_, sx_cpy _ _ _ _ _ _, _))); refine cx_F_cpy rfl ?_) | ((with_reducible (change cx_F _ _ _)); refine cx_F_step (by assumption) rfl ?_))
  all_goals (first | trivial | omega | (dsimp only at *; omega) | (simp only [sx_uf_if, sx_ua_if, sx_w_t, true_and, and_true, and_self, and_false, false_and, if_true, if_false, reduceIte] at *; omega) | (subst_vars; rfl) | (subst_vars; decide))

theorem c_nameByte {sL : Nat} {sx : Nat → Int32} (hsL : sL ≤ 3072) (d : Nat) (hd : 2 ≤ d) : ∀ (t0 t1 : Int) (s : sx_S) (K : Int → sx_S → Prop), cx_I s → (-2147483648 ≤ t0 ∧ t0 ≤ 2147483647) → (-2147483648 ≤ t1 ∧ t1 ≤ 2147483647) → (∀ z : Int, (-2147483648 ≤ z ∧ z ≤ 2147483647) → K z s) → sx_C sL sx d 104 [.inr (.inl 2), .inl t0, .inl t1] s K := by
  intro t0 t1 s K hI p0 p1 hK
  obtain ⟨d, rfl⟩ : ∃ e, d = e + 2 := ⟨d - 2, by omega⟩
  exact sx_meth (wr := true) (n := 400) hsL (e := eX8_nameByte) rfl (w_nameByte (Q := fun _ _ _ => False)  hI p0 p1 hK)

theorem w_tyclear {CALL : sx_Ca} {sL : Nat} {sx : Nat → Int32} {Q : Nat → sx_L → sx_S → Prop} {R : Int → sx_S → Prop} {s : sx_S} (hI : cx_I s) (hK : ∀ (z : Int) (t : sx_S), cx_I t → cx_F [(8, 10)] s t → (True) → R z t) : sx_wp true sL sx eX9_clear CALL [] Q R 400 0 (sx_argsF 0 [.inr (.inl 8)]) [] s := by
  repeat' (first | (with_reducible intro _) | (refine And.intro ?_ ?_) | (refine hK _ _ ?_ ?_ ?_))
  all_goals (try dsimp only)
  repeat' (first | (with_reducible assumption) | ((with_reducible (change cx_I (sx_uf _ _ _ _, _))); refine cx_I_uf rfl ?_ ?_ ?_) | ((with_reducible (change cx_I (_, sx_ua _ _ _ _, _))); refine cx_I_ua rfl ?_ ?_ ?_) | (with_reducible exact cx_F_refl _ _) | ((with_reducible (change cx_F _ _ (sx_uf _ _ _ _, _))); refine cx_F_uf rfl ?_) | ((with_reducible (change cx_F _ _ (_, sx_ua _ _ _ _, _))); refine cx_F_ua rfl ?_) | ((with_reducible (change cx_I (_, sx_cpy _ _ _ _ _ _, _))); refine cx_I_cpy rfl rfl (by decide) ?_) | ((with_reducible (change cx_F _ _ (_, sx_cpy _ _ _ _ _ _, _))); refine cx_F_cpy rfl ?_) | ((with_reducible (change cx_F _ _ _)); refine cx_F_step (by assumption) rfl ?_))
  all_goals (first | trivial | omega | (dsimp only at *; omega) | (simp only [sx_uf_if, sx_ua_if, sx_w_t, true_and, and_true, and_self, and_false, false_and, if_true, if_false, reduceIte] at *; omega) | (subst_vars; rfl) | (subst_vars; decide))

theorem c_tyclear {sL : Nat} {sx : Nat → Int32} (hsL : sL ≤ 3072) (d : Nat) (hd : 2 ≤ d) : ∀ (s : sx_S) (K : Int → sx_S → Prop), cx_I s → (∀ (z : Int) (t : sx_S), cx_I t → cx_F [(8, 10)] s t → (True) → K z t) → sx_C sL sx d 115 [.inr (.inl 8)] s K := by
  intro  s K hI  hK
  obtain ⟨d, rfl⟩ : ∃ e, d = e + 2 := ⟨d - 2, by omega⟩
  exact sx_meth (wr := true) (n := 400) hsL (e := eX9_clear) rfl (w_tyclear (Q := fun _ _ _ => False)  hI  hK)

theorem w_isArrow {CALL : sx_Ca} {sL : Nat} {sx : Nat → Int32} {Q : Nat → sx_L → sx_S → Prop} {R : Int → sx_S → Prop} {s : sx_S} {t0 : Int} (hI : cx_I s) (p0 : (-2147483648 ≤ t0 ∧ t0 ≤ 2147483647)) (hK : ∀ z : Int, (0 ≤ z ∧ z ≤ 1) → R z s) : sx_wp true sL sx eX9_isArrow CALL [] Q R 400 0 (sx_argsF 0 [.inr (.inl 8), .inl t0]) [] s := by
  repeat' (first | (with_reducible intro _) | (refine And.intro ?_ ?_) | (refine hK _ ?_))
  all_goals (try dsimp only)
  repeat' (first | (with_reducible assumption) | ((with_reducible (change cx_I (sx_uf _ _ _ _, _))); refine cx_I_uf rfl ?_ ?_ ?_) | ((with_reducible (change cx_I (_, sx_ua _ _ _ _, _))); refine cx_I_ua rfl ?_ ?_ ?_) | (with_reducible exact cx_F_refl _ _) | ((with_reducible (change cx_F _ _ (sx_uf _ _ _ _, _))); refine cx_F_uf rfl ?_) | ((with_reducible (change cx_F _ _ (_, sx_ua _ _ _ _, _))); refine cx_F_ua rfl ?_) | ((with_reducible (change cx_I (_, sx_cpy _ _ _ _ _ _, _))); refine cx_I_cpy rfl rfl (by decide) ?_) | ((with_reducible (change cx_F _ _ (_, sx_cpy _ _ _ _ _ _, _))); refine cx_F_cpy rfl ?_) | ((with_reducible (change cx_F _ _ _)); refine cx_F_step (by assumption) rfl ?_))
  all_goals (first | trivial | omega | (dsimp only at *; omega) | (simp only [sx_uf_if, sx_ua_if, sx_w_t, true_and, and_true, and_self, and_false, false_and, if_true, if_false, reduceIte] at *; omega) | (subst_vars; rfl) | (subst_vars; decide))

theorem c_isArrow {sL : Nat} {sx : Nat → Int32} (hsL : sL ≤ 3072) (d : Nat) (hd : 2 ≤ d) : ∀ (t0 : Int) (s : sx_S) (K : Int → sx_S → Prop), cx_I s → (-2147483648 ≤ t0 ∧ t0 ≤ 2147483647) → (∀ z : Int, (0 ≤ z ∧ z ≤ 1) → K z s) → sx_C sL sx d 116 [.inr (.inl 8), .inl t0] s K := by
  intro t0 s K hI p0 hK
  obtain ⟨d, rfl⟩ : ∃ e, d = e + 2 := ⟨d - 2, by omega⟩
  exact sx_meth (wr := true) (n := 400) hsL (e := eX9_isArrow) rfl (w_isArrow (Q := fun _ _ _ => False)  hI p0 hK)

theorem w_tyfrom {CALL : sx_Ca} {sL : Nat} {sx : Nat → Int32} {Q : Nat → sx_L → sx_S → Prop} {R : Int → sx_S → Prop} {s : sx_S} {t0 : Int} (hI : cx_I s) (p0 : (-2147483648 ≤ t0 ∧ t0 ≤ 2147483647)) (hK : ∀ z : Int, (-2147483648 ≤ z ∧ z ≤ 2147483647) → R z s) : sx_wp true sL sx eX9_from CALL [] Q R 400 0 (sx_argsF 0 [.inr (.inl 8), .inl t0]) [] s := by
  repeat' (first | (with_reducible intro _) | (refine And.intro ?_ ?_) | (refine hK _ ?_))
  all_goals (try dsimp only)
  repeat' (first | (with_reducible assumption) | ((with_reducible (change cx_I (sx_uf _ _ _ _, _))); refine cx_I_uf rfl ?_ ?_ ?_) | ((with_reducible (change cx_I (_, sx_ua _ _ _ _, _))); refine cx_I_ua rfl ?_ ?_ ?_) | (with_reducible exact cx_F_refl _ _) | ((with_reducible (change cx_F _ _ (sx_uf _ _ _ _, _))); refine cx_F_uf rfl ?_) | ((with_reducible (change cx_F _ _ (_, sx_ua _ _ _ _, _))); refine cx_F_ua rfl ?_) | ((with_reducible (change cx_I (_, sx_cpy _ _ _ _ _ _, _))); refine cx_I_cpy rfl rfl (by decide) ?_) | ((with_reducible (change cx_F _ _ (_, sx_cpy _ _ _ _ _ _, _))); refine cx_F_cpy rfl ?_) | ((with_reducible (change cx_F _ _ _)); refine cx_F_step (by assumption) rfl ?_))
  all_goals (first | trivial | omega | (dsimp only at *; omega) | (simp only [sx_uf_if, sx_ua_if, sx_w_t, true_and, and_true, and_self, and_false, false_and, if_true, if_false, reduceIte] at *; omega) | (subst_vars; rfl) | (subst_vars; decide))

theorem c_tyfrom {sL : Nat} {sx : Nat → Int32} (hsL : sL ≤ 3072) (d : Nat) (hd : 2 ≤ d) : ∀ (t0 : Int) (s : sx_S) (K : Int → sx_S → Prop), cx_I s → (-2147483648 ≤ t0 ∧ t0 ≤ 2147483647) → (∀ z : Int, (-2147483648 ≤ z ∧ z ≤ 2147483647) → K z s) → sx_C sL sx d 117 [.inr (.inl 8), .inl t0] s K := by
  intro t0 s K hI p0 hK
  obtain ⟨d, rfl⟩ : ∃ e, d = e + 2 := ⟨d - 2, by omega⟩
  exact sx_meth (wr := true) (n := 400) hsL (e := eX9_from) rfl (w_tyfrom (Q := fun _ _ _ => False)  hI p0 hK)

theorem w_tyto {CALL : sx_Ca} {sL : Nat} {sx : Nat → Int32} {Q : Nat → sx_L → sx_S → Prop} {R : Int → sx_S → Prop} {s : sx_S} {t0 : Int} (hI : cx_I s) (p0 : (-2147483648 ≤ t0 ∧ t0 ≤ 2147483647)) (hK : ∀ z : Int, (-2147483648 ≤ z ∧ z ≤ 2147483647) → R z s) : sx_wp true sL sx eX9_to CALL [] Q R 400 0 (sx_argsF 0 [.inr (.inl 8), .inl t0]) [] s := by
  repeat' (first | (with_reducible intro _) | (refine And.intro ?_ ?_) | (refine hK _ ?_))
  all_goals (try dsimp only)
  repeat' (first | (with_reducible assumption) | ((with_reducible (change cx_I (sx_uf _ _ _ _, _))); refine cx_I_uf rfl ?_ ?_ ?_) | ((with_reducible (change cx_I (_, sx_ua _ _ _ _, _))); refine cx_I_ua rfl ?_ ?_ ?_) | (with_reducible exact cx_F_refl _ _) | ((with_reducible (change cx_F _ _ (sx_uf _ _ _ _, _))); refine cx_F_uf rfl ?_) | ((with_reducible (change cx_F _ _ (_, sx_ua _ _ _ _, _))); refine cx_F_ua rfl ?_) | ((with_reducible (change cx_I (_, sx_cpy _ _ _ _ _ _, _))); refine cx_I_cpy rfl rfl (by decide) ?_) | ((with_reducible (change cx_F _ _ (_, sx_cpy _ _ _ _ _ _, _))); refine cx_F_cpy rfl ?_) | ((with_reducible (change cx_F _ _ _)); refine cx_F_step (by assumption) rfl ?_))
  all_goals (first | trivial | omega | (dsimp only at *; omega) | (simp only [sx_uf_if, sx_ua_if, sx_w_t, true_and, and_true, and_self, and_false, false_and, if_true, if_false, reduceIte] at *; omega) | (subst_vars; rfl) | (subst_vars; decide))

theorem c_tyto {sL : Nat} {sx : Nat → Int32} (hsL : sL ≤ 3072) (d : Nat) (hd : 2 ≤ d) : ∀ (t0 : Int) (s : sx_S) (K : Int → sx_S → Prop), cx_I s → (-2147483648 ≤ t0 ∧ t0 ≤ 2147483647) → (∀ z : Int, (-2147483648 ≤ z ∧ z ≤ 2147483647) → K z s) → sx_C sL sx d 118 [.inr (.inl 8), .inl t0] s K := by
  intro t0 s K hI p0 hK
  obtain ⟨d, rfl⟩ : ∃ e, d = e + 2 := ⟨d - 2, by omega⟩
  exact sx_meth (wr := true) (n := 400) hsL (e := eX9_to) rfl (w_tyto (Q := fun _ _ _ => False)  hI p0 hK)

theorem w_arrow {CALL : sx_Ca} {sL : Nat} {sx : Nat → Int32} {Q : Nat → sx_L → sx_S → Prop} {R : Int → sx_S → Prop} {s : sx_S} {t0 t1 : Int} (hI : cx_I s) (p0 : (-2147483648 ≤ t0 ∧ t0 ≤ 2147483647)) (p1 : (-2147483648 ≤ t1 ∧ t1 ≤ 2147483647)) (hK : ∀ (z : Int) (t : sx_S), cx_I t → cx_F [(8, 10)] s t → (-2147483648 ≤ z ∧ z ≤ 2147483647) → R z t) (hQ2 : ∀ (x1 x2 x3 : Int) (t : sx_S), cx_I t → cx_F [(8, 10)] s t → (-2147483648 ≤ x1 ∧ x1 ≤ 2147483647) → (-2147483648 ≤ x2 ∧ x2 ≤ 2147483647) → (2 ≤ x3 ∧ x3 ≤ 256) → Q 2 [(0, .inr (.inl 8)), (1, .inl x1), (2, .inl x2), (3, .inl x3)] t) : sx_wp true sL sx eX9_arrow CALL [(2, [0, 1, 2, 3])] Q R 400 0 (sx_argsF 0 [.inr (.inl 8), .inl t0, .inl t1]) [] s := by
  repeat' (first | (with_reducible intro _) | (refine And.intro ?_ ?_) | (refine hK _ _ ?_ ?_ ?_) | (refine hQ2 _ _ _ _ ?_ ?_ ?_ ?_ ?_))
  all_goals (try dsimp only)
  repeat' (first | (with_reducible assumption) | ((with_reducible (change cx_I (sx_uf _ _ _ _, _))); refine cx_I_uf rfl ?_ ?_ ?_) | ((with_reducible (change cx_I (_, sx_ua _ _ _ _, _))); refine cx_I_ua rfl ?_ ?_ ?_) | (with_reducible exact cx_F_refl _ _) | ((with_reducible (change cx_F _ _ (sx_uf _ _ _ _, _))); refine cx_F_uf rfl ?_) | ((with_reducible (change cx_F _ _ (_, sx_ua _ _ _ _, _))); refine cx_F_ua rfl ?_) | ((with_reducible (change cx_I (_, sx_cpy _ _ _ _ _ _, _))); refine cx_I_cpy rfl rfl (by decide) ?_) | ((with_reducible (change cx_F _ _ (_, sx_cpy _ _ _ _ _ _, _))); refine cx_F_cpy rfl ?_) | ((with_reducible (change cx_F _ _ _)); refine cx_F_step (by assumption) rfl ?_))
  all_goals (first | trivial | omega | (dsimp only at *; omega) | (simp only [sx_uf_if, sx_ua_if, sx_w_t, true_and, and_true, and_self, and_false, false_and, if_true, if_false, reduceIte] at *; omega) | (subst_vars; rfl) | (subst_vars; decide))

theorem w_arrow_2 {CALL : sx_Ca} {sL : Nat} {sx : Nat → Int32} {Q : Nat → sx_L → sx_S → Prop} {R : Int → sx_S → Prop} {s : sx_S} {t0 t1 : Int} (hI : cx_I s) (p0 : (-2147483648 ≤ t0 ∧ t0 ≤ 2147483647)) (p1 : (-2147483648 ≤ t1 ∧ t1 ≤ 2147483647)) (hK : ∀ (z : Int) (t : sx_S), cx_I t → cx_F [(8, 10)] s t → (-2147483648 ≤ z ∧ z ≤ 2147483647) → R z t) {t : sx_S} (hJ : cx_I t) (hF : cx_F [(8, 10)] s t) {x1 x2 x3 : Int} {mm : Nat} (hm : mm = 17179869184 + (2147483647 - x3).toNat) (i0 : (-2147483648 ≤ x1 ∧ x1 ≤ 2147483647)) (i1 : (-2147483648 ≤ x2 ∧ x2 ≤ 2147483647)) (i2 : (2 ≤ x3 ∧ x3 ≤ 256)) (hQ2 : ∀ (x1 x2 x3 : Int) (t : sx_S), cx_I t → cx_F [(8, 10)] s t → (-2147483648 ≤ x1 ∧ x1 ≤ 2147483647) → (-2147483648 ≤ x2 ∧ x2 ≤ 2147483647) → (2 ≤ x3 ∧ x3 ≤ 256) → (17179869184 + (2147483647 - x3).toNat < mm) → Q 2 [(0, .inr (.inl 8)), (1, .inl x1), (2, .inl x2), (3, .inl x3)] t) : sx_wp true sL sx eX9_arrow CALL [(2, [0, 1, 2, 3])] Q R 400 2 [(0, .inr (.inl 8)), (1, .inl x1), (2, .inl x2), (3, .inl x3)] [] t := by
  repeat' (first | (with_reducible intro _) | (refine And.intro ?_ ?_) | (refine hK _ _ ?_ ?_ ?_) | (refine hQ2 _ _ _ _ ?_ ?_ ?_ ?_ ?_ ?_))
  all_goals (try dsimp only)
  repeat' (first | (with_reducible assumption) | ((with_reducible (change cx_I (sx_uf _ _ _ _, _))); refine cx_I_uf rfl ?_ ?_ ?_) | ((with_reducible (change cx_I (_, sx_ua _ _ _ _, _))); refine cx_I_ua rfl ?_ ?_ ?_) | (with_reducible exact cx_F_refl _ _) | ((with_reducible (change cx_F _ _ (sx_uf _ _ _ _, _))); refine cx_F_uf rfl ?_) | ((with_reducible (change cx_F _ _ (_, sx_ua _ _ _ _, _))); refine cx_F_ua rfl ?_) | ((with_reducible (change cx_I (_, sx_cpy _ _ _ _ _ _, _))); refine cx_I_cpy rfl rfl (by decide) ?_) | ((with_reducible (change cx_F _ _ (_, sx_cpy _ _ _ _ _ _, _))); refine cx_F_cpy rfl ?_) | ((with_reducible (change cx_F _ _ _)); refine cx_F_step (by assumption) rfl ?_))
  all_goals (first | trivial | omega | (dsimp only at *; omega) | (simp only [sx_uf_if, sx_ua_if, sx_w_t, true_and, and_true, and_self, and_false, false_and, if_true, if_false, reduceIte] at *; omega) | (subst_vars; rfl) | (subst_vars; decide))

theorem c_arrow {sL : Nat} {sx : Nat → Int32} (hsL : sL ≤ 3072) (d : Nat) (hd : 2 ≤ d) : ∀ (t0 t1 : Int) (s : sx_S) (K : Int → sx_S → Prop), cx_I s → (-2147483648 ≤ t0 ∧ t0 ≤ 2147483647) → (-2147483648 ≤ t1 ∧ t1 ≤ 2147483647) → (∀ (z : Int) (t : sx_S), cx_I t → cx_F [(8, 10)] s t → (-2147483648 ≤ z ∧ z ≤ 2147483647) → K z t) → sx_C sL sx d 119 [.inr (.inl 8), .inl t0, .inl t1] s K := by
  intro t0 t1 s K hI p0 p1 hK
  obtain ⟨d, rfl⟩ : ∃ e, d = e + 2 := ⟨d - 2, by omega⟩
  refine sx_methL (wr := true) (n := 400) (n' := 400) (stop := [(2, [0, 1, 2, 3])]) (fun n pc ls u => (pc = 2 ∧ ∃ (x1 x2 x3 : Int), ls = [(0, .inr (.inl 8)), (1, .inl x1), (2, .inl x2), (3, .inl x3)] ∧ cx_I u ∧ cx_F [(8, 10)] s u ∧ (-2147483648 ≤ x1 ∧ x1 ≤ 2147483647) ∧ (-2147483648 ≤ x2 ∧ x2 ≤ 2147483647) ∧ (2 ≤ x3 ∧ x3 ≤ 256) ∧ n = 17179869184 + (2147483647 - x3).toNat)) hsL (e := eX9_arrow) rfl ?_ ?_
  · exact w_arrow  hI p0 p1 hK (fun x1 x2 x3 u j1 j2 i0 i1 i2 => ⟨_, ⟨rfl, x1, x2, x3, rfl, j1, j2, i0, i1, i2, rfl⟩⟩)
  · rintro n pc ls u (⟨rfl, x1, x2, x3, rfl, j1, j2, i0, i1, i2, rfl⟩)
    · exact w_arrow_2  hI p0 p1 hK j1 j2 rfl i0 i1 i2 (fun x1 x2 x3 u j1 j2 i0 i1 i2 hm => ⟨_, hm, ⟨rfl, x1, x2, x3, rfl, j1, j2, i0, i1, i2, rfl⟩⟩)
