section
/-! ===== the desk's terms: what is read, what is made, exactly ===== -/
theorem w_dz_kind {CALL : sx_Ca} {sL : Nat} {sx : Nat → Int32} {Q : Nat → sx_L → sx_S → Prop} {R : Int → sx_S → Prop} {s : sx_S} {a0 : Int} (hI : cx_I s) (p0 : (-2147483648 ≤ a0 ∧ a0 ≤ 2147483647)) (hK : ∀ z : Int, (0 ≤ a0 → a0 < s.1 11 6 → z = s.2.1 12 a0.toNat) → (a0 < 0 → z = -1) → R z s) : sx_wp true sL sx eX7_kind CALL [] Q R 400 0 (sx_argsF 0 [.inr (.inl 11), .inl a0]) [] s := by
  repeat' (first | (with_reducible (rintro _ rfl)) | (with_reducible intro _) | (refine And.intro ?_ ?_) | (refine hK _ ?_ ?_))
  all_goals (try dsimp only)
  repeat' (first | (with_reducible assumption) | ((with_reducible (change cx_I (sx_uf _ _ _ _, _))); refine cx_I_uf rfl rfl ?_ ?_ ?_) | ((with_reducible (change cx_I (_, sx_ua _ _ _ _, _))); refine cx_I_ua rfl rfl ?_ ?_ ?_) | ((with_reducible (change cx_I (_, sx_ua _ 16 _ _, _))); refine cx_I_ari ?_ ?_ ?_) | ((with_reducible (change cx_I (sx_uf _ 11 6 _, _))); refine cx_I_ufA rfl ?_ ?_ ?_ ?_) | (with_reducible exact cx_F_refl _ _) | ((with_reducible (change cx_F _ _ (sx_uf _ _ _ _, _))); refine cx_F_uf rfl ?_) | ((with_reducible (change cx_F _ _ (_, sx_ua _ _ _ _, _))); refine cx_F_ua rfl ?_) | ((with_reducible (change cx_I (_, sx_cpy _ _ _ _ _ _, _))); refine cx_I_cpy rfl rfl rfl (by decide) ?_) | ((with_reducible (change cx_F _ _ (_, sx_cpy _ _ _ _ _ _, _))); refine cx_F_cpy rfl ?_) | ((with_reducible (change cx_F _ _ _)); refine cx_F_step (by assumption) rfl ?_) | fail)
  all_goals (try dsimp only at *)
  all_goals (first | trivial | omega | rfl | (intros; omega) | (intros; rfl) | skip)

theorem c_dz_kind {sL : Nat} {sx : Nat → Int32} (hsL : sL ≤ 3072) (d : Nat) (hd : 2 ≤ d) : ∀ (a0 : Int) (s : sx_S) (K : Int → sx_S → Prop), cx_I s → (-2147483648 ≤ a0 ∧ a0 ≤ 2147483647) → (∀ z : Int, (0 ≤ a0 → a0 < s.1 11 6 → z = s.2.1 12 a0.toNat) → (a0 < 0 → z = -1) → K z s) → sx_C sL sx d 91 [.inr (.inl 11), .inl a0] s K := by
  intro a0 s K hI p0 hK
  obtain ⟨d, rfl⟩ : ∃ e, d = e + 2 := ⟨d - 2, by omega⟩
  exact sx_meth (wr := true) (n := 400) hsL (e := eX7_kind) rfl (w_dz_kind (Q := fun _ _ _ => False)  hI p0 hK)

theorem w_dz_head {CALL : sx_Ca} {sL : Nat} {sx : Nat → Int32} {Q : Nat → sx_L → sx_S → Prop} {R : Int → sx_S → Prop} {s : sx_S} {a0 : Int} (hI : cx_I s) (p0 : (-2147483648 ≤ a0 ∧ a0 ≤ 2147483647)) (hK : ∀ z : Int, (0 ≤ a0 → a0 < s.1 11 6 → z = s.2.1 13 a0.toNat) → (a0 < 0 → z = -1) → R z s) : sx_wp true sL sx eX7_head CALL [] Q R 400 0 (sx_argsF 0 [.inr (.inl 11), .inl a0]) [] s := by
  repeat' (first | (with_reducible (rintro _ rfl)) | (with_reducible intro _) | (refine And.intro ?_ ?_) | (refine hK _ ?_ ?_))
  all_goals (try dsimp only)
  repeat' (first | (with_reducible assumption) | ((with_reducible (change cx_I (sx_uf _ _ _ _, _))); refine cx_I_uf rfl rfl ?_ ?_ ?_) | ((with_reducible (change cx_I (_, sx_ua _ _ _ _, _))); refine cx_I_ua rfl rfl ?_ ?_ ?_) | ((with_reducible (change cx_I (_, sx_ua _ 16 _ _, _))); refine cx_I_ari ?_ ?_ ?_) | ((with_reducible (change cx_I (sx_uf _ 11 6 _, _))); refine cx_I_ufA rfl ?_ ?_ ?_ ?_) | (with_reducible exact cx_F_refl _ _) | ((with_reducible (change cx_F _ _ (sx_uf _ _ _ _, _))); refine cx_F_uf rfl ?_) | ((with_reducible (change cx_F _ _ (_, sx_ua _ _ _ _, _))); refine cx_F_ua rfl ?_) | ((with_reducible (change cx_I (_, sx_cpy _ _ _ _ _ _, _))); refine cx_I_cpy rfl rfl rfl (by decide) ?_) | ((with_reducible (change cx_F _ _ (_, sx_cpy _ _ _ _ _ _, _))); refine cx_F_cpy rfl ?_) | ((with_reducible (change cx_F _ _ _)); refine cx_F_step (by assumption) rfl ?_) | fail)
  all_goals (try dsimp only at *)
  all_goals (first | trivial | omega | rfl | (intros; omega) | (intros; rfl) | skip)

theorem c_dz_head {sL : Nat} {sx : Nat → Int32} (hsL : sL ≤ 3072) (d : Nat) (hd : 2 ≤ d) : ∀ (a0 : Int) (s : sx_S) (K : Int → sx_S → Prop), cx_I s → (-2147483648 ≤ a0 ∧ a0 ≤ 2147483647) → (∀ z : Int, (0 ≤ a0 → a0 < s.1 11 6 → z = s.2.1 13 a0.toNat) → (a0 < 0 → z = -1) → K z s) → sx_C sL sx d 92 [.inr (.inl 11), .inl a0] s K := by
  intro a0 s K hI p0 hK
  obtain ⟨d, rfl⟩ : ∃ e, d = e + 2 := ⟨d - 2, by omega⟩
  exact sx_meth (wr := true) (n := 400) hsL (e := eX7_head) rfl (w_dz_head (Q := fun _ _ _ => False)  hI p0 hK)

theorem w_dz_body {CALL : sx_Ca} {sL : Nat} {sx : Nat → Int32} {Q : Nat → sx_L → sx_S → Prop} {R : Int → sx_S → Prop} {s : sx_S} {a0 : Int} (hI : cx_I s) (p0 : (-2147483648 ≤ a0 ∧ a0 ≤ 2147483647)) (hK : ∀ z : Int, (0 ≤ a0 → a0 < s.1 11 6 → z = s.2.1 14 a0.toNat) → (a0 < 0 → z = -1) → R z s) : sx_wp true sL sx eX7_body CALL [] Q R 400 0 (sx_argsF 0 [.inr (.inl 11), .inl a0]) [] s := by
  repeat' (first | (with_reducible (rintro _ rfl)) | (with_reducible intro _) | (refine And.intro ?_ ?_) | (refine hK _ ?_ ?_))
  all_goals (try dsimp only)
  repeat' (first | (with_reducible assumption) | ((with_reducible (change cx_I (sx_uf _ _ _ _, _))); refine cx_I_uf rfl rfl ?_ ?_ ?_) | ((with_reducible (change cx_I (_, sx_ua _ _ _ _, _))); refine cx_I_ua rfl rfl ?_ ?_ ?_) | ((with_reducible (change cx_I (_, sx_ua _ 16 _ _, _))); refine cx_I_ari ?_ ?_ ?_) | ((with_reducible (change cx_I (sx_uf _ 11 6 _, _))); refine cx_I_ufA rfl ?_ ?_ ?_ ?_) | (with_reducible exact cx_F_refl _ _) | ((with_reducible (change cx_F _ _ (sx_uf _ _ _ _, _))); refine cx_F_uf rfl ?_) | ((with_reducible (change cx_F _ _ (_, sx_ua _ _ _ _, _))); refine cx_F_ua rfl ?_) | ((with_reducible (change cx_I (_, sx_cpy _ _ _ _ _ _, _))); refine cx_I_cpy rfl rfl rfl (by decide) ?_) | ((with_reducible (change cx_F _ _ (_, sx_cpy _ _ _ _ _ _, _))); refine cx_F_cpy rfl ?_) | ((with_reducible (change cx_F _ _ _)); refine cx_F_step (by assumption) rfl ?_) | fail)
  all_goals (try dsimp only at *)
  all_goals (first | trivial | omega | rfl | (intros; omega) | (intros; rfl) | skip)

theorem c_dz_body {sL : Nat} {sx : Nat → Int32} (hsL : sL ≤ 3072) (d : Nat) (hd : 2 ≤ d) : ∀ (a0 : Int) (s : sx_S) (K : Int → sx_S → Prop), cx_I s → (-2147483648 ≤ a0 ∧ a0 ≤ 2147483647) → (∀ z : Int, (0 ≤ a0 → a0 < s.1 11 6 → z = s.2.1 14 a0.toNat) → (a0 < 0 → z = -1) → K z s) → sx_C sL sx d 93 [.inr (.inl 11), .inl a0] s K := by
  intro a0 s K hI p0 hK
  obtain ⟨d, rfl⟩ : ∃ e, d = e + 2 := ⟨d - 2, by omega⟩
  exact sx_meth (wr := true) (n := 400) hsL (e := eX7_body) rfl (w_dz_body (Q := fun _ _ _ => False)  hI p0 hK)

theorem w_dz_arity {CALL : sx_Ca} {sL : Nat} {sx : Nat → Int32} {Q : Nat → sx_L → sx_S → Prop} {R : Int → sx_S → Prop} {s : sx_S} {a0 : Int} (hI : cx_I s) (p0 : (-2147483648 ≤ a0 ∧ a0 ≤ 2147483647)) (hK : ∀ z : Int, (0 ≤ a0 → a0 < s.1 11 6 → z = s.2.1 16 a0.toNat) → (a0 < 0 → z = 0) → R z s) : sx_wp true sL sx eX7_arity CALL [] Q R 400 0 (sx_argsF 0 [.inr (.inl 11), .inl a0]) [] s := by
  repeat' (first | (with_reducible (rintro _ rfl)) | (with_reducible intro _) | (refine And.intro ?_ ?_) | (refine hK _ ?_ ?_))
  all_goals (try dsimp only)
  repeat' (first | (with_reducible assumption) | ((with_reducible (change cx_I (sx_uf _ _ _ _, _))); refine cx_I_uf rfl rfl ?_ ?_ ?_) | ((with_reducible (change cx_I (_, sx_ua _ _ _ _, _))); refine cx_I_ua rfl rfl ?_ ?_ ?_) | ((with_reducible (change cx_I (_, sx_ua _ 16 _ _, _))); refine cx_I_ari ?_ ?_ ?_) | ((with_reducible (change cx_I (sx_uf _ 11 6 _, _))); refine cx_I_ufA rfl ?_ ?_ ?_ ?_) | (with_reducible exact cx_F_refl _ _) | ((with_reducible (change cx_F _ _ (sx_uf _ _ _ _, _))); refine cx_F_uf rfl ?_) | ((with_reducible (change cx_F _ _ (_, sx_ua _ _ _ _, _))); refine cx_F_ua rfl ?_) | ((with_reducible (change cx_I (_, sx_cpy _ _ _ _ _ _, _))); refine cx_I_cpy rfl rfl rfl (by decide) ?_) | ((with_reducible (change cx_F _ _ (_, sx_cpy _ _ _ _ _ _, _))); refine cx_F_cpy rfl ?_) | ((with_reducible (change cx_F _ _ _)); refine cx_F_step (by assumption) rfl ?_) | fail)
  all_goals (try dsimp only at *)
  all_goals (first | trivial | omega | rfl | (intros; omega) | (intros; rfl) | skip)

theorem c_dz_arity {sL : Nat} {sx : Nat → Int32} (hsL : sL ≤ 3072) (d : Nat) (hd : 2 ≤ d) : ∀ (a0 : Int) (s : sx_S) (K : Int → sx_S → Prop), cx_I s → (-2147483648 ≤ a0 ∧ a0 ≤ 2147483647) → (∀ z : Int, (0 ≤ a0 → a0 < s.1 11 6 → z = s.2.1 16 a0.toNat) → (a0 < 0 → z = 0) → K z s) → sx_C sL sx d 94 [.inr (.inl 11), .inl a0] s K := by
  intro a0 s K hI p0 hK
  obtain ⟨d, rfl⟩ : ∃ e, d = e + 2 := ⟨d - 2, by omega⟩
  exact sx_meth (wr := true) (n := 400) hsL (e := eX7_arity) rfl (w_dz_arity (Q := fun _ _ _ => False)  hI p0 hK)

theorem w_dz_vt {CALL : sx_Ca} {sL : Nat} {sx : Nat → Int32} {Q : Nat → sx_L → sx_S → Prop} {R : Int → sx_S → Prop} {s : sx_S} {a0 : Int} (hI : cx_I s) (p0 : (-2147483648 ≤ a0 ∧ a0 ≤ 2147483647)) (hK : ∀ z : Int, (0 ≤ a0 → a0 < s.1 11 8 → z = s.2.1 17 a0.toNat) → R z s) : sx_wp true sL sx eX7_variableType CALL [] Q R 400 0 (sx_argsF 0 [.inr (.inl 11), .inl a0]) [] s := by
  repeat' (first | (with_reducible (rintro _ rfl)) | (with_reducible intro _) | (refine And.intro ?_ ?_) | (refine hK _ ?_))
  all_goals (try dsimp only)
  repeat' (first | (with_reducible assumption) | ((with_reducible (change cx_I (sx_uf _ _ _ _, _))); refine cx_I_uf rfl rfl ?_ ?_ ?_) | ((with_reducible (change cx_I (_, sx_ua _ _ _ _, _))); refine cx_I_ua rfl rfl ?_ ?_ ?_) | ((with_reducible (change cx_I (_, sx_ua _ 16 _ _, _))); refine cx_I_ari ?_ ?_ ?_) | ((with_reducible (change cx_I (sx_uf _ 11 6 _, _))); refine cx_I_ufA rfl ?_ ?_ ?_ ?_) | (with_reducible exact cx_F_refl _ _) | ((with_reducible (change cx_F _ _ (sx_uf _ _ _ _, _))); refine cx_F_uf rfl ?_) | ((with_reducible (change cx_F _ _ (_, sx_ua _ _ _ _, _))); refine cx_F_ua rfl ?_) | ((with_reducible (change cx_I (_, sx_cpy _ _ _ _ _ _, _))); refine cx_I_cpy rfl rfl rfl (by decide) ?_) | ((with_reducible (change cx_F _ _ (_, sx_cpy _ _ _ _ _ _, _))); refine cx_F_cpy rfl ?_) | ((with_reducible (change cx_F _ _ _)); refine cx_F_step (by assumption) rfl ?_) | fail)
  all_goals (try dsimp only at *)
  all_goals (first | trivial | omega | rfl | (intros; omega) | (intros; rfl) | skip)

theorem c_dz_vt {sL : Nat} {sx : Nat → Int32} (hsL : sL ≤ 3072) (d : Nat) (hd : 2 ≤ d) : ∀ (a0 : Int) (s : sx_S) (K : Int → sx_S → Prop), cx_I s → (-2147483648 ≤ a0 ∧ a0 ≤ 2147483647) → (∀ z : Int, (0 ≤ a0 → a0 < s.1 11 8 → z = s.2.1 17 a0.toNat) → K z s) → sx_C sL sx d 87 [.inr (.inl 11), .inl a0] s K := by
  intro a0 s K hI p0 hK
  obtain ⟨d, rfl⟩ : ∃ e, d = e + 2 := ⟨d - 2, by omega⟩
  exact sx_meth (wr := true) (n := 400) hsL (e := eX7_variableType) rfl (w_dz_vt (Q := fun _ _ _ => False)  hI p0 hK)

theorem w_dz_isA {CALL : sx_Ca} {sL : Nat} {sx : Nat → Int32} {Q : Nat → sx_L → sx_S → Prop} {R : Int → sx_S → Prop} {s : sx_S} {a0 : Int} (hI : cx_I s) (p0 : (-2147483648 ≤ a0 ∧ a0 ≤ 2147483647)) (hK : ∀ z : Int, (0 ≤ z ∧ z ≤ 1) → (z ≠ 0 → 2 ≤ a0 ∧ a0 < s.1 8 2) → (z = 0 → a0 < 2 ∨ s.1 8 2 ≤ a0) → R z s) : sx_wp true sL sx eX9_isArrow CALL [] Q R 400 0 (sx_argsF 0 [.inr (.inl 8), .inl a0]) [] s := by
  repeat' (first | (with_reducible (rintro _ rfl)) | (with_reducible intro _) | (refine And.intro ?_ ?_) | (refine hK _ ?_ ?_ ?_))
  all_goals (try dsimp only)
  repeat' (first | (with_reducible assumption) | ((with_reducible (change cx_I (sx_uf _ _ _ _, _))); refine cx_I_uf rfl rfl ?_ ?_ ?_) | ((with_reducible (change cx_I (_, sx_ua _ _ _ _, _))); refine cx_I_ua rfl rfl ?_ ?_ ?_) | ((with_reducible (change cx_I (_, sx_ua _ 16 _ _, _))); refine cx_I_ari ?_ ?_ ?_) | ((with_reducible (change cx_I (sx_uf _ 11 6 _, _))); refine cx_I_ufA rfl ?_ ?_ ?_ ?_) | (with_reducible exact cx_F_refl _ _) | ((with_reducible (change cx_F _ _ (sx_uf _ _ _ _, _))); refine cx_F_uf rfl ?_) | ((with_reducible (change cx_F _ _ (_, sx_ua _ _ _ _, _))); refine cx_F_ua rfl ?_) | ((with_reducible (change cx_I (_, sx_cpy _ _ _ _ _ _, _))); refine cx_I_cpy rfl rfl rfl (by decide) ?_) | ((with_reducible (change cx_F _ _ (_, sx_cpy _ _ _ _ _ _, _))); refine cx_F_cpy rfl ?_) | ((with_reducible (change cx_F _ _ _)); refine cx_F_step (by assumption) rfl ?_) | fail)
  all_goals (try dsimp only at *)
  all_goals (first | trivial | omega | rfl | (intros; omega) | (intros; rfl) | skip)

theorem c_dz_isA {sL : Nat} {sx : Nat → Int32} (hsL : sL ≤ 3072) (d : Nat) (hd : 2 ≤ d) : ∀ (a0 : Int) (s : sx_S) (K : Int → sx_S → Prop), cx_I s → (-2147483648 ≤ a0 ∧ a0 ≤ 2147483647) → (∀ z : Int, (0 ≤ z ∧ z ≤ 1) → (z ≠ 0 → 2 ≤ a0 ∧ a0 < s.1 8 2) → (z = 0 → a0 < 2 ∨ s.1 8 2 ≤ a0) → K z s) → sx_C sL sx d 116 [.inr (.inl 8), .inl a0] s K := by
  intro a0 s K hI p0 hK
  obtain ⟨d, rfl⟩ : ∃ e, d = e + 2 := ⟨d - 2, by omega⟩
  exact sx_meth (wr := true) (n := 400) hsL (e := eX9_isArrow) rfl (w_dz_isA (Q := fun _ _ _ => False)  hI p0 hK)

theorem w_dz_from {CALL : sx_Ca} {sL : Nat} {sx : Nat → Int32} {Q : Nat → sx_L → sx_S → Prop} {R : Int → sx_S → Prop} {s : sx_S} {a0 : Int} (hI : cx_I s) (p0 : (-2147483648 ≤ a0 ∧ a0 ≤ 2147483647)) (hK : ∀ z : Int, (2 ≤ a0 → a0 < s.1 8 2 → z = s.2.1 9 a0.toNat) → (a0 < 2 ∨ s.1 8 2 ≤ a0 → z = -1) → R z s) : sx_wp true sL sx eX9_from CALL [] Q R 400 0 (sx_argsF 0 [.inr (.inl 8), .inl a0]) [] s := by
  repeat' (first | (with_reducible (rintro _ rfl)) | (with_reducible intro _) | (refine And.intro ?_ ?_) | (refine hK _ ?_ ?_))
  all_goals (try dsimp only)
  repeat' (first | (with_reducible assumption) | ((with_reducible (change cx_I (sx_uf _ _ _ _, _))); refine cx_I_uf rfl rfl ?_ ?_ ?_) | ((with_reducible (change cx_I (_, sx_ua _ _ _ _, _))); refine cx_I_ua rfl rfl ?_ ?_ ?_) | ((with_reducible (change cx_I (_, sx_ua _ 16 _ _, _))); refine cx_I_ari ?_ ?_ ?_) | ((with_reducible (change cx_I (sx_uf _ 11 6 _, _))); refine cx_I_ufA rfl ?_ ?_ ?_ ?_) | (with_reducible exact cx_F_refl _ _) | ((with_reducible (change cx_F _ _ (sx_uf _ _ _ _, _))); refine cx_F_uf rfl ?_) | ((with_reducible (change cx_F _ _ (_, sx_ua _ _ _ _, _))); refine cx_F_ua rfl ?_) | ((with_reducible (change cx_I (_, sx_cpy _ _ _ _ _ _, _))); refine cx_I_cpy rfl rfl rfl (by decide) ?_) | ((with_reducible (change cx_F _ _ (_, sx_cpy _ _ _ _ _ _, _))); refine cx_F_cpy rfl ?_) | ((with_reducible (change cx_F _ _ _)); refine cx_F_step (by assumption) rfl ?_) | fail)
  all_goals (try dsimp only at *)
  all_goals (first | trivial | omega | rfl | (intros; omega) | (intros; rfl) | skip)

theorem c_dz_from {sL : Nat} {sx : Nat → Int32} (hsL : sL ≤ 3072) (d : Nat) (hd : 2 ≤ d) : ∀ (a0 : Int) (s : sx_S) (K : Int → sx_S → Prop), cx_I s → (-2147483648 ≤ a0 ∧ a0 ≤ 2147483647) → (∀ z : Int, (2 ≤ a0 → a0 < s.1 8 2 → z = s.2.1 9 a0.toNat) → (a0 < 2 ∨ s.1 8 2 ≤ a0 → z = -1) → K z s) → sx_C sL sx d 117 [.inr (.inl 8), .inl a0] s K := by
  intro a0 s K hI p0 hK
  obtain ⟨d, rfl⟩ : ∃ e, d = e + 2 := ⟨d - 2, by omega⟩
  exact sx_meth (wr := true) (n := 400) hsL (e := eX9_from) rfl (w_dz_from (Q := fun _ _ _ => False)  hI p0 hK)

theorem w_dz_to {CALL : sx_Ca} {sL : Nat} {sx : Nat → Int32} {Q : Nat → sx_L → sx_S → Prop} {R : Int → sx_S → Prop} {s : sx_S} {a0 : Int} (hI : cx_I s) (p0 : (-2147483648 ≤ a0 ∧ a0 ≤ 2147483647)) (hK : ∀ z : Int, (2 ≤ a0 → a0 < s.1 8 2 → z = s.2.1 10 a0.toNat) → (a0 < 2 ∨ s.1 8 2 ≤ a0 → z = -1) → R z s) : sx_wp true sL sx eX9_to CALL [] Q R 400 0 (sx_argsF 0 [.inr (.inl 8), .inl a0]) [] s := by
  repeat' (first | (with_reducible (rintro _ rfl)) | (with_reducible intro _) | (refine And.intro ?_ ?_) | (refine hK _ ?_ ?_))
  all_goals (try dsimp only)
  repeat' (first | (with_reducible assumption) | ((with_reducible (change cx_I (sx_uf _ _ _ _, _))); refine cx_I_uf rfl rfl ?_ ?_ ?_) | ((with_reducible (change cx_I (_, sx_ua _ _ _ _, _))); refine cx_I_ua rfl rfl ?_ ?_ ?_) | ((with_reducible (change cx_I (_, sx_ua _ 16 _ _, _))); refine cx_I_ari ?_ ?_ ?_) | ((with_reducible (change cx_I (sx_uf _ 11 6 _, _))); refine cx_I_ufA rfl ?_ ?_ ?_ ?_) | (with_reducible exact cx_F_refl _ _) | ((with_reducible (change cx_F _ _ (sx_uf _ _ _ _, _))); refine cx_F_uf rfl ?_) | ((with_reducible (change cx_F _ _ (_, sx_ua _ _ _ _, _))); refine cx_F_ua rfl ?_) | ((with_reducible (change cx_I (_, sx_cpy _ _ _ _ _ _, _))); refine cx_I_cpy rfl rfl rfl (by decide) ?_) | ((with_reducible (change cx_F _ _ (_, sx_cpy _ _ _ _ _ _, _))); refine cx_F_cpy rfl ?_) | ((with_reducible (change cx_F _ _ _)); refine cx_F_step (by assumption) rfl ?_) | fail)
  all_goals (try dsimp only at *)
  all_goals (first | trivial | omega | rfl | (intros; omega) | (intros; rfl) | skip)

theorem c_dz_to {sL : Nat} {sx : Nat → Int32} (hsL : sL ≤ 3072) (d : Nat) (hd : 2 ≤ d) : ∀ (a0 : Int) (s : sx_S) (K : Int → sx_S → Prop), cx_I s → (-2147483648 ≤ a0 ∧ a0 ≤ 2147483647) → (∀ z : Int, (2 ≤ a0 → a0 < s.1 8 2 → z = s.2.1 10 a0.toNat) → (a0 < 2 ∨ s.1 8 2 ≤ a0 → z = -1) → K z s) → sx_C sL sx d 118 [.inr (.inl 8), .inl a0] s K := by
  intro a0 s K hI p0 hK
  obtain ⟨d, rfl⟩ : ∃ e, d = e + 2 := ⟨d - 2, by omega⟩
  exact sx_meth (wr := true) (n := 400) hsL (e := eX9_to) rfl (w_dz_to (Q := fun _ _ _ => False)  hI p0 hK)

/-- a new node: kind k, head h, first part f -/
def dz_N1 (k h f : Int) (s t : sx_S) : Prop := True → t.1 11 6 = s.1 11 6 + 1 ∧ t.1 11 8 = s.1 11 8 ∧ t.2.1 17 = s.2.1 17 ∧ (∀ j : Nat, (j : Int) ≠ s.1 11 6 → t.2.1 12 j = s.2.1 12 j ∧ t.2.1 13 j = s.2.1 13 j ∧ t.2.1 14 j = s.2.1 14 j ∧ t.2.1 15 j = s.2.1 15 j ∧ t.2.1 16 j = s.2.1 16 j) ∧ (t.2.1 12 (s.1 11 6).toNat = k ∧ t.2.1 13 (s.1 11 6).toNat = h ∧ t.2.1 14 (s.1 11 6).toNat = f ∧ t.2.1 15 (s.1 11 6).toNat = -1 ∧ t.2.1 16 (s.1 11 6).toNat = 0)
theorem dz_cI {F A : Nat → Nat → Int} {B : (Nat → Nat → Int) × Nat} (h : cx_I (F, A, B)) (h2 : F 11 6 + 1 ≤ 1024) (h3 : A 16 (F 11 6).toNat ≤ 0) : cx_I (sx_uf F 11 6 (F 11 6 + 1), A, B) := by
  have h0 := (h.fld 11 6 (by decide) rfl).1
  dsimp only at h0
  refine cx_I_ufA (p := 11) (k := 6) rfl h (by omega) h2 (fun j hj => ?_)
  rw [px_us] at hj ⊢
  show A 16 j ≤ F 11 6 + 1
  by_cases hq : (j : Int) = F 11 6
  · have hj2 : j = (F 11 6).toNat := by omega
    rw [hj2]
    omega
  · have hj3 : (j : Int) < F 11 6 := by omega
    have := h.ar j hj3
    dsimp only at this
    omega
theorem dz_mkI {s : sx_S} {k h : Int} (hI : cx_I s) (hN : s.1 11 6 < 1024) (hk : -2147483648 ≤ k ∧ k ≤ 2147483647) (hh : -2147483648 ≤ h ∧ h ≤ 2147483647) : cx_I (sx_uf s.1 11 6 (s.1 11 6 + 1), sx_ua (sx_ua (sx_ua (sx_ua (sx_ua s.2.1 12 (s.1 11 6).toNat k) 13 (s.1 11 6).toNat h) 14 (s.1 11 6).toNat (-1)) 15 (s.1 11 6).toNat (-1)) 16 (s.1 11 6).toNat 0, s.2.2) ∧ cx_F [(11, 17)] s (sx_uf s.1 11 6 (s.1 11 6 + 1), sx_ua (sx_ua (sx_ua (sx_ua (sx_ua s.2.1 12 (s.1 11 6).toNat k) 13 (s.1 11 6).toNat h) 14 (s.1 11 6).toNat (-1)) 15 (s.1 11 6).toNat (-1)) 16 (s.1 11 6).toNat 0, s.2.2) ∧ dz_N1 k h (-1) s (sx_uf s.1 11 6 (s.1 11 6 + 1), sx_ua (sx_ua (sx_ua (sx_ua (sx_ua s.2.1 12 (s.1 11 6).toNat k) 13 (s.1 11 6).toNat h) 14 (s.1 11 6).toNat (-1)) 15 (s.1 11 6).toNat (-1)) 16 (s.1 11 6).toNat 0, s.2.2) := by
  have h0 := hI.fld 11 6 (by decide) rfl
  refine ⟨dz_cI (F := s.1) (cx_I_ari (cx_I_ua rfl rfl (cx_I_ua rfl rfl (cx_I_ua rfl rfl (cx_I_ua rfl rfl hI (by omega) (by omega)) (by omega) (by omega)) (by omega) (by omega)) (by omega) (by omega)) (by omega) (by omega)) (by omega) ?_, cx_F_uf rfl (cx_F_ua rfl (cx_F_ua rfl (cx_F_ua rfl (cx_F_ua rfl (cx_F_ua rfl (cx_F_refl _ _)))))), fun _ => ⟨by dsimp only; exact px_us _ _ _ _, rfl, rfl, fun j hj => ?_, ?_⟩⟩
  · simp only [sx_ua_if, and_self, if_true]
    exact Int.le_refl _
  · have hj2 : j ≠ (s.1 11 6).toNat := by omega
    simp [sx_ua_if, hj2]
  · simp [sx_ua_if]
theorem w_dz_node {CALL : sx_Ca} {sL : Nat} {sx : Nat → Int32} {Q : Nat → sx_L → sx_S → Prop} {R : Int → sx_S → Prop} {s : sx_S} {a0 a1 : Int} (hI : cx_I s) (hN : s.1 11 6 < 1024) (p0 : -2147483648 ≤ a0 ∧ a0 ≤ 2147483647) (p1 : -2147483648 ≤ a1 ∧ a1 ≤ 2147483647) (hK : ∀ t, cx_I t → cx_F [(11, 17)] s t → dz_N1 a0 a1 (-1) s t → R (s.1 11 6) t) : sx_wp true sL sx eX7_node CALL [] Q R 400 0 (sx_argsF 0 [.inr (.inl 11), .inl a0, .inl a1]) [] s := by
  have h0 := hI.fld 11 6 (by decide) rfl
  obtain ⟨m1, m2, m3⟩ := dz_mkI (k := a0) (h := a1) hI hN p0 p1
  have zz1 := hK _ m1 m2 m3
  have zzu : sx_w true (s.1 11 6 + 1) = s.1 11 6 + 1 := px_wid (by omega) (by omega)
  have zzv : sx_w true (s.1 11 6 + 1 - 1) = s.1 11 6 := by rw [px_wid (by omega) (by omega)]; omega
  repeat' (first | (with_reducible (rintro _ rfl)) | (with_reducible intro _) | (refine And.intro ?_ ?_))
  all_goals (try dsimp only at *)
  all_goals (first | trivial | assumption | omega | (exfalso; omega) | (show R _ _; simp only [px_us, zzu, zzv]; exact zz1) | (simp only [px_us, zzu, zzv] at *; first | assumption | omega) | (repeat' (first | (with_reducible assumption) | ((with_reducible (change cx_I (sx_uf _ _ _ _, _))); refine cx_I_uf rfl rfl ?_ ?_ ?_) | ((with_reducible (change cx_I (_, sx_ua _ _ _ _, _))); refine cx_I_ua rfl rfl ?_ ?_ ?_) | ((with_reducible (change cx_I (_, sx_ua _ 16 _ _, _))); refine cx_I_ari ?_ ?_ ?_) | ((with_reducible (change cx_I (sx_uf _ 11 6 _, _))); refine cx_I_ufA rfl ?_ ?_ ?_ ?_) | (with_reducible exact cx_F_refl _ _) | ((with_reducible (change cx_F _ _ (sx_uf _ _ _ _, _))); refine cx_F_uf rfl ?_) | ((with_reducible (change cx_F _ _ (_, sx_ua _ _ _ _, _))); refine cx_F_ua rfl ?_) | ((with_reducible (change cx_I (_, sx_cpy _ _ _ _ _ _, _))); refine cx_I_cpy rfl rfl rfl (by decide) ?_) | ((with_reducible (change cx_F _ _ (_, sx_cpy _ _ _ _ _ _, _))); refine cx_F_cpy rfl ?_) | ((with_reducible (change cx_F _ _ _)); refine cx_F_step (by assumption) rfl ?_) | fail)) | skip)
  all_goals (first | trivial | assumption | omega | (simp only [px_us, zzu, zzv] at *; omega) | skip)
theorem c_dz_node {sL : Nat} {sx : Nat → Int32} (hsL : sL ≤ 3072) (d : Nat) (hd : 2 ≤ d) : ∀ (a0 a1 : Int) (s : sx_S) (R : Int → sx_S → Prop), cx_I s → s.1 11 6 < 1024 → (-2147483648 ≤ a0 ∧ a0 ≤ 2147483647) → (-2147483648 ≤ a1 ∧ a1 ≤ 2147483647) → (∀ t, cx_I t → cx_F [(11, 17)] s t → dz_N1 a0 a1 (-1) s t → R (s.1 11 6) t) → sx_C sL sx d 88 [.inr (.inl 11), .inl a0, .inl a1] s R := by
  intro a0 a1 s R hI hN p0 p1 hK
  obtain ⟨d, rfl⟩ : ∃ e, d = e + 2 := ⟨d - 2, by omega⟩
  exact sx_meth (wr := true) (n := 400) hsL (e := eX7_node) rfl (w_dz_node (Q := fun _ _ _ => False) hI hN p0 p1 hK)
end
section
/-! ===== the desk's terms: LAMBDAs, variables; parts put behind the last ===== -/
theorem dz_N1_b {s t : sx_S} {h b : Int} (hI : cx_I t) (hF : cx_F [(11, 17)] s t) (h0 : 0 ≤ s.1 11 6) (hN : dz_N1 0 h (-1) s t) (hb : -1 ≤ b ∧ b ≤ 1023) : cx_I (t.1, sx_ua t.2.1 14 (s.1 11 6).toNat b, t.2.2) ∧ cx_F [(11, 17)] s (t.1, sx_ua t.2.1 14 (s.1 11 6).toNat b, t.2.2) ∧ dz_N1 0 h b s (t.1, sx_ua t.2.1 14 (s.1 11 6).toNat b, t.2.2) := by
  refine ⟨cx_I_ua rfl rfl hI (by omega) (by omega), cx_F_ua rfl hF, fun _ => ?_⟩
  obtain ⟨n1, n2, n3, n4, n5, n6, n7, n8, n9⟩ := hN trivial
  refine ⟨n1, n2, by dsimp only; rw [sx_ua_ne (by decide)]; exact n3, fun j hj => ?_, ?_⟩
  · have hj2 : j ≠ (s.1 11 6).toNat := by omega
    obtain ⟨q1, q2, q3, q4, q5⟩ := n4 j hj
    simp [sx_ua_if, hj2, q1, q2, q3, q4, q5]
  · simp [sx_ua_if, n5, n6, n8, n9]
theorem w_dz_lambda {CALL : sx_Ca} {sL : Nat} {sx : Nat → Int32} {Q : Nat → sx_L → sx_S → Prop} {R : Int → sx_S → Prop} (h_node : ∀ (a0 a1 : Int) (s : sx_S) (R : Int → sx_S → Prop), cx_I s → s.1 11 6 < 1024 → (-2147483648 ≤ a0 ∧ a0 ≤ 2147483647) → (-2147483648 ≤ a1 ∧ a1 ≤ 2147483647) → (∀ t, cx_I t → cx_F [(11, 17)] s t → dz_N1 a0 a1 (-1) s t → R (s.1 11 6) t) → CALL 88 [.inr (.inl 11), .inl a0, .inl a1] s R) {s : sx_S} {a0 a1 : Int} (hI : cx_I s) (hN : s.1 11 6 < 1024) (p0 : -2147483648 ≤ a0 ∧ a0 ≤ 2147483647) (p1 : -1 ≤ a1 ∧ a1 ≤ 1023) (hK : ∀ t, cx_I t → cx_F [(11, 17)] s t → dz_N1 0 a0 a1 s t → R (s.1 11 6) t) : sx_wp true sL sx eX7_lambda CALL [] Q R 400 0 (sx_argsF 0 [.inr (.inl 11), .inl a0, .inl a1]) [] s := by
  have h0 := hI.fld 11 6 (by decide) rfl
  refine h_node _ _ _ _ hI hN (by omega) p0 (fun t t1 t2 t3 => ?_)
  obtain ⟨m1, m2, m3⟩ := dz_N1_b t1 t2 h0.1 t3 p1
  have zz1 := hK _ m1 m2 m3
  repeat' (first | (with_reducible (rintro _ rfl)) | (with_reducible intro _) | (refine And.intro ?_ ?_))
  all_goals (try dsimp only at *)
  all_goals (first | trivial | assumption | omega | (exfalso; omega) | (show R _ _; exact zz1) | skip)
theorem c_dz_lambda {sL : Nat} {sx : Nat → Int32} (hsL : sL ≤ 3072) (d : Nat) (hd : 3 ≤ d) : ∀ (a0 a1 : Int) (s : sx_S) (R : Int → sx_S → Prop), cx_I s → s.1 11 6 < 1024 → (-2147483648 ≤ a0 ∧ a0 ≤ 2147483647) → (-1 ≤ a1 ∧ a1 ≤ 1023) → (∀ t, cx_I t → cx_F [(11, 17)] s t → dz_N1 0 a0 a1 s t → R (s.1 11 6) t) → sx_C sL sx d 89 [.inr (.inl 11), .inl a0, .inl a1] s R := by
  intro a0 a1 s R hI hN p0 p1 hK
  obtain ⟨d, rfl⟩ : ∃ e, d = e + 2 := ⟨d - 2, by omega⟩
  exact sx_meth (wr := true) (n := 400) hsL (e := eX7_lambda) rfl (w_dz_lambda (Q := fun _ _ _ => False) (c_dz_node hsL (d + 1) (by omega)) hI hN p0 p1 hK)
/-- a new variable of type a -/
def dz_V1 (a : Int) (s t : sx_S) : Prop := True → t.1 11 8 = s.1 11 8 + 1 ∧ t.1 11 6 = s.1 11 6 ∧ (t.2.1 12 = s.2.1 12 ∧ t.2.1 13 = s.2.1 13 ∧ t.2.1 14 = s.2.1 14 ∧ t.2.1 15 = s.2.1 15 ∧ t.2.1 16 = s.2.1 16) ∧ t.2.1 17 (s.1 11 8).toNat = a ∧ ∀ j : Nat, (j : Int) < s.1 11 8 → t.2.1 17 j = s.2.1 17 j
theorem w_dz_variable {CALL : sx_Ca} {sL : Nat} {sx : Nat → Int32} {Q : Nat → sx_L → sx_S → Prop} {R : Int → sx_S → Prop} {s : sx_S} {a0 : Int} (hI : cx_I s) (hN : s.1 11 8 < 512) (p0 : -2147483648 ≤ a0 ∧ a0 ≤ 2147483647) (hK : ∀ t, cx_I t → cx_F [(11, 17)] s t → dz_V1 a0 s t → R (s.1 11 8) t) : sx_wp true sL sx eX7_variable CALL [] Q R 400 0 (sx_argsF 0 [.inr (.inl 11), .inl a0]) [] s := by
  have h0 := hI.fld 11 8 (by decide) rfl
  have m3 : dz_V1 a0 s (sx_uf s.1 11 8 (s.1 11 8 + 1), sx_ua s.2.1 17 (s.1 11 8).toNat a0, s.2.2) := fun _ => by
    refine ⟨by dsimp only; exact px_us _ _ _ _, rfl, ⟨rfl, rfl, rfl, rfl, rfl⟩, ?_, fun j hj => ?_⟩
    · simp [sx_ua_if]
    · have hj2 : j ≠ (s.1 11 8).toNat := by omega
      simp [sx_ua_if, hj2]
  have m1 : cx_I (sx_uf s.1 11 8 (s.1 11 8 + 1), sx_ua s.2.1 17 (s.1 11 8).toNat a0, s.2.2) := cx_I_uf rfl rfl (cx_I_ua rfl rfl hI (by omega) (by omega)) (by omega) (by omega)
  have zz1 := hK _ m1 (cx_F_uf rfl (cx_F_ua rfl (cx_F_refl _ _))) m3
  have zzu : sx_w true (s.1 11 8 + 1) = s.1 11 8 + 1 := px_wid (by omega) (by omega)
  have zzv : sx_w true (s.1 11 8 + 1 - 1) = s.1 11 8 := by rw [px_wid (by omega) (by omega)]; omega
  repeat' (first | (with_reducible (rintro _ rfl)) | (with_reducible intro _) | (refine And.intro ?_ ?_))
  all_goals (try dsimp only at *)
  all_goals (first | trivial | assumption | omega | (exfalso; omega) | (show R _ _; simp only [px_us, zzu, zzv]; exact zz1) | (simp only [px_us, zzu, zzv] at *; first | assumption | omega) | (repeat' (first | (with_reducible assumption) | ((with_reducible (change cx_I (sx_uf _ _ _ _, _))); refine cx_I_uf rfl rfl ?_ ?_ ?_) | ((with_reducible (change cx_I (_, sx_ua _ _ _ _, _))); refine cx_I_ua rfl rfl ?_ ?_ ?_) | ((with_reducible (change cx_I (_, sx_ua _ 16 _ _, _))); refine cx_I_ari ?_ ?_ ?_) | ((with_reducible (change cx_I (sx_uf _ 11 6 _, _))); refine cx_I_ufA rfl ?_ ?_ ?_ ?_) | (with_reducible exact cx_F_refl _ _) | ((with_reducible (change cx_F _ _ (sx_uf _ _ _ _, _))); refine cx_F_uf rfl ?_) | ((with_reducible (change cx_F _ _ (_, sx_ua _ _ _ _, _))); refine cx_F_ua rfl ?_) | ((with_reducible (change cx_I (_, sx_cpy _ _ _ _ _ _, _))); refine cx_I_cpy rfl rfl rfl (by decide) ?_) | ((with_reducible (change cx_F _ _ (_, sx_cpy _ _ _ _ _ _, _))); refine cx_F_cpy rfl ?_) | ((with_reducible (change cx_F _ _ _)); refine cx_F_step (by assumption) rfl ?_) | fail)) | skip)
  all_goals (first | trivial | assumption | omega | (simp only [px_us, zzu, zzv] at *; omega) | skip)
theorem c_dz_variable {sL : Nat} {sx : Nat → Int32} (hsL : sL ≤ 3072) (d : Nat) (hd : 2 ≤ d) : ∀ (a0 : Int) (s : sx_S) (R : Int → sx_S → Prop), cx_I s → s.1 11 8 < 512 → (-2147483648 ≤ a0 ∧ a0 ≤ 2147483647) → (∀ t, cx_I t → cx_F [(11, 17)] s t → dz_V1 a0 s t → R (s.1 11 8) t) → sx_C sL sx d 86 [.inr (.inl 11), .inl a0] s R := by
  intro a0 s R hI hN p0 hK
  obtain ⟨d, rfl⟩ : ∃ e, d = e + 2 := ⟨d - 2, by omega⟩
  exact sx_meth (wr := true) (n := 400) hsL (e := eX7_variable) rfl (w_dz_variable (Q := fun _ _ _ => False) hI hN p0 hK)
/-! trees of the desk's nodes -/
abbrev dz_nd (s : sx_S) (N : rf_N) (z : Int) : Prop := rf_nd (s.2.1 12) (s.2.1 13) (s.2.1 14) (s.2.1 15) (s.1 11 6) N z
def dz_ar (A : Nat → Int) : rf_N → Prop
  | .leaf => True
  | .inner j k _ f x => (0 ≤ k.1 ∧ 0 ≤ k.2 ∧ (k.1 ≠ 0 → A j = (rf_len f : Int))) ∧ dz_ar A f ∧ dz_ar A x
def dz_T (lo : Int) (s : sx_S) (N : rf_N) (z : Int) : Prop := True → dz_nd s N z ∧ dz_ar (s.2.1 16) N ∧ (rf_idx N).Nodup ∧ (∀ j ∈ rf_idx N, lo ≤ (j : Int)) ∧ rf_nx N
def dz_fr (P : Nat → Prop) (s t : sx_S) : Prop := True → s.1 11 6 ≤ t.1 11 6 ∧ ∀ j : Nat, P j → t.2.1 12 j = s.2.1 12 j ∧ t.2.1 13 j = s.2.1 13 j ∧ t.2.1 14 j = s.2.1 14 j ∧ t.2.1 15 j = s.2.1 15 j ∧ t.2.1 16 j = s.2.1 16 j
theorem dz_ar_mono {A A' : Nat → Int} : ∀ {N : rf_N}, (∀ j ∈ rf_idx N, A' j = A j) → dz_ar A N → dz_ar A' N
  | .leaf, _, _ => trivial
  | .inner j k _ f x, h, ⟨⟨a1, a2, a3⟩, a4, a5⟩ => ⟨⟨a1, a2, fun q => (h j List.mem_cons_self).trans (a3 q)⟩, dz_ar_mono (fun i hi => h i (List.mem_cons_of_mem _ (List.mem_append_left _ hi))) a4, dz_ar_mono (fun i hi => h i (List.mem_cons_of_mem _ (List.mem_append_right _ hi))) a5⟩
theorem dz_nd_fr {P : Nat → Prop} {s t : sx_S} {N : rf_N} {z : Int} (h : dz_nd s N z) (hf : dz_fr P s t) (hP : ∀ j ∈ rf_idx N, P j) : dz_nd t N z := rf_nd_mono (hf trivial).1 (fun j hj => by
  obtain ⟨a1, a2, a3, a4, _⟩ := (hf trivial).2 j (hP j hj)
  exact ⟨a1, a2, a3, a4⟩) h
theorem dz_T_fr {P : Nat → Prop} {lo : Int} {s t : sx_S} {N : rf_N} {z : Int} (h : dz_T lo s N z) (hf : dz_fr P s t) (hP : ∀ j ∈ rf_idx N, P j) : dz_T lo t N z := fun _ => by
  obtain ⟨h1, h2, h3, h4, h5⟩ := h trivial
  exact ⟨dz_nd_fr h1 hf hP, dz_ar_mono (fun j hj => ((hf trivial).2 j (hP j hj)).2.2.2.2) h2, h3, h4, h5⟩
theorem dz_T_lo {lo lo' : Int} {s : sx_S} {N : rf_N} {z : Int} (h : dz_T lo s N z) (hl : lo' ≤ lo) : dz_T lo' s N z := fun _ => by
  obtain ⟨h1, h2, h3, h4, h5⟩ := h trivial
  exact ⟨h1, h2, h3, fun j hj => Int.le_trans hl (h4 j hj), h5⟩
theorem dz_fr_refl (P : Nat → Prop) (s : sx_S) : dz_fr P s s := fun _ => ⟨Int.le_refl _, fun _ _ => ⟨rfl, rfl, rfl, rfl, rfl⟩⟩
theorem dz_fr_t {P P' : Nat → Prop} {s t u : sx_S} (h2 : dz_fr P' t u) (h1 : dz_fr P s t) (hP : ∀ j, P j → P' j) : dz_fr P s u := fun _ => by
  obtain ⟨a1, a2⟩ := h1 trivial
  obtain ⟨b1, b2⟩ := h2 trivial
  refine ⟨Int.le_trans a1 b1, fun j hj => ?_⟩
  obtain ⟨c1, c2, c3, c4, c5⟩ := a2 j hj
  obtain ⟨d1, d2, d3, d4, d5⟩ := b2 j (hP j hj)
  exact ⟨d1.trans c1, d2.trans c2, d3.trans c3, d4.trans c4, d5.trans c5⟩
theorem dz_fr_w {P P' : Nat → Prop} {s t : sx_S} (h : dz_fr P' s t) (hP : ∀ j, P j → P' j) : dz_fr P s t := fun _ => ⟨(h trivial).1, fun j hj => (h trivial).2 j (hP j hj)⟩
theorem dz_fr_N1 {k h f : Int} {s t : sx_S} (h0 : dz_N1 k h f s t) : dz_fr (fun j => (j : Int) < s.1 11 6) s t := fun _ => by
  obtain ⟨a1, _, _, a4, _⟩ := h0 trivial
  exact ⟨by omega, fun j hj => a4 j (by omega)⟩
theorem dz_fr_V1 {a : Int} {s t : sx_S} (h0 : dz_V1 a s t) : dz_fr (fun _ => True) s t := fun _ => by
  obtain ⟨_, a2, ⟨a3, a4, a5, a6, a7⟩, _⟩ := h0 trivial
  exact ⟨by omega, fun j _ => by rw [a3, a4, a5, a6, a7]; exact ⟨rfl, rfl, rfl, rfl, rfl⟩⟩
theorem dz_T_lt {lo : Int} {s : sx_S} {N : rf_N} {z : Int} (h : dz_T lo s N z) : ∀ j ∈ rf_idx N, (j : Int) < s.1 11 6 := fun j hj => rf_nd_lt (h trivial).1 j hj
/-- a new node alone -/
theorem dz_T_new {k h : Int} {s t : sx_S} (h0 : dz_N1 k h (-1) s t) (hs : 0 ≤ s.1 11 6) (hk : 0 ≤ k) (hh : 0 ≤ h) : dz_T (s.1 11 6) t (rf_n (s.1 11 6).toNat k h .leaf .leaf) (s.1 11 6) := fun _ => by
  obtain ⟨a1, _, _, _, a5, a6, a7, a8, a9⟩ := h0 trivial
  exact ⟨⟨⟨by omega, by omega⟩, ⟨a5, a6⟩, a7, a8⟩, ⟨⟨hk, hh, fun _ => a9⟩, trivial, trivial⟩, by simp [rf_idx], fun j hj => by
    have : j = (s.1 11 6).toNat := by simpa [rf_idx] using hj
    omega, rfl⟩
/-- a LAMBDA over a tree -/
theorem dz_T_lam {h z lo : Int} {N : rf_N} {s t : sx_S} (h0 : dz_N1 0 h z s t) (hs : 0 ≤ s.1 11 6) (hl : lo ≤ s.1 11 6) (hh : 0 ≤ h) (hN : dz_T lo s N z) : dz_T lo t (rf_n (s.1 11 6).toNat 0 h N .leaf) (s.1 11 6) := fun _ => by
  have hlt := dz_T_lt hN
  have hN' := dz_T_fr hN (dz_fr_N1 h0) hlt
  obtain ⟨b1, b2, b3, b4, b5⟩ := hN' trivial
  obtain ⟨a1, _, _, _, a5, a6, a7, a8, a9⟩ := h0 trivial
  refine ⟨⟨⟨by omega, by omega⟩, ⟨a5, a6⟩, by rw [a7]; exact b1, a8⟩, ⟨⟨Int.le_refl _, hh, fun q => absurd rfl q⟩, b2, trivial⟩, ?_, fun j hj => ?_, rfl⟩
  · show (_ :: (rf_idx N ++ [])).Nodup
    rw [List.append_nil]
    refine List.nodup_cons.mpr ⟨fun q => ?_, b3⟩
    have := hlt _ q
    omega
  · have hj' : j ∈ (s.1 11 6).toNat :: (rf_idx N ++ []) := hj
    rw [List.append_nil] at hj'
    rcases List.mem_cons.mp hj' with q | q
    · omega
    · exact b4 j q
end
section
/-! ===== the desk's terms: append, exactly ===== -/
theorem w_dz_app {CALL : sx_Ca} {sL : Nat} {sx : Nat → Int32} {Q : Nat → sx_L → sx_S → Prop} {R : Int → sx_S → Prop} {s : sx_S} {a0 a1 : Int} (hI : cx_I s) (p0 : 0 ≤ a0 ∧ a0 < s.1 11 6) (p1 : 0 ≤ a1 ∧ a1 < s.1 11 6) (p2 : 0 ≤ s.2.1 16 a0.toNat ∧ s.2.1 16 a0.toNat + 1 ≤ s.1 11 6) (hQ : Q 35 [(0, .inr (.inl 11)), (1, .inl a0), (2, .inl a1), (3, .inl (s.2.1 14 a0.toNat)), (4, .inl 1)] s) : sx_wp true sL sx eX7_append CALL [(35, [0, 1, 2, 3, 4])] Q R 400 0 (sx_argsF 0 [.inr (.inl 11), .inl a0, .inl a1]) [] s := by
  have h0 := hI.fld 11 6 (by decide) rfl
  repeat' (first | (with_reducible (rintro _ rfl)) | (with_reducible intro _) | (refine And.intro ?_ ?_))
  all_goals (try dsimp only at *)
  all_goals (first | trivial | assumption | omega | (exfalso; omega) | skip)
theorem w_dz_app_35 {CALL : sx_Ca} {sL : Nat} {sx : Nat → Int32} {Q : Nat → sx_L → sx_S → Prop} {R : Int → sx_S → Prop} {s : sx_S} {a0 a1 : Int} (hI : cx_I s) (p0 : 0 ≤ a0 ∧ a0 < s.1 11 6) (p1 : 0 ≤ a1 ∧ a1 < s.1 11 6) (p2 : 0 ≤ s.2.1 16 a0.toNat ∧ s.2.1 16 a0.toNat + 1 ≤ s.1 11 6) {x3 x4 : Int} (q3 : -1 ≤ x3 ∧ x3 < s.1 11 6) (q4 : 1 ≤ x4 ∧ x4 ≤ 2000) (hK1 : x3 = -1 → R 0 (s.1, sx_ua (sx_ua s.2.1 14 a0.toNat a1) 16 a0.toNat (s.2.1 16 a0.toNat + 1), s.2.2)) (hK2 : 0 ≤ x3 → (s.2.1 16 a0.toNat ≤ x4 ∨ s.2.1 15 x3.toNat < 0) → R 0 (s.1, sx_ua (sx_ua s.2.1 15 x3.toNat a1) 16 a0.toNat (s.2.1 16 a0.toNat + 1), s.2.2)) (hQ : 0 ≤ x3 → x4 < s.2.1 16 a0.toNat → 0 ≤ s.2.1 15 x3.toNat → Q 35 [(0, .inr (.inl 11)), (1, .inl a0), (2, .inl a1), (3, .inl (s.2.1 15 x3.toNat)), (4, .inl (x4 + 1))] s) : sx_wp true sL sx eX7_append CALL [(35, [0, 1, 2, 3, 4])] Q R 400 35 [(0, .inr (.inl 11)), (1, .inl a0), (2, .inl a1), (3, .inl x3), (4, .inl x4)] [] s := by
  have h0 := hI.fld 11 6 (by decide) rfl
  have zzu : sx_w true (s.2.1 16 a0.toNat + 1) = s.2.1 16 a0.toNat + 1 := px_wid (by omega) (by omega)
  have zzy : sx_w true (x4 + 1) = x4 + 1 := px_wid (by omega) (by omega)
  have zza : ∀ v, (sx_ua s.2.1 14 a0.toNat v) 16 a0.toNat = s.2.1 16 a0.toNat := fun v => by rw [sx_ua_ne (by decide)]
  have zzb : ∀ v, (sx_ua s.2.1 15 x3.toNat v) 16 a0.toNat = s.2.1 16 a0.toNat := fun v => by rw [sx_ua_ne (by decide)]
  have zz1 : x3 = -1 → cx_I (s.1, sx_ua s.2.1 14 a0.toNat a1, s.2.2) := fun _ => cx_I_ua rfl rfl hI (by omega) (by omega)
  have zz2 : cx_I (s.1, sx_ua (sx_ua s.2.1 14 a0.toNat a1) 16 a0.toNat (s.2.1 16 a0.toNat + 1), s.2.2) := cx_I_ari (cx_I_ua rfl rfl hI (by omega) (by omega)) (by omega) (by omega)
  have zz3 : cx_I (s.1, sx_ua s.2.1 15 x3.toNat a1, s.2.2) := cx_I_ua rfl rfl hI (by omega) (by omega)
  have zz4 : cx_I (s.1, sx_ua (sx_ua s.2.1 15 x3.toNat a1) 16 a0.toNat (s.2.1 16 a0.toNat + 1), s.2.2) := cx_I_ari (cx_I_ua rfl rfl hI (by omega) (by omega)) (by omega) (by omega)
  repeat' (first | (with_reducible (rintro _ rfl)) | (with_reducible intro _) | (refine And.intro ?_ ?_))
  all_goals (try dsimp only at *)
  all_goals (first | trivial | assumption | omega | (exfalso; omega) | (have zz9 := hQ (by omega) (by omega) (by omega); rw [← zzy] at zz9; exact zz9) | (show R _ _; rw [zza, zzu]; exact hK1 (by omega)) | (show R _ _; rw [zzb, zzu]; exact hK2 (by omega) (by omega)) | (rw [zza, zzu]; assumption) | (rw [zzb, zzu]; assumption) | (simp only [zza, zzb, zzu] at *; omega) | (exact zz1 (by omega)) | skip)
theorem c_dz_app0 {sL : Nat} {sx : Nat → Int32} (hsL : sL ≤ 3072) (d : Nat) (hd : 2 ≤ d) : ∀ (a0 a1 : Int) (f : rf_N) (s : sx_S) (R : Int → sx_S → Prop), cx_I s → (0 ≤ a0 ∧ a0 < s.1 11 6) → (0 ≤ a1 ∧ a1 < s.1 11 6) → rf_nd (s.2.1 12) (s.2.1 13) (s.2.1 14) (s.2.1 15) (s.1 11 6) f (s.2.1 14 a0.toNat) → s.2.1 16 a0.toNat = (rf_len f : Int) → (rf_len f : Int) + 1 ≤ s.1 11 6 → (f = .leaf → R 0 (s.1, sx_ua (sx_ua s.2.1 14 a0.toNat a1) 16 a0.toNat (s.2.1 16 a0.toNat + 1), s.2.2)) → (f ≠ .leaf → R 0 (s.1, sx_ua (sx_ua s.2.1 15 (rf_last f 0) a1) 16 a0.toNat (s.2.1 16 a0.toNat + 1), s.2.2)) → sx_C sL sx d 90 [.inr (.inl 11), .inl a0, .inl a1] s R := by
  intro a0 a1 f s R hI p0 p1 hf p2 p3 hK1 hK2
  have h0 := hI.fld 11 6 (by decide) rfl
  obtain ⟨d, rfl⟩ : ∃ e, d = e + 2 := ⟨d - 2, by omega⟩
  refine sx_methL (wr := true) (n := 400) (n' := 400) (stop := [(35, [0, 1, 2, 3, 4])]) (fun nn pc ls u => pc = 35 ∧ u = s ∧ ∃ (x3 x4 : Int) (g : rf_N), ls = [(0, .inr (.inl 11)), (1, .inl a0), (2, .inl a1), (3, .inl x3), (4, .inl x4)] ∧ rf_nd (s.2.1 12) (s.2.1 13) (s.2.1 14) (s.2.1 15) (s.1 11 6) g x3 ∧ (g = .leaf → f = .leaf) ∧ (g ≠ .leaf → f ≠ .leaf ∧ rf_last g 0 = rf_last f 0) ∧ (rf_len g : Int) + x4 = (rf_len f : Int) + 1 ∧ 1 ≤ x4 ∧ nn = rf_len g) hsL (e := eX7_append) rfl ?_ ?_
  · exact w_dz_app hI p0 p1 (by omega) ⟨_, rfl, rfl, _, _, f, rfl, hf, fun h => h, fun h => ⟨h, rfl⟩, by omega, by omega, rfl⟩
  · rintro nn pc ls u ⟨rfl, rfl, x3, x4, g, rfl, i1, i2, i3, i4, i5, rfl⟩
    have r3 := rf_nd_rng i1
    cases g with
    | leaf =>
      have e3 : x3 = -1 := i1
      exact w_dz_app_35 hI p0 p1 (by omega) (by omega) (by omega) (fun _ => hK1 (i2 rfl)) (fun h => absurd h (by omega)) (fun h => absurd h (by omega))
    | inner j k v ff x =>
      obtain ⟨⟨e0, e1⟩, ⟨e2, e3⟩, e4, e5⟩ := i1
      obtain ⟨l1, l2⟩ := i3 (fun h => by cases h)
      have ej : x3.toNat = j := by omega
      have el : (rf_len (.inner j k v ff x) : Int) = (rf_len x : Int) + 1 := by
        show (((rf_len x + 1 : Nat)) : Int) = _
        omega
      have r5 := rf_nd_rng e5
      refine w_dz_app_35 hI p0 p1 (by omega) (by omega) (by omega) (fun h => absurd h (by omega)) (fun _ h => ?_) (fun _ h1 h2 => ?_)
      · have hx : x = .leaf := by
          rcases h with h | h
          · cases x with
            | leaf => rfl
            | inner j' k' v' f' x' =>
              have : (rf_len (.inner j' k' v' f' x') : Int) = (rf_len x' : Int) + 1 := by
                show (((rf_len x' + 1 : Nat)) : Int) = _
                omega
              omega
          · rw [ej] at h
            exact rf_nd_nil e5 (by omega)
        subst hx
        have l3 : j = rf_last f 0 := l2
        rw [ej, l3]
        exact hK2 l1
      · have hx : x ≠ .leaf := fun h => by
          subst h
          have : u.2.1 15 j = -1 := e5
          rw [ej] at h2
          omega
        refine ⟨_, ?_, rfl, rfl, _, _, x, rfl, by rw [ej]; exact e5, fun h => absurd h hx, fun _ => ⟨l1, ?_⟩, by omega, by omega, rfl⟩
        · omega
        · rw [← l2]
          exact rf_last_d _ _ hx
theorem dz_ar_snoc {A : Nat → Int} {p : rf_N} (hp : dz_ar A p) : ∀ {f : rf_N}, dz_ar A f → dz_ar A (rf_snoc f p)
  | .leaf, _ => hp
  | .inner _ _ _ _ _, ⟨a1, a2, a3⟩ => ⟨a1, a2, dz_ar_snoc hp a3⟩
/-- a part is put behind the last: the tree -/
theorem dz_T_app {lo a1 : Int} {z : Nat} {k h : Int} {f P : rf_N} {s : sx_S} (hk : k ≠ 0) (hT : dz_T lo s (rf_n z k h f .leaf) (z : Int)) (hP : dz_T lo s P a1) (hd : ∀ j ∈ rf_idx (rf_n z k h f .leaf), j ∉ rf_idx P) (h1 : rf_len P = 1) {t : sx_S} (ht : t.1 = s.1) (hc : ∀ p, p ≠ 14 → p ≠ 15 → p ≠ 16 → t.2.1 p = s.2.1 p) (h16 : t.2.1 16 = fun j => if j = z then s.2.1 16 z + 1 else s.2.1 16 j) (h14 : f = .leaf → t.2.1 14 = fun j => if j = z then a1 else s.2.1 14 j) (h14b : f ≠ .leaf → t.2.1 14 = s.2.1 14) (h15 : f = .leaf → t.2.1 15 = s.2.1 15) (h15b : f ≠ .leaf → t.2.1 15 = fun j => if j = rf_last f 0 then a1 else s.2.1 15 j) : dz_T lo t (rf_n z k h (rf_snoc f P) .leaf) (z : Int) ∧ dz_fr (fun j => j ∉ rf_idx (rf_n z k h f .leaf)) s t := by
  obtain ⟨⟨⟨a1', a2⟩, ⟨a3, a4⟩, a5, a6⟩, ⟨⟨b1, b2, b3⟩, b4, b5⟩, c1, c2, c3⟩ := hT trivial
  obtain ⟨d1, d2, d3, d4, d5⟩ := hP trivial
  have b3' := b3 hk
  have hz : z ∉ rf_idx f := fun q => (List.nodup_cons.mp c1).1 (List.mem_append_left _ q)
  have c1' : (rf_idx f).Nodup := (List.nodup_append.mp (List.nodup_cons.mp c1).2).1
  have hzP : z ∉ rf_idx P := hd z List.mem_cons_self
  have hfP : ∀ j ∈ rf_idx f, j ∉ rf_idx P := fun j hj => hd j (List.mem_cons_of_mem _ (List.mem_append_left _ hj))
  have hlP : f ≠ .leaf → rf_last f 0 ∉ rf_idx P := fun q => hfP _ (rf_last_mem f 0 q)
  have hlz : f ≠ .leaf → rf_last f 0 ≠ z := fun q e => hz (e ▸ rf_last_mem f 0 q)
  have hfr : dz_fr (fun j => j ∉ rf_idx (rf_n z k h f .leaf)) s t := fun _ => by
    refine ⟨by rw [ht]; exact Int.le_refl _, fun j hj => ?_⟩
    have j1 : j ≠ z := fun e => hj (e ▸ List.mem_cons_self)
    have j2 : f ≠ .leaf → j ≠ rf_last f 0 := fun q e => hj (List.mem_cons_of_mem _ (List.mem_append_left _ (e ▸ rf_last_mem f 0 q)))
    rw [hc 12 (by decide) (by decide) (by decide), hc 13 (by decide) (by decide) (by decide), h16]
    by_cases q : f = .leaf
    · rw [h14 q, h15 q]
      exact ⟨rfl, rfl, if_neg j1, rfl, if_neg j1⟩
    · rw [h14b q, h15b q]
      exact ⟨rfl, rfl, rfl, if_neg (j2 q), if_neg j1⟩
  have hP' := dz_T_fr hP hfr (fun j hj q => hd j q hj)
  obtain ⟨e1, e2, _⟩ := hP' trivial
  have hnd : dz_nd t (rf_snoc f P) (t.2.1 14 z) := by
    by_cases q : f = .leaf
    · have : t.2.1 14 z = a1 := by rw [h14 q]; exact if_pos rfl
      rw [q, this]
      exact e1
    · have h14' : t.2.1 14 = s.2.1 14 := h14b q
      have h15' : t.2.1 15 = fun j => if j = rf_last f 0 then a1 else s.2.1 15 j := h15b q
      have e1' : rf_nd (s.2.1 12) (s.2.1 13) (s.2.1 14) (t.2.1 15) (s.1 11 6) P a1 := by
        have := e1
        unfold dz_nd at this
        rw [hc 12 (by decide) (by decide) (by decide), hc 13 (by decide) (by decide) (by decide), h14', ht] at this
        exact this
      have := rf_nd_snoc e1' (t := f) (i := s.2.1 14 z) (d := 0) q c1' (fun j hj => by rw [h15']; exact if_neg hj) (by rw [h15']; exact if_pos rfl) a5
      show rf_nd (t.2.1 12) (t.2.1 13) (t.2.1 14) (t.2.1 15) (t.1 11 6) _ _
      rw [hc 12 (by decide) (by decide) (by decide), hc 13 (by decide) (by decide) (by decide), h14', ht]
      exact this
  refine ⟨fun _ => ⟨⟨⟨rfl, by rw [ht]; omega⟩, ⟨by rw [hc 12 (by decide) (by decide) (by decide)]; exact a3, by rw [hc 13 (by decide) (by decide) (by decide)]; exact a4⟩, hnd, ?_⟩, ⟨⟨b1, b2, fun _ => ?_⟩, dz_ar_snoc e2 (dz_ar_mono (fun j hj => ?_) b4), trivial⟩, ?_, fun j hj => ?_, rfl⟩, hfr⟩
  · show t.2.1 15 z = -1
    have a6' : s.2.1 15 z = -1 := a6
    by_cases q : f = .leaf
    · rw [h15 q]
      exact a6'
    · rw [h15b q]
      dsimp only
      rw [if_neg (fun e => hlz q e.symm)]
      exact a6'
  · rw [h16, rf_len_snoc, h1]
    dsimp only
    rw [if_pos rfl, b3']
    omega
  · rw [h16]
    exact if_neg (fun e => hz (by rw [← e]; exact hj))
  · show (z :: (rf_idx (rf_snoc f P) ++ [])).Nodup
    rw [List.append_nil]
    refine List.nodup_cons.mpr ⟨fun q => ?_, rf_nodup_snoc f P c1' d3 hfP⟩
    rcases (rf_idx_snoc f P z).mp q with q | q
    · exact hz q
    · exact hzP q
  · have hj' : j ∈ z :: (rf_idx (rf_snoc f P) ++ []) := hj
    rw [List.append_nil] at hj'
    rcases List.mem_cons.mp hj' with q | q
    · exact c2 j (by rw [q]; exact List.mem_cons_self)
    · rcases (rf_idx_snoc f P j).mp q with q | q
      · exact c2 j (List.mem_cons_of_mem _ (List.mem_append_left _ q))
      · exact d4 j q
theorem rf_nx_len : ∀ {N : rf_N}, rf_nx N → N ≠ .leaf → rf_len N = 1
  | .leaf, _, h => absurd rfl h
  | .inner _ _ _ _ x, h, _ => by
    have e : x = .leaf := h
    rw [e]
    rfl

theorem c_dz_append {sL : Nat} {sx : Nat → Int32} (hsL : sL ≤ 3072) (d : Nat) (hd : 2 ≤ d) : ∀ (lo : Int) (a0 a1 : Int) (k h : Int) (f P : rf_N) (s : sx_S) (R : Int → sx_S → Prop), cx_I s → k ≠ 0 → dz_T lo s (rf_n a0.toNat k h f .leaf) a0 → dz_T lo s P a1 → P ≠ .leaf → (∀ j ∈ rf_idx (rf_n a0.toNat k h f .leaf), j ∉ rf_idx P) → (rf_len f : Int) + 1 ≤ s.1 11 6 → (∀ t, cx_I t → cx_F [(11, 17)] s t → (t.1 = s.1 ∧ t.2.1 17 = s.2.1 17) → dz_T lo t (rf_n a0.toNat k h (rf_snoc f P) .leaf) a0 → dz_fr (fun j => j ∉ rf_idx (rf_n a0.toNat k h f .leaf)) s t → R 0 t) → sx_C sL sx d 90 [.inr (.inl 11), .inl a0, .inl a1] s R := by
  intro lo a0 a1 k h f P s R hI hk hT hP hPl hdj hl hK
  have h0 := hI.fld 11 6 (by decide) rfl
  obtain ⟨⟨⟨a1', a2⟩, ⟨a3, a4⟩, a5, a6⟩, ⟨⟨b1, b2, b3⟩, b4, b5⟩, c1, c2, c3⟩ := hT trivial
  obtain ⟨d1, d2, d3, d4, d5⟩ := hP trivial
  have r1 := rf_nd_rng d1
  have r2 : a1 ≠ -1 := fun e => hPl (rf_nd_nil d1 e)
  have hT' : dz_T lo s (rf_n a0.toNat k h f .leaf) (a0.toNat : Int) := by rw [← a1']; exact hT
  have h16 := b3 hk
  refine c_dz_app0 hsL d hd a0 a1 f s R hI (by omega) (by omega) a5 h16 hl (fun q => ?_) (fun q => ?_)
  · obtain ⟨m1, m2⟩ := dz_T_app (t := (s.1, sx_ua (sx_ua s.2.1 14 a0.toNat a1) 16 a0.toNat (s.2.1 16 a0.toNat + 1), s.2.2)) hk hT' hP hdj (rf_nx_len d5 hPl) rfl (fun p p1 p2 p3 => by dsimp only; rw [sx_ua_ne p3, sx_ua_ne p1]) (by dsimp only; rw [sx_ua_same, sx_ua_ne (by decide)]) (fun _ => by dsimp only; rw [sx_ua_ne (by decide), sx_ua_same]) (fun h => absurd q h) (fun _ => by dsimp only; rw [sx_ua_ne (by decide), sx_ua_ne (by decide)]) (fun h => absurd q h)
    rw [← a1'] at m1
    exact hK _ (cx_I_ari (cx_I_ua rfl rfl hI (by omega) (by omega)) (by omega) (by omega)) (cx_F_ua rfl (cx_F_ua rfl (cx_F_refl _ _))) ⟨rfl, by dsimp only; rw [sx_ua_ne (by decide), sx_ua_ne (by decide)]⟩ m1 m2
  · obtain ⟨m1, m2⟩ := dz_T_app (t := (s.1, sx_ua (sx_ua s.2.1 15 (rf_last f 0) a1) 16 a0.toNat (s.2.1 16 a0.toNat + 1), s.2.2)) hk hT' hP hdj (rf_nx_len d5 hPl) rfl (fun p p1 p2 p3 => by dsimp only; rw [sx_ua_ne p3, sx_ua_ne p2]) (by dsimp only; rw [sx_ua_same, sx_ua_ne (by decide)]) (fun h => absurd h q) (fun _ => by dsimp only; rw [sx_ua_ne (by decide), sx_ua_ne (by decide)]) (fun h => absurd h q) (fun _ => by dsimp only; rw [sx_ua_ne (by decide), sx_ua_same])
    rw [← a1'] at m1
    exact hK _ (cx_I_ari (cx_I_ua rfl rfl hI (by omega) (by omega)) (by omega) (by omega)) (cx_F_ua rfl (cx_F_ua rfl (cx_F_refl _ _))) ⟨rfl, by dsimp only; rw [sx_ua_ne (by decide), sx_ua_ne (by decide)]⟩ m1 m2
end
section
/-! ===== the desk's terms: the j-th ARG; whether an ARG is there; the variable that a long form is ===== -/
def dz_dr : Nat → rf_N → rf_N
  | 0, f => f
  | _ + 1, .leaf => .leaf
  | n + 1, .inner _ _ _ _ x => dz_dr n x
/-- one more -/
theorem dz_dr_s : ∀ (n : Nat) (f : rf_N), dz_dr (n + 1) f = dz_dr 1 (dz_dr n f)
  | 0, f => rfl
  | n + 1, .leaf => rfl
  | n + 1, .inner _ _ _ _ x => dz_dr_s n x
theorem dz_dr_len : ∀ (n : Nat) (f : rf_N), rf_len (dz_dr n f) = rf_len f - n
  | 0, f => rfl
  | n + 1, .leaf => (Nat.zero_sub _).symm
  | n + 1, .inner _ _ _ _ x => by
    show rf_len (dz_dr n x) = rf_len x + 1 - (n + 1)
    rw [dz_dr_len n x]
    omega
theorem dz_ar_dr {A : Nat → Int} : ∀ {n : Nat} {f : rf_N}, dz_ar A f → dz_ar A (dz_dr n f)
  | 0, _, h => h
  | _ + 1, .leaf, _ => trivial
  | n + 1, .inner _ _ _ _ x, h => dz_ar_dr (n := n) (f := x) h.2.2
theorem w_dz_arg {CALL : sx_Ca} {sL : Nat} {sx : Nat → Int32} {Q : Nat → sx_L → sx_S → Prop} {R : Int → sx_S → Prop} {s : sx_S} {a0 a1 : Int} (hI : cx_I s) (p0 : 0 ≤ a0 ∧ a0 < s.1 11 6) (hQ : Q 26 [(0, .inr (.inl 11)), (2, .inl a1), (3, .inl (s.2.1 14 a0.toNat)), (4, .inl 0)] s) : sx_wp true sL sx eX7_argument CALL [(26, [0, 2, 3, 4])] Q R 400 0 (sx_argsF 0 [.inr (.inl 11), .inl a0, .inl a1]) [] s := by
  have h0 := hI.fld 11 6 (by decide) rfl
  repeat' (first | (with_reducible (rintro _ rfl)) | (with_reducible intro _) | (refine And.intro ?_ ?_))
  all_goals (try dsimp only at *)
  all_goals (first | trivial | assumption | omega | (exfalso; omega) | skip)
theorem w_dz_arg_26 {CALL : sx_Ca} {sL : Nat} {sx : Nat → Int32} {Q : Nat → sx_L → sx_S → Prop} {R : Int → sx_S → Prop} {s : sx_S} {a1 x3 x4 : Int} (hI : cx_I s) (p1 : 0 ≤ a1 ∧ a1 ≤ 2000) (q3 : -1 ≤ x3 ∧ x3 < s.1 11 6) (q4 : 0 ≤ x4 ∧ x4 ≤ a1) (hK : x4 = a1 ∨ x3 = -1 → R x3 s) (hQ : x4 < a1 → 0 ≤ x3 → Q 26 [(0, .inr (.inl 11)), (2, .inl a1), (3, .inl (s.2.1 15 x3.toNat)), (4, .inl (x4 + 1))] s) : sx_wp true sL sx eX7_argument CALL [(26, [0, 2, 3, 4])] Q R 400 26 [(0, .inr (.inl 11)), (2, .inl a1), (3, .inl x3), (4, .inl x4)] [] s := by
  have h0 := hI.fld 11 6 (by decide) rfl
  have zzy : sx_w true (x4 + 1) = x4 + 1 := px_wid (by omega) (by omega)
  repeat' (first | (with_reducible (rintro _ rfl)) | (with_reducible intro _) | (refine And.intro ?_ ?_))
  all_goals (try dsimp only at *)
  all_goals (first | trivial | assumption | omega | (exfalso; omega) | (exact hK (by omega)) | (have zz9 := hQ (by omega) (by omega); rw [← zzy] at zz9; exact zz9) | skip)
theorem c_dz_arg {sL : Nat} {sx : Nat → Int32} (hsL : sL ≤ 3072) (d : Nat) (hd : 2 ≤ d) : ∀ (a0 a1 : Int) (f : rf_N) (s : sx_S) (R : Int → sx_S → Prop), cx_I s → (0 ≤ a0 ∧ a0 < s.1 11 6) → (0 ≤ a1 ∧ a1 ≤ 2000) → rf_nd (s.2.1 12) (s.2.1 13) (s.2.1 14) (s.2.1 15) (s.1 11 6) f (s.2.1 14 a0.toNat) → (∀ z : Int, (-1 ≤ z ∧ z < s.1 11 6) → rf_nd (s.2.1 12) (s.2.1 13) (s.2.1 14) (s.2.1 15) (s.1 11 6) (dz_dr a1.toNat f) z → R z s) → sx_C sL sx d 95 [.inr (.inl 11), .inl a0, .inl a1] s R := by
  intro a0 a1 f s R hI p0 p1 hf hK
  have h0 := hI.fld 11 6 (by decide) rfl
  obtain ⟨d, rfl⟩ : ∃ e, d = e + 2 := ⟨d - 2, by omega⟩
  refine sx_methL (wr := true) (n := 400) (n' := 400) (stop := [(26, [0, 2, 3, 4])]) (fun nn pc ls u => pc = 26 ∧ u = s ∧ ∃ (x3 x4 : Int), ls = [(0, .inr (.inl 11)), (2, .inl a1), (3, .inl x3), (4, .inl x4)] ∧ rf_nd (s.2.1 12) (s.2.1 13) (s.2.1 14) (s.2.1 15) (s.1 11 6) (dz_dr x4.toNat f) x3 ∧ 0 ≤ x4 ∧ x4 ≤ a1 ∧ nn = (a1 - x4).toNat) hsL (e := eX7_argument) rfl ?_ ?_
  · exact w_dz_arg hI p0 ⟨_, rfl, rfl, _, _, rfl, hf, by omega, by omega, rfl⟩
  · rintro nn pc ls u ⟨rfl, rfl, x3, x4, rfl, i1, i2, i3, rfl⟩
    have r3 := rf_nd_rng i1
    refine w_dz_arg_26 hI p1 (by omega) (by omega) (fun h => hK x3 (by omega) ?_) (fun h1 h2 => ?_)
    · rcases h with h | h
      · rw [← h]
        exact i1
      · have e := rf_nd_nil i1 h
        obtain ⟨m, hm⟩ : ∃ m, a1.toNat = x4.toNat + m := ⟨a1.toNat - x4.toNat, by omega⟩
        have e2 : dz_dr a1.toNat f = .leaf := by
          rw [hm]
          clear hm
          induction m with
          | zero => exact e
          | succ m ih =>
            show dz_dr (x4.toNat + m + 1) f = _
            rw [dz_dr_s, ih]
            rfl
        rw [e2]
        exact h
    · refine ⟨_, ?_, rfl, rfl, _, _, rfl, ?_, by omega, by omega, rfl⟩
      · omega
      · rw [show (x4 + 1).toNat = x4.toNat + 1 by omega, dz_dr_s]
        obtain ⟨ff, x, e1, _, _, _, e5⟩ := rf_nd_cons i1 (by omega)
        rw [e1]
        exact e5
/-- the heads of a row -/
def dz_hs : rf_N → List Int
  | .leaf => []
  | .inner _ k _ _ x => k.2 :: dz_hs x
theorem dz_hs_len : ∀ f : rf_N, (dz_hs f).length = rf_len f
  | .leaf => rfl
  | .inner _ k _ _ x => by
    show (dz_hs x).length + 1 = _
    rw [dz_hs_len x]
    rfl
theorem dz_hs_snoc (p : rf_N) : ∀ f : rf_N, dz_hs (rf_snoc f p) = dz_hs f ++ dz_hs p
  | .leaf => rfl
  | .inner _ k _ _ x => by
    show k.2 :: dz_hs (rf_snoc x p) = _
    rw [dz_hs_snoc p x]
    rfl

theorem w_dz_has {CALL : sx_Ca} {sL : Nat} {sx : Nat → Int32} {Q : Nat → sx_L → sx_S → Prop} {R : Int → sx_S → Prop} {s : sx_S} {a0 a1 : Int} (hQ : Q 2 [(0, .inr (.inl 11)), (1, .inl a0), (2, .inl a1), (3, .inl 0)] s) : sx_wp true sL sx eX7_hasVariable CALL [(2, [0, 1, 2, 3])] Q R 400 0 (sx_argsF 0 [.inr (.inl 11), .inl a0, .inl a1]) [] s := hQ
theorem w_dz_has_2 {CALL : sx_Ca} {sL : Nat} {sx : Nat → Int32} {Q : Nat → sx_L → sx_S → Prop} {R : Int → sx_S → Prop} (h_arity : ∀ (a0 : Int) (s : sx_S) (K : Int → sx_S → Prop), cx_I s → (-2147483648 ≤ a0 ∧ a0 ≤ 2147483647) → (∀ z : Int, (0 ≤ a0 → a0 < s.1 11 6 → z = s.2.1 16 a0.toNat) → (a0 < 0 → z = 0) → K z s) → CALL 94 [.inr (.inl 11), .inl a0] s K) (h_head : ∀ (a0 : Int) (s : sx_S) (K : Int → sx_S → Prop), cx_I s → (-2147483648 ≤ a0 ∧ a0 ≤ 2147483647) → (∀ z : Int, (0 ≤ a0 → a0 < s.1 11 6 → z = s.2.1 13 a0.toNat) → (a0 < 0 → z = -1) → K z s) → CALL 92 [.inr (.inl 11), .inl a0] s K) {s : sx_S} {a0 a1 x3 w : Int} (h_arg : x3 < s.2.1 16 a0.toNat → ∀ K : Int → sx_S → Prop, K w s → CALL 95 [.inr (.inl 11), .inl a0, .inl x3] s K) (hI : cx_I s) (p0 : 0 ≤ a0 ∧ a0 < s.1 11 6) (p1 : -2147483648 ≤ a1 ∧ a1 ≤ 2147483647) (q3 : 0 ≤ x3 ∧ x3 ≤ s.2.1 16 a0.toNat ∧ s.2.1 16 a0.toNat ≤ 1024) (qw : x3 < s.2.1 16 a0.toNat → 0 ≤ w ∧ w < s.1 11 6) (hK0 : x3 = s.2.1 16 a0.toNat → R 0 s) (hK1 : x3 < s.2.1 16 a0.toNat → s.2.1 13 w.toNat = a1 → R 1 s) (hQ : x3 < s.2.1 16 a0.toNat → s.2.1 13 w.toNat ≠ a1 → Q 2 [(0, .inr (.inl 11)), (1, .inl a0), (2, .inl a1), (3, .inl (x3 + 1))] s) : sx_wp true sL sx eX7_hasVariable CALL [(2, [0, 1, 2, 3])] Q R 400 2 [(0, .inr (.inl 11)), (1, .inl a0), (2, .inl a1), (3, .inl x3)] [] s := by
  have h0 := hI.fld 11 6 (by decide) rfl
  have zzy : sx_w true (x3 + 1) = x3 + 1 := px_wid (by omega) (by omega)
  have zz13 := hI.arr 13 (by decide) rfl w.toNat
  repeat' (first | (with_reducible (rintro _ rfl)) | (with_reducible intro _) | (refine And.intro ?_ ?_) | (refine h_arity _ _ _ ?_ ?_ ?_) | (refine h_head _ _ _ ?_ ?_ ?_) | (refine h_arg (by first | omega | (dsimp only at *; omega)) _ ?_))
  all_goals (try dsimp only at *)
  all_goals (first | trivial | assumption | omega | (exfalso; omega) | (exact hK0 (by omega)) | (exact hK1 (by omega) (by omega)) | (have zz9 := hQ (by omega) (by omega); rw [← zzy] at zz9; exact zz9) | skip)
theorem c_dz_has {sL : Nat} {sx : Nat → Int32} (hsL : sL ≤ 3072) (d : Nat) (hd : 3 ≤ d) : ∀ (a0 a1 : Int) (f : rf_N) (s : sx_S) (R : Int → sx_S → Prop), cx_I s → (0 ≤ a0 ∧ a0 < s.1 11 6) → (-2147483648 ≤ a1 ∧ a1 ≤ 2147483647) → rf_nd (s.2.1 12) (s.2.1 13) (s.2.1 14) (s.2.1 15) (s.1 11 6) f (s.2.1 14 a0.toNat) → s.2.1 16 a0.toNat = (rf_len f : Int) → (rf_len f : Int) ≤ 1024 → (∀ z : Int, (z = 0 ∨ z = 1) → (z ≠ 0 → a1 ∈ dz_hs f) → (z = 0 → a1 ∉ dz_hs f) → R z s) → sx_C sL sx d 96 [.inr (.inl 11), .inl a0, .inl a1] s R := by
  intro a0 a1 f s R hI p0 p1 hf h16 hl hK
  have h0 := hI.fld 11 6 (by decide) rfl
  obtain ⟨d, rfl⟩ : ∃ e, d = e + 2 := ⟨d - 2, by omega⟩
  refine sx_methL (wr := true) (n := 400) (n' := 400) (stop := [(2, [0, 1, 2, 3])]) (fun nn pc ls u => pc = 2 ∧ u = s ∧ ∃ (x3 z : Int), ls = [(0, .inr (.inl 11)), (1, .inl a0), (2, .inl a1), (3, .inl x3)] ∧ rf_nd (s.2.1 12) (s.2.1 13) (s.2.1 14) (s.2.1 15) (s.1 11 6) (dz_dr x3.toNat f) z ∧ 0 ≤ x3 ∧ x3 ≤ (rf_len f : Int) ∧ (a1 ∈ dz_hs f ↔ a1 ∈ dz_hs (dz_dr x3.toNat f)) ∧ nn = ((rf_len f : Int) - x3).toNat) hsL (e := eX7_hasVariable) rfl ?_ ?_
  · exact w_dz_has ⟨_, rfl, rfl, 0, _, rfl, hf, by omega, by omega, Iff.rfl, rfl⟩
  · rintro nn pc ls u ⟨rfl, rfl, x3, z, rfl, i1, i2, i3, i4, rfl⟩
    have ld := dz_dr_len x3.toNat f
    have r3 := rf_nd_rng i1
    by_cases hx : x3 < (rf_len f : Int)
    · have hz : z ≠ -1 := fun e => by
        rw [rf_nd_nil i1 e] at ld
        have : rf_len .leaf = 0 := rfl
        omega
      obtain ⟨ff, x, e1, e2, e3, e4, e5⟩ := rf_nd_cons i1 hz
      have eh : dz_hs (dz_dr x3.toNat f) = u.2.1 13 z.toNat :: dz_hs x := by rw [e1]; rfl
      have ex : dz_dr (x3 + 1).toNat f = x := by
        rw [show (x3 + 1).toNat = x3.toNat + 1 by omega, dz_dr_s, e1]
        rfl
      refine w_dz_has_2 (w := z) (c_dz_arity hsL (d + 1) (by omega)) (c_dz_head hsL (d + 1) (by omega)) (fun _ K hK' => c_dz_arg hsL (d + 1) (by omega) a0 x3 f u K hI p0 (by omega) hf (fun z' _ hz' => ?_)) hI p0 p1 (by omega) (by omega) (fun h => by omega) (fun _ h => hK 1 (Or.inr rfl) (fun _ => i4.mpr ?_) (fun h => absurd h (by decide))) (fun _ h => ?_)
      · have : z' = z := by
          rw [e1] at hz' i1
          exact hz'.1.1.trans i1.1.1.symm
        rw [this]
        exact hK'
      · rw [eh, h]
        exact List.mem_cons_self
      · refine ⟨_, ?_, rfl, rfl, x3 + 1, _, rfl, by rw [ex]; exact e5, by omega, by omega, ?_, rfl⟩
        · omega
        · rw [i4, eh, ex, List.mem_cons]
          exact ⟨fun q => q.elim (fun q => absurd q.symm h) id, Or.inr⟩
    · refine w_dz_has_2 (w := 0) (c_dz_arity hsL (d + 1) (by omega)) (c_dz_head hsL (d + 1) (by omega)) (fun h => absurd h (by omega)) hI p0 p1 (by omega) (by omega) (fun _ => hK 0 (Or.inl rfl) (fun h => absurd rfl h) (fun _ h => ?_)) (fun h => absurd h (by omega)) (fun h => absurd h (by omega))
      · have := i4.mp h
        have e := dz_hs_len (dz_dr x3.toNat f)
        rw [ld, show rf_len f - x3.toNat = 0 by omega] at e
        rw [List.length_eq_zero_iff.mp e] at this
        exact absurd this List.not_mem_nil
end
