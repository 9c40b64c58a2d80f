section
/-! ===== the writer's pile ===== -/
theorem w_dv_pair56 {CALL : sx_Ca} {sL : Nat} {sx : Nat → Int32} {Q : Nat → sx_L → sx_S → Prop} {R : Int → sx_S → Prop} {s : sx_S} {a0 a1 a2 a3 a4 a5 : Int} (hI : cx_I s) (hN : s.1 56 6 < 512) (p0 : -2147483648 ≤ a0 ∧ a0 ≤ 2147483647) (p1 : -2147483648 ≤ a1 ∧ a1 ≤ 2147483647) (p2 : -2147483648 ≤ a2 ∧ a2 ≤ 2147483647) (p3 : -2147483648 ≤ a3 ∧ a3 ≤ 2147483647) (p4 : -2147483648 ≤ a4 ∧ a4 ≤ 2147483647) (p5 : -2147483648 ≤ a5 ∧ a5 ≤ 2147483647) (hK : ∀ z t, cx_I t → cx_F [(56, 62)] s t → dv_pu 56 (a0, a1, a2, a3, a4, a5) s t → R z t) : sx_wp true sL sx eX5_pushPair CALL [] Q R 400 0 (sx_argsF 0 [.inr (.inl 56), .inl a0, .inl a1, .inl a2, .inl a3, .inl a4, .inl a5]) [] s := by
  have h0 := hI.fld 56 6 (by decide) rfl
  have m3 : dv_pu 56 (a0, a1, a2, a3, a4, a5) s (sx_uf s.1 56 6 (s.1 56 6 + 1), (sx_ua (sx_ua (sx_ua (sx_ua (sx_ua (sx_ua s.2.1 57 (s.1 56 6).toNat a0) 58 (s.1 56 6).toNat a1) 59 (s.1 56 6).toNat a2) 60 (s.1 56 6).toNat a3) 61 (s.1 56 6).toNat a4) 62 (s.1 56 6).toNat a5), s.2.2) := fun _ => by
    refine ⟨by dsimp only; exact px_us _ _ _ _, fun j hj => ?_, ?_⟩
    · have hj2 : j ≠ (s.1 56 6).toNat := by omega
      simp [sx_ua_if, hj2]
    · simp [sx_ua_if]
  have m1 : cx_I (sx_uf s.1 56 6 (s.1 56 6 + 1), (sx_ua (sx_ua (sx_ua (sx_ua (sx_ua (sx_ua s.2.1 57 (s.1 56 6).toNat a0) 58 (s.1 56 6).toNat a1) 59 (s.1 56 6).toNat a2) 60 (s.1 56 6).toNat a3) 61 (s.1 56 6).toNat a4) 62 (s.1 56 6).toNat a5), s.2.2) := cx_I_uf rfl rfl (cx_I_ua rfl rfl (cx_I_ua rfl rfl (cx_I_ua rfl rfl (cx_I_ua rfl rfl (cx_I_ua rfl rfl (cx_I_ua rfl rfl hI (by omega) (by omega)) (by omega) (by omega)) (by omega) (by omega)) (by omega) (by omega)) (by omega) (by omega)) (by omega) (by omega)) (by omega) (by omega)
  have zz1 := fun z => hK z _ m1 (cx_F_uf rfl (cx_F_ua rfl (cx_F_ua rfl (cx_F_ua rfl (cx_F_ua rfl (cx_F_ua rfl (cx_F_ua rfl (cx_F_refl _ _)))))))) m3
  have zzu : sx_w true (s.1 56 6 + 1) = s.1 56 6 + 1 := px_wid (by omega) (by omega)
  repeat' (first | (with_reducible (rintro _ rfl)) | (with_reducible intro _) | (refine And.intro ?_ ?_))
  all_goals (try dsimp only at *)
  all_goals (first | trivial | assumption | omega | (exfalso; omega) | (show R _ _; simp only [px_us, zzu]; exact zz1 _) | (simp only [px_us, zzu] at *; first | assumption | omega) | (repeat' (first | (with_reducible assumption) | ((with_reducible (change cx_I (sx_uf _ _ _ _, _))); refine cx_I_uf rfl rfl ?_ ?_ ?_) | ((with_reducible (change cx_I (_, sx_ua _ _ _ _, _))); refine cx_I_ua rfl rfl ?_ ?_ ?_) | ((with_reducible (change cx_I (_, sx_ua _ 16 _ _, _))); refine cx_I_ari ?_ ?_ ?_) | ((with_reducible (change cx_I (sx_uf _ 11 6 _, _))); refine cx_I_ufA rfl ?_ ?_ ?_ ?_) | (with_reducible exact cx_F_refl _ _) | ((with_reducible (change cx_F _ _ (sx_uf _ _ _ _, _))); refine cx_F_uf rfl ?_) | ((with_reducible (change cx_F _ _ (_, sx_ua _ _ _ _, _))); refine cx_F_ua rfl ?_) | ((with_reducible (change cx_I (_, sx_cpy _ _ _ _ _ _, _))); refine cx_I_cpy rfl rfl rfl (by decide) ?_) | ((with_reducible (change cx_F _ _ (_, sx_cpy _ _ _ _ _ _, _))); refine cx_F_cpy rfl ?_) | ((with_reducible (change cx_F _ _ _)); refine cx_F_step (by assumption) rfl ?_) | fail)) | skip)
  all_goals (first | trivial | assumption | omega | (simp only [px_us, zzu] at *; omega) | skip)
theorem c_dv_pair56 {sL : Nat} {sx : Nat → Int32} (hsL : sL ≤ 3072) (d : Nat) (hd : 2 ≤ d) : ∀ (a0 a1 a2 a3 a4 a5 : Int) (s : sx_S) (R : Int → sx_S → Prop), cx_I s → s.1 56 6 < 512 → (-2147483648 ≤ a0 ∧ a0 ≤ 2147483647) → (-2147483648 ≤ a1 ∧ a1 ≤ 2147483647) → (-2147483648 ≤ a2 ∧ a2 ≤ 2147483647) → (-2147483648 ≤ a3 ∧ a3 ≤ 2147483647) → (-2147483648 ≤ a4 ∧ a4 ≤ 2147483647) → (-2147483648 ≤ a5 ∧ a5 ≤ 2147483647) → (∀ z t, cx_I t → cx_F [(56, 62)] s t → dv_pu 56 (a0, a1, a2, a3, a4, a5) s t → R z t) → sx_C sL sx d 61 [.inr (.inl 56), .inl a0, .inl a1, .inl a2, .inl a3, .inl a4, .inl a5] s R := by
  intro a0 a1 a2 a3 a4 a5 s R hI hN p0 p1 p2 p3 p4 p5 hK
  obtain ⟨d, rfl⟩ : ∃ e, d = e + 2 := ⟨d - 2, by omega⟩
  exact sx_meth (wr := true) (n := 400) hsL (e := eX5_pushPair) rfl (w_dv_pair56 (Q := fun _ _ _ => False) hI hN p0 p1 p2 p3 p4 p5 hK)

theorem w_dv_push56 {CALL : sx_Ca} {sL : Nat} {sx : Nat → Int32} {Q : Nat → sx_L → sx_S → Prop} {R : Int → sx_S → Prop} (h_pair : ∀ (a0 a1 a2 a3 a4 a5 : Int) (s : sx_S) (R : Int → sx_S → Prop), cx_I s → s.1 56 6 < 512 → (-2147483648 ≤ a0 ∧ a0 ≤ 2147483647) → (-2147483648 ≤ a1 ∧ a1 ≤ 2147483647) → (-2147483648 ≤ a2 ∧ a2 ≤ 2147483647) → (-2147483648 ≤ a3 ∧ a3 ≤ 2147483647) → (-2147483648 ≤ a4 ∧ a4 ≤ 2147483647) → (-2147483648 ≤ a5 ∧ a5 ≤ 2147483647) → (∀ z t, cx_I t → cx_F [(56, 62)] s t → dv_pu 56 (a0, a1, a2, a3, a4, a5) s t → R z t) → CALL 61 [.inr (.inl 56), .inl a0, .inl a1, .inl a2, .inl a3, .inl a4, .inl a5] s R) {s : sx_S} {a0 a1 a2 a3 : Int} (hI : cx_I s) (hN : s.1 56 6 < 512) (p0 : -2147483648 ≤ a0 ∧ a0 ≤ 2147483647) (p1 : -2147483648 ≤ a1 ∧ a1 ≤ 2147483647) (p2 : -2147483648 ≤ a2 ∧ a2 ≤ 2147483647) (p3 : -2147483648 ≤ a3 ∧ a3 ≤ 2147483647) (hK : ∀ z t, cx_I t → cx_F [(56, 62)] s t → dv_pu 56 (a0, a1, -1, -1, a2, a3) s t → R z t) : sx_wp true sL sx eX5_push CALL [] Q R 400 0 (sx_argsF 0 [.inr (.inl 56), .inl a0, .inl a1, .inl a2, .inl a3]) [] s := by
  refine h_pair _ _ _ _ _ _ _ _ hI hN p0 p1 (by omega) (by omega) p2 p3 (fun z t t1 t2 t3 => ?_)
  have zz1 := fun z => hK z _ t1 t2 t3
  repeat' (first | (with_reducible (rintro _ rfl)) | (with_reducible intro _) | (refine And.intro ?_ ?_))
  all_goals (try dsimp only at *)
  all_goals (first | trivial | assumption | omega | (exfalso; omega) | exact zz1 _ | skip)
theorem c_dv_push56 {sL : Nat} {sx : Nat → Int32} (hsL : sL ≤ 3072) (d : Nat) (hd : 3 ≤ d) : ∀ (a0 a1 a2 a3 : Int) (s : sx_S) (R : Int → sx_S → Prop), cx_I s → s.1 56 6 < 512 → (-2147483648 ≤ a0 ∧ a0 ≤ 2147483647) → (-2147483648 ≤ a1 ∧ a1 ≤ 2147483647) → (-2147483648 ≤ a2 ∧ a2 ≤ 2147483647) → (-2147483648 ≤ a3 ∧ a3 ≤ 2147483647) → (∀ z t, cx_I t → cx_F [(56, 62)] s t → dv_pu 56 (a0, a1, -1, -1, a2, a3) s t → R z t) → sx_C sL sx d 60 [.inr (.inl 56), .inl a0, .inl a1, .inl a2, .inl a3] s R := by
  intro a0 a1 a2 a3 s R hI hN p0 p1 p2 p3 hK
  obtain ⟨d, rfl⟩ : ∃ e, d = e + 2 := ⟨d - 2, by omega⟩
  exact sx_meth (wr := true) (n := 400) hsL (e := eX5_push) rfl (w_dv_push56 (Q := fun _ _ _ => False) (c_dv_pair56 hsL (d + 1) (by omega)) hI hN p0 p1 p2 p3 hK)

theorem w_dv_pop56 {CALL : sx_Ca} {sL : Nat} {sx : Nat → Int32} {Q : Nat → sx_L → sx_S → Prop} {R : Int → sx_S → Prop} {s : sx_S} (hI : cx_I s) (hK : ∀ (z : Int) (t : sx_S), cx_I t → cx_F [(56, 56)] s t → (0 < s.1 56 6 → t.1 56 6 = s.1 56 6 - 1) → R z t) : sx_wp true sL sx eX5_pop CALL [] Q R 400 0 (sx_argsF 0 [.inr (.inl 56)]) [] s := by
  repeat' (first | (with_reducible intro _) | (refine And.intro ?_ ?_) | (refine hK _ _ ?_ ?_ ?_))
  all_goals (try dsimp only)
  repeat' (first | (with_reducible assumption) | ((with_reducible (change cx_I (sx_uf _ _ _ _, _))); refine cx_I_uf rfl rfl ?_ ?_ ?_) | ((with_reducible (change cx_I (_, sx_ua _ _ _ _, _))); refine cx_I_ua rfl rfl ?_ ?_ ?_) | ((with_reducible (change cx_I (_, sx_ua _ 16 _ _, _))); refine cx_I_ari ?_ ?_ ?_) | ((with_reducible (change cx_I (sx_uf _ 11 6 _, _))); refine cx_I_ufA rfl ?_ ?_ ?_ ?_) | (with_reducible exact cx_F_refl _ _) | ((with_reducible (change cx_F _ _ (sx_uf _ _ _ _, _))); refine cx_F_uf rfl ?_) | ((with_reducible (change cx_F _ _ (_, sx_ua _ _ _ _, _))); refine cx_F_ua rfl ?_) | ((with_reducible (change cx_I (_, sx_cpy _ _ _ _ _ _, _))); refine cx_I_cpy rfl rfl rfl (by decide) ?_) | ((with_reducible (change cx_F _ _ (_, sx_cpy _ _ _ _ _ _, _))); refine cx_F_cpy rfl ?_) | ((with_reducible (change cx_F _ _ _)); refine cx_F_step (by assumption) rfl ?_) | fail)
  all_goals (first | trivial | omega | (dsimp only at *; omega) | (simp only [sx_uf_if, sx_ua_if, sx_w_t, true_and, and_true, and_self, and_false, false_and, if_true, if_false, reduceIte] at *; omega) | (subst_vars; rfl) | (subst_vars; decide))

theorem c_dv_pop56 {sL : Nat} {sx : Nat → Int32} (hsL : sL ≤ 3072) (d : Nat) (hd : 2 ≤ d) : ∀ (s : sx_S) (K : Int → sx_S → Prop), cx_I s → (∀ (z : Int) (t : sx_S), cx_I t → cx_F [(56, 56)] s t → (0 < s.1 56 6 → t.1 56 6 = s.1 56 6 - 1) → K z t) → sx_C sL sx d 62 [.inr (.inl 56)] s K := by
  intro  s K hI  hK
  obtain ⟨d, rfl⟩ : ∃ e, d = e + 2 := ⟨d - 2, by omega⟩
  exact sx_meth (wr := true) (n := 400) hsL (e := eX5_pop) rfl (w_dv_pop56 (Q := fun _ _ _ => False)  hI  hK)

theorem w_dv_pnode56 {CALL : sx_Ca} {sL : Nat} {sx : Nat → Int32} {Q : Nat → sx_L → sx_S → Prop} {R : Int → sx_S → Prop} {s : sx_S} (hI : cx_I s) (hK : ∀ z : Int, (s.1 56 6 < 512 → z = s.2.1 57 (s.1 56 6).toNat) → R z s) : sx_wp true sL sx eX5_node CALL [] Q R 400 0 (sx_argsF 0 [.inr (.inl 56)]) [] s := by
  repeat' (first | (with_reducible (rintro _ rfl)) | (with_reducible intro _) | (refine And.intro ?_ ?_) | (refine hK _ ?_))
  all_goals (try dsimp only)
  repeat' (first | (with_reducible assumption) | ((with_reducible (change cx_I (sx_uf _ _ _ _, _))); refine cx_I_uf rfl rfl ?_ ?_ ?_) | ((with_reducible (change cx_I (_, sx_ua _ _ _ _, _))); refine cx_I_ua rfl rfl ?_ ?_ ?_) | ((with_reducible (change cx_I (_, sx_ua _ 16 _ _, _))); refine cx_I_ari ?_ ?_ ?_) | ((with_reducible (change cx_I (sx_uf _ 11 6 _, _))); refine cx_I_ufA rfl ?_ ?_ ?_ ?_) | (with_reducible exact cx_F_refl _ _) | ((with_reducible (change cx_F _ _ (sx_uf _ _ _ _, _))); refine cx_F_uf rfl ?_) | ((with_reducible (change cx_F _ _ (_, sx_ua _ _ _ _, _))); refine cx_F_ua rfl ?_) | ((with_reducible (change cx_I (_, sx_cpy _ _ _ _ _ _, _))); refine cx_I_cpy rfl rfl rfl (by decide) ?_) | ((with_reducible (change cx_F _ _ (_, sx_cpy _ _ _ _ _ _, _))); refine cx_F_cpy rfl ?_) | ((with_reducible (change cx_F _ _ _)); refine cx_F_step (by assumption) rfl ?_) | fail)
  all_goals (try dsimp only at *)
  all_goals (first | trivial | omega | rfl | (intros; omega) | (intros; rfl) | skip)

theorem c_dv_pnode56 {sL : Nat} {sx : Nat → Int32} (hsL : sL ≤ 3072) (d : Nat) (hd : 2 ≤ d) : ∀ (s : sx_S) (K : Int → sx_S → Prop), cx_I s → (∀ z : Int, (s.1 56 6 < 512 → z = s.2.1 57 (s.1 56 6).toNat) → K z s) → sx_C sL sx d 63 [.inr (.inl 56)] s K := by
  intro  s K hI  hK
  obtain ⟨d, rfl⟩ : ∃ e, d = e + 2 := ⟨d - 2, by omega⟩
  exact sx_meth (wr := true) (n := 400) hsL (e := eX5_node) rfl (w_dv_pnode56 (Q := fun _ _ _ => False)  hI  hK)

theorem w_dv_pchain56 {CALL : sx_Ca} {sL : Nat} {sx : Nat → Int32} {Q : Nat → sx_L → sx_S → Prop} {R : Int → sx_S → Prop} {s : sx_S} (hI : cx_I s) (hK : ∀ z : Int, (s.1 56 6 < 512 → z = s.2.1 58 (s.1 56 6).toNat) → R z s) : sx_wp true sL sx eX5_chain CALL [] Q R 400 0 (sx_argsF 0 [.inr (.inl 56)]) [] s := by
  repeat' (first | (with_reducible (rintro _ rfl)) | (with_reducible intro _) | (refine And.intro ?_ ?_) | (refine hK _ ?_))
  all_goals (try dsimp only)
  repeat' (first | (with_reducible assumption) | ((with_reducible (change cx_I (sx_uf _ _ _ _, _))); refine cx_I_uf rfl rfl ?_ ?_ ?_) | ((with_reducible (change cx_I (_, sx_ua _ _ _ _, _))); refine cx_I_ua rfl rfl ?_ ?_ ?_) | ((with_reducible (change cx_I (_, sx_ua _ 16 _ _, _))); refine cx_I_ari ?_ ?_ ?_) | ((with_reducible (change cx_I (sx_uf _ 11 6 _, _))); refine cx_I_ufA rfl ?_ ?_ ?_ ?_) | (with_reducible exact cx_F_refl _ _) | ((with_reducible (change cx_F _ _ (sx_uf _ _ _ _, _))); refine cx_F_uf rfl ?_) | ((with_reducible (change cx_F _ _ (_, sx_ua _ _ _ _, _))); refine cx_F_ua rfl ?_) | ((with_reducible (change cx_I (_, sx_cpy _ _ _ _ _ _, _))); refine cx_I_cpy rfl rfl rfl (by decide) ?_) | ((with_reducible (change cx_F _ _ (_, sx_cpy _ _ _ _ _ _, _))); refine cx_F_cpy rfl ?_) | ((with_reducible (change cx_F _ _ _)); refine cx_F_step (by assumption) rfl ?_) | fail)
  all_goals (try dsimp only at *)
  all_goals (first | trivial | omega | rfl | (intros; omega) | (intros; rfl) | skip)

theorem c_dv_pchain56 {sL : Nat} {sx : Nat → Int32} (hsL : sL ≤ 3072) (d : Nat) (hd : 2 ≤ d) : ∀ (s : sx_S) (K : Int → sx_S → Prop), cx_I s → (∀ z : Int, (s.1 56 6 < 512 → z = s.2.1 58 (s.1 56 6).toNat) → K z s) → sx_C sL sx d 64 [.inr (.inl 56)] s K := by
  intro  s K hI  hK
  obtain ⟨d, rfl⟩ : ∃ e, d = e + 2 := ⟨d - 2, by omega⟩
  exact sx_meth (wr := true) (n := 400) hsL (e := eX5_chain) rfl (w_dv_pchain56 (Q := fun _ _ _ => False)  hI  hK)

theorem w_dv_plevel56 {CALL : sx_Ca} {sL : Nat} {sx : Nat → Int32} {Q : Nat → sx_L → sx_S → Prop} {R : Int → sx_S → Prop} {s : sx_S} (hI : cx_I s) (hK : ∀ z : Int, (s.1 56 6 < 512 → z = s.2.1 61 (s.1 56 6).toNat) → R z s) : sx_wp true sL sx eX5_level CALL [] Q R 400 0 (sx_argsF 0 [.inr (.inl 56)]) [] s := by
  repeat' (first | (with_reducible (rintro _ rfl)) | (with_reducible intro _) | (refine And.intro ?_ ?_) | (refine hK _ ?_))
  all_goals (try dsimp only)
  repeat' (first | (with_reducible assumption) | ((with_reducible (change cx_I (sx_uf _ _ _ _, _))); refine cx_I_uf rfl rfl ?_ ?_ ?_) | ((with_reducible (change cx_I (_, sx_ua _ _ _ _, _))); refine cx_I_ua rfl rfl ?_ ?_ ?_) | ((with_reducible (change cx_I (_, sx_ua _ 16 _ _, _))); refine cx_I_ari ?_ ?_ ?_) | ((with_reducible (change cx_I (sx_uf _ 11 6 _, _))); refine cx_I_ufA rfl ?_ ?_ ?_ ?_) | (with_reducible exact cx_F_refl _ _) | ((with_reducible (change cx_F _ _ (sx_uf _ _ _ _, _))); refine cx_F_uf rfl ?_) | ((with_reducible (change cx_F _ _ (_, sx_ua _ _ _ _, _))); refine cx_F_ua rfl ?_) | ((with_reducible (change cx_I (_, sx_cpy _ _ _ _ _ _, _))); refine cx_I_cpy rfl rfl rfl (by decide) ?_) | ((with_reducible (change cx_F _ _ (_, sx_cpy _ _ _ _ _ _, _))); refine cx_F_cpy rfl ?_) | ((with_reducible (change cx_F _ _ _)); refine cx_F_step (by assumption) rfl ?_) | fail)
  all_goals (try dsimp only at *)
  all_goals (first | trivial | omega | rfl | (intros; omega) | (intros; rfl) | skip)

theorem c_dv_plevel56 {sL : Nat} {sx : Nat → Int32} (hsL : sL ≤ 3072) (d : Nat) (hd : 2 ≤ d) : ∀ (s : sx_S) (K : Int → sx_S → Prop), cx_I s → (∀ z : Int, (s.1 56 6 < 512 → z = s.2.1 61 (s.1 56 6).toNat) → K z s) → sx_C sL sx d 67 [.inr (.inl 56)] s K := by
  intro  s K hI  hK
  obtain ⟨d, rfl⟩ : ∃ e, d = e + 2 := ⟨d - 2, by omega⟩
  exact sx_meth (wr := true) (n := 400) hsL (e := eX5_level) rfl (w_dv_plevel56 (Q := fun _ _ _ => False)  hI  hK)

theorem w_dv_pmark56 {CALL : sx_Ca} {sL : Nat} {sx : Nat → Int32} {Q : Nat → sx_L → sx_S → Prop} {R : Int → sx_S → Prop} {s : sx_S} (hI : cx_I s) (hK : ∀ z : Int, (s.1 56 6 < 512 → z = s.2.1 62 (s.1 56 6).toNat) → R z s) : sx_wp true sL sx eX5_mark CALL [] Q R 400 0 (sx_argsF 0 [.inr (.inl 56)]) [] s := by
  repeat' (first | (with_reducible (rintro _ rfl)) | (with_reducible intro _) | (refine And.intro ?_ ?_) | (refine hK _ ?_))
  all_goals (try dsimp only)
  repeat' (first | (with_reducible assumption) | ((with_reducible (change cx_I (sx_uf _ _ _ _, _))); refine cx_I_uf rfl rfl ?_ ?_ ?_) | ((with_reducible (change cx_I (_, sx_ua _ _ _ _, _))); refine cx_I_ua rfl rfl ?_ ?_ ?_) | ((with_reducible (change cx_I (_, sx_ua _ 16 _ _, _))); refine cx_I_ari ?_ ?_ ?_) | ((with_reducible (change cx_I (sx_uf _ 11 6 _, _))); refine cx_I_ufA rfl ?_ ?_ ?_ ?_) | (with_reducible exact cx_F_refl _ _) | ((with_reducible (change cx_F _ _ (sx_uf _ _ _ _, _))); refine cx_F_uf rfl ?_) | ((with_reducible (change cx_F _ _ (_, sx_ua _ _ _ _, _))); refine cx_F_ua rfl ?_) | ((with_reducible (change cx_I (_, sx_cpy _ _ _ _ _ _, _))); refine cx_I_cpy rfl rfl rfl (by decide) ?_) | ((with_reducible (change cx_F _ _ (_, sx_cpy _ _ _ _ _ _, _))); refine cx_F_cpy rfl ?_) | ((with_reducible (change cx_F _ _ _)); refine cx_F_step (by assumption) rfl ?_) | fail)
  all_goals (try dsimp only at *)
  all_goals (first | trivial | omega | rfl | (intros; omega) | (intros; rfl) | skip)

theorem c_dv_pmark56 {sL : Nat} {sx : Nat → Int32} (hsL : sL ≤ 3072) (d : Nat) (hd : 2 ≤ d) : ∀ (s : sx_S) (K : Int → sx_S → Prop), cx_I s → (∀ z : Int, (s.1 56 6 < 512 → z = s.2.1 62 (s.1 56 6).toNat) → K z s) → sx_C sL sx d 68 [.inr (.inl 56)] s K := by
  intro  s K hI  hK
  obtain ⟨d, rfl⟩ : ∃ e, d = e + 2 := ⟨d - 2, by omega⟩
  exact sx_meth (wr := true) (n := 400) hsL (e := eX5_mark) rfl (w_dv_pmark56 (Q := fun _ _ _ => False)  hI  hK)

theorem w_dv_pempty56 {CALL : sx_Ca} {sL : Nat} {sx : Nat → Int32} {Q : Nat → sx_L → sx_S → Prop} {R : Int → sx_S → Prop} {s : sx_S} (hI : cx_I s) (hK : ∀ z : Int, (0 ≤ z ∧ z ≤ 1) → (s.1 56 6 = 0 → z = 1) → (s.1 56 6 ≠ 0 → z = 0) → R z s) : sx_wp true sL sx eX5_isEmpty CALL [] Q R 400 0 (sx_argsF 0 [.inr (.inl 56)]) [] s := by
  repeat' (first | (with_reducible intro _) | (refine And.intro ?_ ?_) | (refine hK _ ?_ ?_ ?_))
  all_goals (try dsimp only)
  repeat' (first | (with_reducible assumption) | ((with_reducible (change cx_I (sx_uf _ _ _ _, _))); refine cx_I_uf rfl rfl ?_ ?_ ?_) | ((with_reducible (change cx_I (_, sx_ua _ _ _ _, _))); refine cx_I_ua rfl rfl ?_ ?_ ?_) | ((with_reducible (change cx_I (_, sx_ua _ 16 _ _, _))); refine cx_I_ari ?_ ?_ ?_) | ((with_reducible (change cx_I (sx_uf _ 11 6 _, _))); refine cx_I_ufA rfl ?_ ?_ ?_ ?_) | (with_reducible exact cx_F_refl _ _) | ((with_reducible (change cx_F _ _ (sx_uf _ _ _ _, _))); refine cx_F_uf rfl ?_) | ((with_reducible (change cx_F _ _ (_, sx_ua _ _ _ _, _))); refine cx_F_ua rfl ?_) | ((with_reducible (change cx_I (_, sx_cpy _ _ _ _ _ _, _))); refine cx_I_cpy rfl rfl rfl (by decide) ?_) | ((with_reducible (change cx_F _ _ (_, sx_cpy _ _ _ _ _ _, _))); refine cx_F_cpy rfl ?_) | ((with_reducible (change cx_F _ _ _)); refine cx_F_step (by assumption) rfl ?_) | fail)
  all_goals (try dsimp only at *)
  all_goals (first | trivial | omega | rfl | (intros; omega) | (intros; rfl) | skip)

theorem c_dv_pempty56 {sL : Nat} {sx : Nat → Int32} (hsL : sL ≤ 3072) (d : Nat) (hd : 2 ≤ d) : ∀ (s : sx_S) (K : Int → sx_S → Prop), cx_I s → (∀ z : Int, (0 ≤ z ∧ z ≤ 1) → (s.1 56 6 = 0 → z = 1) → (s.1 56 6 ≠ 0 → z = 0) → K z s) → sx_C sL sx d 59 [.inr (.inl 56)] s K := by
  intro  s K hI  hK
  obtain ⟨d, rfl⟩ : ∃ e, d = e + 2 := ⟨d - 2, by omega⟩
  exact sx_meth (wr := true) (n := 400) hsL (e := eX5_isEmpty) rfl (w_dv_pempty56 (Q := fun _ _ _ => False)  hI  hK)

theorem w_dv_pclear56 {CALL : sx_Ca} {sL : Nat} {sx : Nat → Int32} {Q : Nat → sx_L → sx_S → Prop} {R : Int → sx_S → Prop} {s : sx_S} (hI : cx_I s) (hK : ∀ (z : Int) (t : sx_S), cx_I t → cx_F [(56, 56)] s t → (t.1 56 6 = 0) → R z t) : sx_wp true sL sx eX5_clear CALL [] Q R 400 0 (sx_argsF 0 [.inr (.inl 56)]) [] s := by
  repeat' (first | (with_reducible intro _) | (refine And.intro ?_ ?_) | (refine hK _ _ ?_ ?_ ?_))
  all_goals (try dsimp only)
  repeat' (first | (with_reducible assumption) | ((with_reducible (change cx_I (sx_uf _ _ _ _, _))); refine cx_I_uf rfl rfl ?_ ?_ ?_) | ((with_reducible (change cx_I (_, sx_ua _ _ _ _, _))); refine cx_I_ua rfl rfl ?_ ?_ ?_) | ((with_reducible (change cx_I (_, sx_ua _ 16 _ _, _))); refine cx_I_ari ?_ ?_ ?_) | ((with_reducible (change cx_I (sx_uf _ 11 6 _, _))); refine cx_I_ufA rfl ?_ ?_ ?_ ?_) | (with_reducible exact cx_F_refl _ _) | ((with_reducible (change cx_F _ _ (sx_uf _ _ _ _, _))); refine cx_F_uf rfl ?_) | ((with_reducible (change cx_F _ _ (_, sx_ua _ _ _ _, _))); refine cx_F_ua rfl ?_) | ((with_reducible (change cx_I (_, sx_cpy _ _ _ _ _ _, _))); refine cx_I_cpy rfl rfl rfl (by decide) ?_) | ((with_reducible (change cx_F _ _ (_, sx_cpy _ _ _ _ _ _, _))); refine cx_F_cpy rfl ?_) | ((with_reducible (change cx_F _ _ _)); refine cx_F_step (by assumption) rfl ?_) | fail)
  all_goals (first | trivial | omega | (dsimp only at *; omega) | (simp only [sx_uf_if, sx_ua_if, sx_w_t, true_and, and_true, and_self, and_false, false_and, if_true, if_false, reduceIte] at *; omega) | (subst_vars; rfl) | (subst_vars; decide))

theorem c_dv_pclear56 {sL : Nat} {sx : Nat → Int32} (hsL : sL ≤ 3072) (d : Nat) (hd : 2 ≤ d) : ∀ (s : sx_S) (K : Int → sx_S → Prop), cx_I s → (∀ (z : Int) (t : sx_S), cx_I t → cx_F [(56, 56)] s t → (t.1 56 6 = 0) → K z t) → sx_C sL sx d 58 [.inr (.inl 56)] s K := by
  intro  s K hI  hK
  obtain ⟨d, rfl⟩ : ∃ e, d = e + 2 := ⟨d - 2, by omega⟩
  exact sx_meth (wr := true) (n := 400) hsL (e := eX5_clear) rfl (w_dv_pclear56 (Q := fun _ _ _ => False)  hI  hK)
end
section
/-! ===== numbering, as a walk over what is still to be read (pure) ===== -/
/-- a term, what its variables are, how many are bound around -/
abbrev wd_I : Type := rf_N × (Int → Int) × Int
def wd_v (th : Int → rf_N) (AR : Nat → List Int) (q : wd_I) : rf_N := vx_val th AR q.1 q.2.1 q.2.2
/-- all of it, one behind the other -/
def wd_f (th : Int → rf_N) (AR : Nat → List Int) : List wd_I → List (Int × List Int) → List (Int × List Int)
  | [], a => a
  | q :: l, a => wd_f th AR l (wz_go (wd_v th AR q) a)
theorem wd_f_app {th : Int → rf_N} {AR : Nat → List Int} {l : List wd_I} : ∀ {l' : List wd_I} {a : List (Int × List Int)}, wd_f th AR (l' ++ l) a = wd_f th AR l (wd_f th AR l' a)
  | [], _ => rfl
  | q :: l', a => wd_f_app (l' := l')
/-- sn: the given unknowns that were read, or are being read: what is met in them is numbered, or stands in what comes first -/
def wd_P (th : Int → rf_N) (AR : Nat → List Int) (rk : Int → Nat) (sn : Int → Prop) (a Z : List (Int × List Int)) (l : List wd_I) : Prop := True → wd_f th AR l a = Z ∧ ∀ m, sn m → ∃ l1 l2, l = l1 ++ l2 ∧ (∀ x, wz_oc x (th m) → x ∈ a.map Prod.fst ∨ ∃ q ∈ l1, wz_oc x (wd_v th AR q)) ∧ ∀ q ∈ l1, vx_bl rk (rk m) q.1
theorem wd_P_rep {th : Int → rf_N} {AR : Nat → List Int} {rk : Int → Nat} {sn : Int → Prop} {a Z : List (Int × List Int)} {q : wd_I} {qs l : List wd_I} (hf : ∀ a, wd_f th AR qs a = wz_go (wd_v th AR q) a) (ho : ∀ x, wz_oc x (wd_v th AR q) → ∃ q' ∈ qs, wz_oc x (wd_v th AR q')) (hb : ∀ r, vx_bl rk r q.1 → ∀ q' ∈ qs, vx_bl rk r q'.1) (h : wd_P th AR rk sn a Z (q :: l)) : wd_P th AR rk sn a Z (qs ++ l) := fun _ => by
  obtain ⟨h1, h2⟩ := h trivial
  refine ⟨by rw [wd_f_app, hf]; exact h1, fun m hm => ?_⟩
  obtain ⟨l1, l2, e, h3, h4⟩ := h2 m hm
  cases l1 with
  | nil => exact ⟨[], qs ++ l, rfl, fun x hx => (h3 x hx).imp id (fun ⟨q', hq, _⟩ => absurd hq List.not_mem_nil), fun q' hq => absurd hq List.not_mem_nil⟩
  | cons q0 l1 =>
    rw [List.cons_append] at e
    obtain ⟨e1, e2⟩ := List.cons.inj e
    subst e1 e2
    refine ⟨qs ++ l1, l2, (List.append_assoc _ _ _).symm, fun x hx => ?_, fun q' hq => ?_⟩
    · rcases h3 x hx with c | ⟨q', hq, hx'⟩
      · exact Or.inl c
      · rcases List.mem_cons.mp hq with rfl | hq
        · obtain ⟨q2, c1, c2⟩ := ho x hx'
          exact Or.inr ⟨q2, List.mem_append_left _ c1, c2⟩
        · exact Or.inr ⟨q', List.mem_append_right _ hq, hx'⟩
    · rcases List.mem_append.mp hq with hq | hq
      · exact hb _ (h4 q List.mem_cons_self) q' hq
      · exact h4 q' (List.mem_cons_of_mem _ hq)
/-- an open unknown is numbered -/
theorem wd_P_op {th : Int → rf_N} {AR : Nat → List Int} {rk : Int → Nat} {sn : Int → Prop} {a Z : List (Int × List Int)} {q : wd_I} {l : List wd_I} {h : Int} {F : rf_N} (hv : wd_v th AR q = rf_n 0 1 h F .leaf) (hh : h < 0) (hP : wd_P th AR rk sn a Z (q :: l)) : wd_P th AR rk sn (wz_ad a h (dz_hs F)) Z l := fun _ => by
  obtain ⟨h1, h2⟩ := hP trivial
  have e1 : wz_go (wd_v th AR q) a = wz_ad a h (dz_hs F) := by
    rw [hv]
    show wz_go (.inner 0 (1, h) () F .leaf) a = _
    rw [wz_go_in, if_pos ⟨rfl, hh⟩]
    rfl
  have h1' : wd_f th AR l (wz_go (wd_v th AR q) a) = Z := h1
  rw [e1] at h1'
  refine ⟨h1', fun m hm => ?_⟩
  obtain ⟨l1, l2, e, h3, h4⟩ := h2 m hm
  have ex : ∀ x, wz_oc x (wd_v th AR q) → x ∈ (wz_ad a h (dz_hs F)).map Prod.fst := fun x hx => by
    rw [← e1, wz_go_mem]
    exact Or.inr hx
  have ea : ∀ x, x ∈ a.map Prod.fst → x ∈ (wz_ad a h (dz_hs F)).map Prod.fst := fun x hx => wz_ad_mem.mpr (Or.inl hx)
  cases l1 with
  | nil => exact ⟨[], l, rfl, fun x hx => (h3 x hx).imp (ea x) (fun ⟨q', hq, _⟩ => absurd hq List.not_mem_nil), fun q' hq => absurd hq List.not_mem_nil⟩
  | cons q0 l1 =>
    rw [List.cons_append] at e
    obtain ⟨e1, e2⟩ := List.cons.inj e
    subst e1 e2
    refine ⟨l1, l2, rfl, fun x hx => ?_, fun q' hq => h4 q' (List.mem_cons_of_mem _ hq)⟩
    rcases h3 x hx with c | ⟨q', hq, hx'⟩
    · exact Or.inl (ea x c)
    · rcases List.mem_cons.mp hq with rfl | hq
      · exact Or.inl (ex x hx')
      · exact Or.inr ⟨q', hq, hx'⟩
/-- a call whose open unknowns are all numbered is passed over -/
theorem wd_P_drop {th : Int → rf_N} {AR : Nat → List Int} {rk : Int → Nat} {sn : Int → Prop} {a Z : List (Int × List Int)} {q : wd_I} {l : List wd_I} (hs : ∀ x, wz_oc x (wd_v th AR q) → x ∈ a.map Prod.fst) (hP : wd_P th AR rk sn a Z (q :: l)) : wd_P th AR rk sn a Z l := fun _ => by
  obtain ⟨h1, h2⟩ := hP trivial
  have h1' : wd_f th AR l (wz_go (wd_v th AR q) a) = Z := h1
  rw [wz_go_sub hs] at h1'
  refine ⟨h1', fun m hm => ?_⟩
  obtain ⟨l1, l2, e, h3, h4⟩ := h2 m hm
  cases l1 with
  | nil => exact ⟨[], l, rfl, fun x hx => (h3 x hx).imp id (fun ⟨q', hq, _⟩ => absurd hq List.not_mem_nil), fun q' hq => absurd hq List.not_mem_nil⟩
  | cons q0 l1 =>
    rw [List.cons_append] at e
    obtain ⟨e1, e2⟩ := List.cons.inj e
    subst e1 e2
    refine ⟨l1, l2, rfl, fun x hx => ?_, fun q' hq => h4 q' (List.mem_cons_of_mem _ hq)⟩
    rcases h3 x hx with c | ⟨q', hq, hx'⟩
    · exact Or.inl c
    · rcases List.mem_cons.mp hq with rfl | hq
      · exact Or.inl (hs x hx')
      · exact Or.inr ⟨q', hq, hx'⟩
/-- a given unknown that was read: all is numbered that stands in it -/
theorem wd_P_sn {th : Int → rf_N} {AR : Nat → List Int} {rk : Int → Nat} {sn : Int → Prop} {a Z : List (Int × List Int)} {q : wd_I} {l : List wd_I} {m : Int} (hm : sn m) (hq : vx_mt m q.1) (hP : wd_P th AR rk sn a Z (q :: l)) : ∀ x, wz_oc x (th m) → x ∈ a.map Prod.fst := fun x hx => by
  obtain ⟨_, h2⟩ := hP trivial
  obtain ⟨l1, l2, e, h3, h4⟩ := h2 m hm
  cases l1 with
  | nil =>
    rcases h3 x hx with c | ⟨q', hq', _⟩
    · exact c
    · exact absurd hq' List.not_mem_nil
  | cons q0 l1 =>
    rw [List.cons_append] at e
    obtain ⟨e1, _⟩ := List.cons.inj e
    subst e1
    exact absurd (h4 q List.mem_cons_self m hq) (Nat.lt_irrefl _)
/-- into the body of one that was not yet read -/
theorem wd_P_in {th : Int → rf_N} {AR : Nat → List Int} {rk : Int → Nat} {sn sn' : Int → Prop} {a Z : List (Int × List Int)} {q q' : wd_I} {l : List wd_I} {m : Int} (hs : ∀ x, sn' x → sn x ∨ x = m) (hv : wd_v th AR q' = wd_v th AR q) (ho : ∀ x, wz_oc x (th m) → wz_oc x (wd_v th AR q)) (hm : vx_mt m q.1) (hb : vx_bl rk (rk m) q'.1) (hP : wd_P th AR rk sn a Z (q :: l)) : wd_P th AR rk sn' a Z (q' :: l) := fun _ => by
  obtain ⟨h1, h2⟩ := wd_P_rep (qs := [q']) (fun a => by show wz_go (wd_v th AR q') a = _; rw [hv]) (fun x hx => ⟨q', List.mem_cons_self, by rw [hv]; exact hx⟩) (fun r hr q2 hq2 => by
    rw [List.mem_singleton.mp hq2]
    intro x hx
    have c1 := hb x hx
    have c2 := hr m hm
    omega) hP trivial
  refine ⟨h1, fun x hx => ?_⟩
  rcases hs x hx with c | c
  · exact h2 x c
  · subst c
    exact ⟨[q'], l, rfl, fun z hz => Or.inr ⟨q', List.mem_cons_self, by rw [hv]; exact ho z hz⟩, fun q2 hq2 => by rw [List.mem_singleton.mp hq2]; exact hb⟩
/-- a \; a head with ARGs -/
theorem wd_P_lam {th : Int → rf_N} {AR : Nat → List Int} {rk : Int → Nat} {sn : Int → Prop} {a Z : List (Int × List Int)} {j : Nat} {x L : Int} {F : rf_N} {e : Int → Int} {l : List wd_I} (hP : wd_P th AR rk sn a Z ((rf_n j 0 x F .leaf, e, L) :: l)) : wd_P th AR rk sn a Z ((F, vx_up e x L, L + 1) :: l) := by
  have ev : wd_v th AR (rf_n j 0 x F .leaf, e, L) = rf_n 0 0 0 (wd_v th AR (F, vx_up e x L, L + 1)) .leaf := by
    show vx_val th AR (rf_n j 0 x F .leaf) e L = _
    rw [vx_val_in, if_pos rfl]
    rfl
  refine wd_P_rep (qs := [(F, vx_up e x L, L + 1)]) (fun a => ?_) (fun z hz => ?_) (fun r hr q' hq' => ?_) hP
  · show wz_go (wd_v th AR (F, vx_up e x L, L + 1)) a = _
    rw [ev]
    show _ = wz_go (.inner 0 (0, 0) () (wd_v th AR (F, vx_up e x L, L + 1)) .leaf) a
    rw [wz_go_in, if_neg (by decide)]
    rfl
  · rw [ev] at hz
    have hz' : wz_oc z (.inner 0 (0, 0) () (wd_v th AR (F, vx_up e x L, L + 1)) .leaf) := hz
    rw [wz_oc_in, if_neg (by decide)] at hz'
    rcases hz' with hz' | hz'
    · exact ⟨_, List.mem_cons_self, hz'⟩
    · exact hz'.elim
  · rw [List.mem_singleton.mp hq']
    exact fun m hm => hr m (Or.inr (Or.inl ⟨vx_03, hm⟩))
theorem wd_go_el {th : Int → rf_N} {AR : Nat → List Int} (hg : ∀ m, vx_on (th m)) {e : Int → Int} {L : Int} : ∀ {F : rf_N} {a : List (Int × List Int)}, wd_f th AR ((vx_el F).map (fun A => (A, e, L))) a = wz_go (vx_val th AR F e L) a
  | .leaf, _ => rfl
  | .inner j q u F X, a => by
    show wd_f th AR ((vx_el X).map (fun A => (A, e, L))) (wz_go (vx_val th AR (.inner j q () F .leaf) e L) a) = _
    rw [wd_go_el hg (F := X), vx_val_1 hg j q u F X e L]
    obtain ⟨k, h, G, hG⟩ := vx_val_one hg (AR := AR) j q u F e L
    have hG' : vx_val th AR (.inner j q () F .leaf) e L = rf_n 0 k h G .leaf := hG
    rw [hG']
    rfl
theorem wd_oc_el {th : Int → rf_N} {AR : Nat → List Int} (hg : ∀ m, vx_on (th m)) {e : Int → Int} {L x : Int} : ∀ {F : rf_N}, wz_oc x (vx_val th AR F e L) → ∃ A ∈ vx_el F, wz_oc x (vx_val th AR A e L)
  | .leaf, h => h.elim
  | .inner j q u F X, h => by
    rw [vx_val_1 hg j q u F X e L, wz_sb_oc (vx_val_one hg j q u F e L)] at h
    rcases h with h | h
    · exact ⟨.inner j q () F .leaf, List.mem_cons_self, h⟩
    · obtain ⟨A, h1, h2⟩ := wd_oc_el hg h
      exact ⟨A, List.mem_cons_of_mem _ h1, h2⟩
theorem wd_P_rig {th : Int → rf_N} {AR : Nat → List Int} (hg : ∀ m, vx_on (th m)) {rk : Int → Nat} {sn : Int → Prop} {a Z : List (Int × List Int)} {j : Nat} {k h L : Int} {F : rf_N} {e : Int → Int} {l : List wd_I} (h0 : k ≠ 0) (h3 : k ≠ 3) (hc : k = 1 → 0 ≤ h) (hP : wd_P th AR rk sn a Z ((rf_n j k h F .leaf, e, L) :: l)) : wd_P th AR rk sn a Z ((vx_el F).map (fun A => (A, e, L)) ++ l) := by
  have ev : wd_v th AR (rf_n j k h F .leaf, e, L) = rf_n 0 k (if k = 2 then e h else h) (vx_val th AR F e L) .leaf := by
    show vx_val th AR (rf_n j k h F .leaf) e L = _
    rw [vx_val_in, if_neg h0, if_neg h3]
    rfl
  have hn : ¬ (k = 1 ∧ (if k = 2 then e h else h) < 0) := fun c => by
    obtain ⟨c1, c2⟩ := c
    rw [if_neg (by omega)] at c2
    have := hc c1
    omega
  refine wd_P_rep (fun a => ?_) (fun z hz => ?_) (fun r hr q' hq' => ?_) hP
  · rw [wd_go_el hg, ev]
    show _ = wz_go (.inner 0 (k, if k = 2 then e h else h) () (vx_val th AR F e L) .leaf) a
    rw [wz_go_in, if_neg hn]
    rfl
  · rw [ev] at hz
    have hz' : wz_oc z (.inner 0 (k, if k = 2 then e h else h) () (vx_val th AR F e L) .leaf) := hz
    rw [wz_oc_in, if_neg hn] at hz'
    rcases hz' with hz' | hz'
    · obtain ⟨A, c1, c2⟩ := wd_oc_el hg hz'
      exact ⟨(A, e, L), List.mem_map.mpr ⟨A, c1, rfl⟩, c2⟩
    · exact hz'.elim
  · obtain ⟨A, hA, rfl⟩ := List.mem_map.mp hq'
    exact fun m hm => hr m (Or.inr (Or.inl ⟨h3, vx_mt_el.mpr ⟨A, hA, hm⟩⟩))
end
section
/-! ===== one term on its way down, without its type ===== -/
def wd_sd (S : vx_S) (L : Int) (A : rf_N) (c : List (Int × Int)) : Prop := True → (vx_in S A ∧ vx_sg A) ∧ (0 ≤ L ∧ vx_ck L c) ∧ (∀ z, vx_fv (vx_U S) S.2.2.2.2 z A → 0 ≤ dv_lk c z) ∧ vx_nb A (fun z => z ∈ c.map Prod.fst)
theorem wd_sd_lam {S : vx_S} {L : Int} {j : Nat} {x : Int} {F : rf_N} {c : List (Int × Int)} (hF : vx_sg F) (h : wd_sd S L (rf_n j 0 x F .leaf) c) : wd_sd S (L + 1) F ((x, L) :: c) := fun _ => by
  obtain ⟨⟨a1, _⟩, ⟨c1, c2⟩, d, e⟩ := h trivial
  have e' : (0 ≤ x ∧ x ∉ c.map Prod.fst) ∧ vx_nb F (fun z => z = x ∨ z ∈ c.map Prod.fst) := by
    rcases e.1 with ⟨_, q1, q2⟩ | ⟨q, _⟩ | q
    · exact ⟨q1, q2⟩
    · exact absurd rfl q
    · exact absurd q vx_03
  refine ⟨⟨vx_in_lam a1, hF⟩, ⟨by omega, vx_ck_up c1 e'.1.1 c2 e'.1.2⟩, fun z hz => ?_, ?_⟩
  · rw [dv_lk_c]
    dsimp only
    by_cases q : x = z
    · rw [if_pos q]
      exact c1
    · rw [if_neg q]
      exact d z (Or.inl (Or.inl ⟨rfl, fun w => q w.symm, hz⟩))
  · refine vx_nb_mono (fun z hz => ?_) e'.2
    rw [List.map_cons] at hz
    exact List.mem_cons.mp hz
theorem wd_sd_el {S : vx_S} {L : Int} {j : Nat} {k h : Int} {F A : rf_N} {c : List (Int × Int)} (h0 : k ≠ 0) (h3 : k ≠ 3) (hA : A ∈ vx_el F) (hh : wd_sd S L (rf_n j k h F .leaf) c) : wd_sd S L A c := fun _ => by
  obtain ⟨⟨a1, _⟩, cc, d, e⟩ := hh trivial
  refine ⟨⟨vx_in_el h3 a1 hA, vx_el_sg hA⟩, cc, fun z hz => d z (Or.inl (Or.inr (Or.inr ⟨h0, h3, Or.inr (vx_fv_el.mpr ⟨A, hA, hz⟩)⟩))), ?_⟩
  rcases e.1 with ⟨q, _⟩ | ⟨_, _, q⟩ | q
  · exact absurd q h0
  · exact vx_nb_el q hA
  · exact absurd q h3
theorem wd_sd_open {S : vx_S} {L : Int} {j : Nat} {u : Int} {F : rf_N} {c : List (Int × Int)} (hu : S.2.2.2.1 u = none) (hl : ((S.2.2.2.2 j).length : Int) = S.2.2.1 u) (hh : wd_sd S L (rf_n j 3 u F .leaf) c) : ∀ y ∈ S.2.2.2.2 j, 0 ≤ dv_lk c y := fun y hy => by
  obtain ⟨_, _, d, _⟩ := hh trivial
  obtain ⟨i, h1, h2⟩ := List.getElem_of_mem hy
  refine d y (Or.inl (Or.inr (Or.inl ⟨rfl, i, ?_, (vx_U_cl S).1 u i hu (by omega) (by omega)⟩)))
  rw [List.getElem?_eq_getElem h1, h2]
theorem wd_sd_body {tv tc : Int → rf_T} {tm : Int → Int → rf_T} {S : vx_S} {L : Int} {PR : Int → List (Int × Int)} {j : Nat} {m : Int} {F B : rf_N} {e : Int → Int} {c : List (Int × Int)} (hT : vx_TS tv tc tm S PR) (hb : S.2.2.2.1 m = some (B, e)) (hn : (S.2.2.2.2 j).Nodup) (hh : wd_sd S L (rf_n j 3 m F .leaf) c) : wd_sd S L B (dv_in (PR m) (S.2.2.2.2 j) c) := fun _ => by
  obtain ⟨⟨a1, _⟩, ⟨c1, c2⟩, d, _⟩ := hh trivial
  obtain ⟨⟨W, B1, Sc, _⟩, T⟩ := hT trivial
  obtain ⟨e0, ⟨e1, e2⟩, e3, e4, e5, e6⟩ := T m B e hb
  have hl := vx_in_len a1
  have e3' : ∀ q ∈ PR m, 0 ≤ q.2 ∧ q.2 < ((S.2.2.2.2 j).length : Int) := fun q hq => by
    have := (e3 q hq).2
    omega
  obtain ⟨i1, i2, i3⟩ := dv_in_lk (c := c) e4 e3'
  obtain ⟨⟨w1, w2⟩, w3, _⟩ := W m B e hb
  have tyv : ∀ z, 0 ≤ dv_lk (PR m).reverse z → ∃ y, (S.2.2.2.2 j)[(dv_lk (PR m).reverse z).toNat]? = some y ∧ dv_lk (dv_in (PR m) (S.2.2.2.2 j) c) z = dv_lk c y := fun z hz => by
    have hlt := i3 z
    have hi : (dv_lk (PR m).reverse z).toNat < (S.2.2.2.2 j).length := by omega
    refine ⟨_, List.getElem?_eq_getElem hi, ?_⟩
    rw [i1 z hz, vx_getD_map _ _ _ hi, vx_gD hi]
  refine ⟨⟨w3, e1⟩, ⟨c1, vx_ck_in c1 c2 e4 e5 e3' (fun q hq => (e3 q hq).2.2.2) hn⟩, fun z hz => ?_, ?_⟩
  · have u1 := Sc m B e z hb hz
    have u2 := (vx_U_cl S).2 m B e z hb hz
    rw [e0] at u1 u2
    obtain ⟨y, y1, y3⟩ := tyv z u1
    rw [y3]
    refine d y (Or.inl (Or.inr (Or.inl ⟨rfl, _, y1, ?_⟩)))
    rw [Int.toNat_of_nonneg u1]
    exact u2
  · refine vx_nb_mono (fun z hz => ?_) e6
    unfold dv_in at hz
    rw [List.map_reverse, List.mem_reverse, List.map_map] at hz
    exact hz
def wd_ks (S : vx_S) (bs : Nat) (L : Int) : List dv_K → Prop
  | [] => True
  | k :: r => (wd_sd S k.2.1 k.1.1 k.1.2 ∧ L ≤ k.2.1 ∧ vx_c1 S bs k.1.1 k.2.2 k.2.1 r.length) ∧ wd_ks S bs L r
theorem wd_ks_wz {S : vx_S} {bs : Nat} {L L' mk : Int} {c : List (Int × Int)} {ws : List dv_K} (hL : L ≤ L') (hks : wd_ks S bs L ws) : ∀ {l : List rf_N}, l.length ≤ 4 → (∀ A ∈ l, wd_sd S L' A c ∧ ∀ i', i' ≤ ws.length + 3 → vx_c1 S bs A mk L' i') → wd_ks S bs L (l.map (fun a => ((a, c), L', mk)) ++ ws)
  | [], _, _ => hks
  | A :: l, h4, h => by
    rw [List.length_cons] at h4
    refine ⟨⟨(h A List.mem_cons_self).1, hL, (h A List.mem_cons_self).2 _ ?_⟩, wd_ks_wz hL hks (by omega) (fun B hB => h B (List.mem_cons_of_mem _ hB))⟩
    show (l.map _ ++ ws).length ≤ ws.length + 3
    rw [List.length_append, List.length_map]
    omega
end
section
/-! ===== the desk: numbering, piece by piece ===== -/
theorem w_dw_ns {CALL : sx_Ca} {sL : Nat} {sx : Nat → Int32} {Q : Nat → sx_L → sx_S → Prop} {R : Int → sx_S → Prop} (h_dv_pop56 : ∀ (s : sx_S) (K : Int → sx_S → Prop), cx_I s → (∀ (z : Int) (t : sx_S), cx_I t → cx_F [(56, 56)] s t → (0 < s.1 56 6 → t.1 56 6 = s.1 56 6 - 1) → K z t) → CALL 62 [.inr (.inl 56)] s K) (h_dv_pmark56 : ∀ (s : sx_S) (K : Int → sx_S → Prop), cx_I s → (∀ z : Int, (s.1 56 6 < 512 → z = s.2.1 62 (s.1 56 6).toNat) → K z s) → CALL 68 [.inr (.inl 56)] s K) (h_dv_rel : ∀ (a0 : Int) (s : sx_S) (K : Int → sx_S → Prop), cx_I s → (-2147483648 ≤ a0 ∧ a0 ≤ 2147483647) → (∀ (z : Int) (t : sx_S), cx_I t → cx_F [(29, 29)] s t → (0 ≤ a0 → a0 ≤ s.1 29 3 → t.1 29 3 = a0) → K z t) → CALL 45 [.inr (.inl 29), .inl a0] s K) (h_dv_pnode56 : ∀ (s : sx_S) (K : Int → sx_S → Prop), cx_I s → (∀ z : Int, (s.1 56 6 < 512 → z = s.2.1 57 (s.1 56 6).toNat) → K z s) → CALL 63 [.inr (.inl 56)] s K) (h_dv_pchain56 : ∀ (s : sx_S) (K : Int → sx_S → Prop), cx_I s → (∀ z : Int, (s.1 56 6 < 512 → z = s.2.1 58 (s.1 56 6).toNat) → K z s) → CALL 64 [.inr (.inl 56)] s K) (h_dv_plevel56 : ∀ (s : sx_S) (K : Int → sx_S → Prop), cx_I s → (∀ z : Int, (s.1 56 6 < 512 → z = s.2.1 61 (s.1 56 6).toNat) → K z s) → CALL 67 [.inr (.inl 56)] s K) {s : sx_S} (hI : cx_I s) (p0 : 0 < s.1 56 6) (pm : 0 ≤ s.2.1 62 (s.1 56 6 - 1).toNat ∧ s.2.1 62 (s.1 56 6 - 1).toNat ≤ s.1 29 3) (hQ : ∀ u, cx_I u → cx_F [(29, 29), (56, 56)] s u → u.1 56 6 = s.1 56 6 - 1 → u.1 29 3 = s.2.1 62 (s.1 56 6 - 1).toNat → Q 48 [(0, .inr (.inl 55)), (1, .inl (s.2.1 57 (s.1 56 6 - 1).toNat)), (2, .inl (s.2.1 58 (s.1 56 6 - 1).toNat)), (3, .inl (s.2.1 61 (s.1 56 6 - 1).toNat)), (4, .inl 0)] u) : sx_wp true sL sx eX10_numberStep CALL [(48, [0, 1, 2, 3, 4]), (127, [0, 1, 2, 3, 4]), (165, [0, 1, 2, 3])] Q R 400 0 (sx_argsF 0 [.inr (.inl 55)]) [] s := by
  have h56 := hI.fld 56 6 (by decide) rfl
  have r52 := hI.arr 62 (by decide) rfl (s.1 56 6 - 1).toNat
  refine h_dv_pop56 _ _ hI (fun z1 t1 i1 f1 e1 => ?_)
  have e1' := e1 p0
  refine h_dv_pmark56 _ _ i1 (fun z2 e2 => ?_)
  have a1 : ∀ p, p ≠ 56 → t1.1 p = s.1 p ∧ t1.2.1 p = s.2.1 p := fun p hp => (f1 p).1 (by
    show cx_out [(56, 56)] p
    simp [cx_out]
    omega)
  have e2' : z2 = s.2.1 62 (s.1 56 6 - 1).toNat := by
    rw [e2 (by omega), e1', (a1 62 (by decide)).2]
  have l1 : t1.1 29 3 = s.1 29 3 := by rw [(a1 29 (by decide)).1]
  refine h_dv_rel _ _ _ i1 (by omega) (fun z3 t2 i2 f2 e3 => ?_)
  have a2 : ∀ p, p ≠ 29 → t2.1 p = t1.1 p ∧ t2.2.1 p = t1.2.1 p := fun p hp => (f2 p).1 (by
    show cx_out [(29, 29)] p
    simp [cx_out]
    omega)
  have e3' : t2.1 29 3 = s.2.1 62 (s.1 56 6 - 1).toNat := by rw [e3 (by omega) (by omega), e2']
  have u56 : t2.1 56 6 = s.1 56 6 - 1 := by rw [(a2 56 (by decide)).1, e1']
  refine h_dv_pnode56 t2 _ i2 (fun z4 e4 => ?_)
  have v4 : z4 = s.2.1 57 (s.1 56 6 - 1).toNat := by rw [e4 (by omega), u56, (a2 57 (by decide)).2, (a1 57 (by decide)).2]
  refine h_dv_pchain56 t2 _ i2 (fun z5 e5 => ?_)
  have v5 : z5 = s.2.1 58 (s.1 56 6 - 1).toNat := by rw [e5 (by omega), u56, (a2 58 (by decide)).2, (a1 58 (by decide)).2]
  refine h_dv_plevel56 t2 _ i2 (fun z6 e6 => ?_)
  have v6 : z6 = s.2.1 61 (s.1 56 6 - 1).toNat := by rw [e6 (by omega), u56, (a2 61 (by decide)).2, (a1 61 (by decide)).2]
  have zz9 := hQ t2 i2 (cx_F_step f2 rfl (cx_F_step f1 rfl (cx_F_refl _ _))) u56 e3'
  rw [← v4, ← v5, ← v6] at zz9
  exact zz9
theorem w_dw_ns48y {CALL : sx_Ca} {sL : Nat} {sx : Nat → Int32} {Q : Nat → sx_L → sx_S → Prop} {R : Int → sx_S → Prop} (h_kind : ∀ (a0 : Int) (s : sx_S) (K : Int → sx_S → Prop), cx_I s → (-2147483648 ≤ a0 ∧ a0 ≤ 2147483647) → (∀ z : Int, (0 ≤ a0 → a0 < s.1 11 6 → z = s.2.1 12 a0.toNat) → (a0 < 0 → z = -1) → K z s) → CALL 91 [.inr (.inl 11), .inl a0] s K) (h_head : ∀ (a0 : Int) (s : sx_S) (K : Int → sx_S → Prop), cx_I s → (-2147483648 ≤ a0 ∧ a0 ≤ 2147483647) → (∀ z : Int, (0 ≤ a0 → a0 < s.1 11 6 → z = s.2.1 13 a0.toNat) → (a0 < 0 → z = -1) → K z s) → CALL 92 [.inr (.inl 11), .inl a0] s K) (h_body : ∀ (a0 : Int) (s : sx_S) (K : Int → sx_S → Prop), cx_I s → (-2147483648 ≤ a0 ∧ a0 ≤ 2147483647) → (∀ z : Int, (0 ≤ a0 → a0 < s.1 11 6 → z = s.2.1 14 a0.toNat) → (a0 < 0 → z = -1) → K z s) → CALL 93 [.inr (.inl 11), .inl a0] s K) (h_with : ∀ (a0 a1 a2 : Int) (s : sx_S) (R : Int → sx_S → Prop), cx_I s → s.1 29 3 < 1024 → (-2147483648 ≤ a0 ∧ a0 ≤ 2147483647) → (-2147483648 ≤ a1 ∧ a1 ≤ 2147483647) → (-2147483648 ≤ a2 ∧ a2 ≤ 2147483647) → (∀ t, cx_I t → cx_F [(29, 32)] s t → dv_w1 a0 a1 a2 s t → R (s.1 29 3) t) → CALL 46 [.inr (.inl 29), .inl a0, .inl a1, .inl a2] s R) {s : sx_S} {x1 x2 x3 x4 : Int} (hI : cx_I s) (p1 : 0 ≤ x1 ∧ x1 < s.1 11 6) (q2 : -2147483648 ≤ x2 ∧ x2 ≤ 2147483647) (q3 : -2147483648 ≤ x3 ∧ x3 < 2147483647) (q4 : 0 ≤ x4 ∧ x4 < 1024) (k1 : s.2.1 12 x1.toNat = 0) (hU : s.1 29 3 < 1024) (hQ : ∀ t, cx_I t → cx_F [(29, 32)] s t → dv_w1 x2 (s.2.1 13 x1.toNat) x3 s t → Q 48 [(0, .inr (.inl 55)), (1, .inl (s.2.1 14 x1.toNat)), (2, .inl (s.1 29 3)), (3, .inl (x3 + 1)), (4, .inl (x4 + 1))] t) : sx_wp true sL sx eX10_numberStep CALL [(48, [0, 1, 2, 3, 4]), (127, [0, 1, 2, 3, 4]), (165, [0, 1, 2, 3])] Q R 400 48 [(0, .inr (.inl 55)), (1, .inl x1), (2, .inl x2), (3, .inl x3), (4, .inl x4)] [] s := by
  have h0 := hI.fld 11 6 (by decide) rfl
  have ra := hI.arr 13 (by decide) rfl x1.toNat
  have zzy : sx_w true (x4 + 1) = x4 + 1 := px_wid (by omega) (by omega)
  have zzl : sx_w true (x3 + 1) = x3 + 1 := px_wid (by omega) (by omega)
  repeat' (first | (with_reducible (rintro _ rfl)) | (with_reducible intro _) | (refine And.intro ?_ ?_) | (refine h_kind x1 s _ hI (by omega) (fun v v1 v2 => ?_); obtain rfl : v = 0 := (v1 p1.1 p1.2).trans k1) | (refine h_head x1 s _ hI (by omega) (fun v v1 v2 => ?_); obtain rfl := v1 p1.1 p1.2) | (refine h_with _ _ _ s _ hI hU q2 ra (by omega) (fun t t1 t2 t3 => ?_); have zz11 : t.1 11 = s.1 11 := (t2.same 11 rfl).1; have zz14 : t.2.1 14 = s.2.1 14 := (t2.same 14 rfl).2) | (refine h_body x1 t _ t1 (by omega) (fun v v1 v2 => ?_); obtain rfl : v = s.2.1 14 x1.toNat := by rw [v1 p1.1 (by rw [zz11]; exact p1.2), zz14]))
  all_goals (try dsimp only at *)
  all_goals (first | trivial | assumption | omega | (exfalso; omega) | (have zz9 := hQ _ t1 t2 t3; rw [← zzy, ← zzl] at zz9; exact zz9) | skip)
theorem w_dw_ns127 {CALL : sx_Ca} {sL : Nat} {sx : Nat → Int32} {Q : Nat → sx_L → sx_S → Prop} {R : Int → sx_S → Prop} (h_dv_mark : ∀ (s : sx_S) (K : Int → sx_S → Prop), cx_I s → (∀ z : Int, (z = s.1 29 3) → K z s) → CALL 44 [.inr (.inl 29)] s K) (h_push : ∀ (a0 a1 a2 a3 : Int) (s : sx_S) (R : Int → sx_S → Prop), cx_I s → s.1 56 6 < 512 → (-2147483648 ≤ a0 ∧ a0 ≤ 2147483647) → (-2147483648 ≤ a1 ∧ a1 ≤ 2147483647) → (-2147483648 ≤ a2 ∧ a2 ≤ 2147483647) → (-2147483648 ≤ a3 ∧ a3 ≤ 2147483647) → (∀ z t, cx_I t → cx_F [(56, 62)] s t → dv_pu 56 (a0, a1, -1, -1, a2, a3) s t → R z t) → CALL 60 [.inr (.inl 56), .inl a0, .inl a1, .inl a2, .inl a3] s R) {s : sx_S} {x1 x2 x3 x4 w : Int} (h_arg : 0 ≤ x4 → ∀ K : Int → sx_S → Prop, K w s → CALL 95 [.inr (.inl 11), .inl x1, .inl x4] s K) (hI : cx_I s) (q2 : -2147483648 ≤ x2 ∧ x2 ≤ 2147483647) (q3 : -2147483648 ≤ x3 ∧ x3 ≤ 2147483647) (q4 : -1 ≤ x4 ∧ x4 ≤ 3) (qw : 0 ≤ x4 → 0 ≤ w ∧ w < s.1 11 6) (hN : 0 ≤ x4 → s.1 56 6 < 512) (hK : x4 < 0 → R 0 s) (hQ : 0 ≤ x4 → ∀ t, cx_I t → cx_F [(56, 62)] s t → dv_pu 56 (w, x2, -1, -1, x3, s.1 29 3) s t → Q 127 [(0, .inr (.inl 55)), (1, .inl x1), (2, .inl x2), (3, .inl x3), (4, .inl (x4 - 1))] t) : sx_wp true sL sx eX10_numberStep CALL [(48, [0, 1, 2, 3, 4]), (127, [0, 1, 2, 3, 4]), (165, [0, 1, 2, 3])] Q R 400 127 [(0, .inr (.inl 55)), (1, .inl x1), (2, .inl x2), (3, .inl x3), (4, .inl x4)] [] s := by
  have h0 := hI.fld 11 6 (by decide) rfl
  have h29 := hI.fld 29 3 (by decide) rfl
  have zzy : sx_w true (x4 + (-1)) = x4 - 1 := by rw [px_wid (by omega) (by omega)]; omega
  repeat' (first | (with_reducible (rintro _ rfl)) | (with_reducible intro _) | (refine And.intro ?_ ?_) | (refine h_arg (by omega) _ ?_) | (refine h_dv_mark _ _ hI (fun v v1 => ?_); obtain rfl := v1) | (refine h_push _ _ _ _ s _ hI (hN (by omega)) (by have := qw (by omega); omega) q2 q3 (by omega) (fun z t t1 t2 t3 => ?_)))
  all_goals (try dsimp only at *)
  all_goals (first | trivial | assumption | omega | (exfalso; omega) | (exact hK (by omega)) | (have zz9 := hQ (by omega) _ t1 t2 t3; rw [← zzy] at zz9; exact zz9) | skip)
theorem w_dw_ns48n {CALL : sx_Ca} {sL : Nat} {sx : Nat → Int32} {Q : Nat → sx_L → sx_S → Prop} {R : Int → sx_S → Prop} (h_kind : ∀ (a0 : Int) (s : sx_S) (K : Int → sx_S → Prop), cx_I s → (-2147483648 ≤ a0 ∧ a0 ≤ 2147483647) → (∀ z : Int, (0 ≤ a0 → a0 < s.1 11 6 → z = s.2.1 12 a0.toNat) → (a0 < 0 → z = -1) → K z s) → CALL 91 [.inr (.inl 11), .inl a0] s K) (h_arity : ∀ (a0 : Int) (s : sx_S) (K : Int → sx_S → Prop), cx_I s → (-2147483648 ≤ a0 ∧ a0 ≤ 2147483647) → (∀ z : Int, (0 ≤ a0 → a0 < s.1 11 6 → z = s.2.1 16 a0.toNat) → (a0 < 0 → z = 0) → K z s) → CALL 94 [.inr (.inl 11), .inl a0] s K) {s : sx_S} {x1 x2 x3 x4 : Int} (hI : cx_I s) (p1 : 0 ≤ x1 ∧ x1 < s.1 11 6) (q2 : -2147483648 ≤ x2 ∧ x2 ≤ 2147483647) (q3 : -2147483648 ≤ x3 ∧ x3 ≤ 2147483647) (q4 : 0 ≤ x4 ∧ x4 ≤ 1024) (k1 : s.2.1 12 x1.toNat ≠ 0) (ra : 0 ≤ s.2.1 16 x1.toNat ∧ s.2.1 16 x1.toNat ≤ 4) (hQ1 : s.2.1 12 x1.toNat ≠ 3 → Q 127 [(0, .inr (.inl 55)), (1, .inl x1), (2, .inl x2), (3, .inl x3), (4, .inl (s.2.1 16 x1.toNat - 1))] s) (hQ2 : s.2.1 12 x1.toNat = 3 → Q 165 [(0, .inr (.inl 55)), (1, .inl x1), (2, .inl x2), (3, .inl x3)] s) : sx_wp true sL sx eX10_numberStep CALL [(48, [0, 1, 2, 3, 4]), (127, [0, 1, 2, 3, 4]), (165, [0, 1, 2, 3])] Q R 400 48 [(0, .inr (.inl 55)), (1, .inl x1), (2, .inl x2), (3, .inl x3), (4, .inl x4)] [] s := by
  have h0 := hI.fld 11 6 (by decide) rfl
  have rk := hI.arr 12 (by decide) rfl x1.toNat
  have zzy : sx_w true (s.2.1 16 x1.toNat - 1) = s.2.1 16 x1.toNat - 1 := px_wid (by omega) (by omega)
  repeat' (first | (with_reducible (rintro _ rfl)) | (with_reducible intro _) | (refine And.intro ?_ ?_) | (refine h_kind x1 s _ hI (by omega) (fun v v1 v2 => ?_); obtain rfl := v1 p1.1 p1.2) | (refine h_arity x1 s _ hI (by omega) (fun v v1 v2 => ?_); obtain rfl := v1 p1.1 p1.2))
  all_goals (try dsimp only at *)
  all_goals (first | trivial | assumption | omega | (exfalso; omega) | (exact hQ2 (by omega)) | (have zz9 := hQ1 (by omega); rw [← zzy] at zz9; exact zz9) | skip)
theorem w_dw_ns165 {CALL : sx_Ca} {sL : Nat} {sx : Nat → Int32} {Q : Nat → sx_L → sx_S → Prop} {R : Int → sx_S → Prop} (h_head : ∀ (a0 : Int) (s : sx_S) (K : Int → sx_S → Prop), cx_I s → (-2147483648 ≤ a0 ∧ a0 ≤ 2147483647) → (∀ z : Int, (0 ≤ a0 → a0 < s.1 11 6 → z = s.2.1 13 a0.toNat) → (a0 < 0 → z = -1) → K z s) → CALL 92 [.inr (.inl 11), .inl a0] s K) (h_body : ∀ (a0 : Int) (s : sx_S) (K : Int → sx_S → Prop), cx_I s → (-2147483648 ≤ a0 ∧ a0 ≤ 2147483647) → (∀ z : Int, (0 ≤ a0 → a0 < s.1 33 6 → z = s.2.1 34 a0.toNat) → (a0 < 0 → z = -1) → K z s) → CALL 4 [.inr (.inl 33), .inl a0] s K) (h_dv_mark : ∀ (s : sx_S) (K : Int → sx_S → Prop), cx_I s → (∀ z : Int, (z = s.1 29 3) → K z s) → CALL 44 [.inr (.inl 29)] s K) (h_push : ∀ (a0 a1 a2 a3 : Int) (s : sx_S) (R : Int → sx_S → Prop), cx_I s → s.1 56 6 < 512 → (-2147483648 ≤ a0 ∧ a0 ≤ 2147483647) → (-2147483648 ≤ a1 ∧ a1 ≤ 2147483647) → (-2147483648 ≤ a2 ∧ a2 ≤ 2147483647) → (-2147483648 ≤ a3 ∧ a3 ≤ 2147483647) → (∀ z t, cx_I t → cx_F [(56, 62)] s t → dv_pu 56 (a0, a1, -1, -1, a2, a3) s t → R z t) → CALL 60 [.inr (.inl 56), .inl a0, .inl a1, .inl a2, .inl a3] s R) {s : sx_S} {x1 x2 x3 m b : Int} {G3 : Int → sx_S → Prop} {G4 : sx_S → Prop} (h_ins : s.2.1 63 m.toNat < 0 → 0 ≤ b → ∀ K : Int → sx_S → Prop, (∀ k' t, G3 k' t → K k' t) → CALL 6 [.inr (.inl 33), .inl x1, .inl x2] (s.1, sx_ua s.2.1 63 m.toNat 0, s.2.2) K) (hG3 : ∀ k' t, G3 k' t → cx_I t ∧ (-2147483648 ≤ k' ∧ k' ≤ 2147483647) ∧ t.1 56 6 < 512) (h_ord : s.2.1 63 m.toNat < 0 → b < 0 → ∀ K : Int → sx_S → Prop, (∀ t, G4 t → K 0 t) → CALL 126 [.inr (.inl 55), .inl x1, .inl x2] (sx_uf s.1 55 8 (s.1 55 8 + 1), sx_ua s.2.1 63 m.toNat (s.1 55 8), s.2.2) K) (hI : cx_I s) (p1 : 0 ≤ x1 ∧ x1 < s.1 11 6) (q2 : -2147483648 ≤ x2 ∧ x2 ≤ 2147483647) (q3 : -2147483648 ≤ x3 ∧ x3 ≤ 2147483647) (em : s.2.1 13 x1.toNat = m) (pm : 0 ≤ m ∧ m < s.1 33 6 ∧ m < 32) (eb : s.2.1 34 m.toNat = b) (h8 : 0 ≤ s.1 55 8 ∧ s.1 55 8 ≤ 100) (hK1 : 0 ≤ s.2.1 63 m.toNat → R 0 s) (hK2 : s.2.1 63 m.toNat < 0 → 0 ≤ b → ∀ k' t, G3 k' t → ∀ t', cx_I t' → cx_F [(56, 62)] t t' → dv_pu 56 (b, k', -1, -1, x3, t.1 29 3) t t' → R 0 t') (hK3 : s.2.1 63 m.toNat < 0 → b < 0 → ∀ t, G4 t → R 0 t) : sx_wp true sL sx eX10_numberStep CALL [(48, [0, 1, 2, 3, 4]), (127, [0, 1, 2, 3, 4]), (165, [0, 1, 2, 3])] Q R 400 165 [(0, .inr (.inl 55)), (1, .inl x1), (2, .inl x2), (3, .inl x3)] [] s := by
  have h0 := hI.fld 11 6 (by decide) rfl
  have h33 := hI.fld 33 6 (by decide) rfl
  have r34 := hI.arr 34 (by decide) rfl m.toNat
  have r63 := hI.arr 63 (by decide) rfl m.toNat
  have zz8 : sx_w true (s.1 55 8 + 1) = s.1 55 8 + 1 := px_wid (by omega) (by omega)
  rw [← zz8] at h_ord
  have zzi : cx_I (s.1, sx_ua s.2.1 63 m.toNat (s.1 55 8), s.2.2) := cx_I_ua rfl rfl hI (by omega) (by omega)
  have zzj : cx_I (s.1, sx_ua s.2.1 63 m.toNat 0, s.2.2) := cx_I_ua rfl rfl hI (by decide) (by decide)
  repeat' (first | (with_reducible (rintro _ rfl)) | (with_reducible intro _) | (refine And.intro ?_ ?_) | (refine h_head _ _ _ hI (by omega) (fun v v1 v2 => ?_); obtain rfl : v = m := (v1 p1.1 p1.2).trans em) | (refine h_body _ s _ hI (by omega) (fun v v1 v2 => ?_); obtain rfl : v = b := (v1 pm.1 pm.2.1).trans eb) | (refine h_ins (by omega) (by omega) _ (fun k' t zzt => ?_); obtain ⟨zzt1, zzt2, zzt3⟩ := hG3 _ _ zzt; have zz29 := zzt1.fld 29 3 (by decide) rfl) | (refine h_dv_mark t _ zzt1 (fun v v1 => ?_); obtain rfl := v1) | (refine h_push _ _ _ _ t _ zzt1 zzt3 (by omega) zzt2 q3 (by omega) (fun z t' q1 q2 q3 => ?_)) | (refine h_ord (by omega) (by omega) _ (fun t zzt => ?_)))
  all_goals (try dsimp only at *)
  all_goals (first | trivial | assumption | omega | (exfalso; omega) | (exact hK1 (by omega)) | (exact hK2 (by omega) (by omega) _ _ zzt _ q1 q2 q3) | (exact hK3 (by omega) (by omega) _ zzt) | skip)
end
