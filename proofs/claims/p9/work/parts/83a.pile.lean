/-! ===== the writer's pile ===== -/
theorem w_dv_pair56 {CALL : sx_Ca} {sL : Nat} {sx : Nat → Int32} {Q : Nat → sx_L → sx_S → Prop} {R : Int → sx_S → Prop} {s : sx_S} {a0 a1 a2 a3 a4 a5 : Int} (hI : cx_I s) (hN : s.1 56 6 < 512) (p0 : -2147483648 ≤ a0 ∧ a0 ≤ 2147483647) (p1 : -2147483648 ≤ a1 ∧ a1 ≤ 2147483647) (p2 : -2147483648 ≤ a2 ∧ a2 ≤ 2147483647) (p3 : -2147483648 ≤ a3 ∧ a3 ≤ 2147483647) (p4 : -2147483648 ≤ a4 ∧ a4 ≤ 2147483647) (p5 : -2147483648 ≤ a5 ∧ a5 ≤ 2147483647) (hK : ∀ z t, cx_I t → cx_F [(56, 62)] s t → dv_pu 56 (a0, a1, a2, a3, a4, a5) s t → R z t) : sx_wp true sL sx eX5_pushPair CALL [] Q R 400 0 (sx_argsF 0 [.inr (.inl 56), .inl a0, .inl a1, .inl a2, .inl a3, .inl a4, .inl a5]) [] s := by
  have h0 := hI.fld 56 6 (by decide) rfl
  have m3 : dv_pu 56 (a0, a1, a2, a3, a4, a5) s (sx_uf s.1 56 6 (s.1 56 6 + 1), (sx_ua (sx_ua (sx_ua (sx_ua (sx_ua (sx_ua s.2.1 57 (s.1 56 6).toNat a0) 58 (s.1 56 6).toNat a1) 59 (s.1 56 6).toNat a2) 60 (s.1 56 6).toNat a3) 61 (s.1 56 6).toNat a4) 62 (s.1 56 6).toNat a5), s.2.2) := fun _ => by
    refine ⟨by dsimp only; exact px_us _ _ _ _, fun j hj => ?_, ?_⟩
    · have hj2 : j ≠ (s.1 56 6).toNat := by omega
      simp [sx_ua_if, hj2]
    · simp [sx_ua_if]
  have m1 : cx_I (sx_uf s.1 56 6 (s.1 56 6 + 1), (sx_ua (sx_ua (sx_ua (sx_ua (sx_ua (sx_ua s.2.1 57 (s.1 56 6).toNat a0) 58 (s.1 56 6).toNat a1) 59 (s.1 56 6).toNat a2) 60 (s.1 56 6).toNat a3) 61 (s.1 56 6).toNat a4) 62 (s.1 56 6).toNat a5), s.2.2) := cx_I_uf rfl rfl (cx_I_ua rfl rfl (cx_I_ua rfl rfl (cx_I_ua rfl rfl (cx_I_ua rfl rfl (cx_I_ua rfl rfl (cx_I_ua rfl rfl hI (by omega) (by omega)) (by omega) (by omega)) (by omega) (by omega)) (by omega) (by omega)) (by omega) (by omega)) (by omega) (by omega)) (by omega) (by omega)
  have zz1 := fun z => hK z _ m1 (cx_F_uf rfl (cx_F_ua rfl (cx_F_ua rfl (cx_F_ua rfl (cx_F_ua rfl (cx_F_ua rfl (cx_F_ua rfl (cx_F_refl _ _)))))))) m3
  have zzu : sx_w true (s.1 56 6 + 1) = s.1 56 6 + 1 := px_wid (by omega) (by omega)
  repeat' (first | (with_reducible (rintro _ rfl)) | (with_reducible intro _) | (refine And.intro ?_ ?_))
  all_goals (try dsimp only at *)
  all_goals (first | trivial | assumption | omega | (exfalso; omega) | (show R _ _; simp only [px_us, zzu]; exact zz1 _) | (simp only [px_us, zzu] at *; first | assumption | omega) | (repeat' (first | (with_reducible assumption) | ((with_reducible (change cx_I (sx_uf _ _ _ _, _))); refine cx_I_uf rfl rfl ?_ ?_ ?_) | ((with_reducible (change cx_I (_, sx_ua _ _ _ _, _))); refine cx_I_ua rfl rfl ?_ ?_ ?_) | ((with_reducible (change cx_I (_, sx_ua _ 16 _ _, _))); refine cx_I_ari ?_ ?_ ?_) | ((with_reducible (change cx_I (sx_uf _ 11 6 _, _))); refine cx_I_ufA rfl ?_ ?_ ?_ ?_) | (with_reducible exact cx_F_refl _ _) | ((with_reducible (change cx_F _ _ (sx_uf _ _ _ _, _))); refine cx_F_uf rfl ?_) | ((with_reducible (change cx_F _ _ (_, sx_ua _ _ _ _, _))); refine cx_F_ua rfl ?_) | ((with_reducible (change cx_I (_, sx_cpy _ _ _ _ _ _, _))); refine cx_I_cpy rfl rfl rfl (by decide) ?_) | ((with_reducible (change cx_F _ _ (_, sx_cpy _ _ _ _ _ _, _))); refine cx_F_cpy rfl ?_) | ((with_reducible (change cx_F _ _ _)); refine cx_F_step (by assumption) rfl ?_) | fail)) | skip)
  all_goals (first | trivial | assumption | omega | (simp only [px_us, zzu] at *; omega) | skip)
theorem c_dv_pair56 {sL : Nat} {sx : Nat → Int32} (hsL : sL ≤ 3072) (d : Nat) (hd : 2 ≤ d) : ∀ (a0 a1 a2 a3 a4 a5 : Int) (s : sx_S) (R : Int → sx_S → Prop), cx_I s → s.1 56 6 < 512 → (-2147483648 ≤ a0 ∧ a0 ≤ 2147483647) → (-2147483648 ≤ a1 ∧ a1 ≤ 2147483647) → (-2147483648 ≤ a2 ∧ a2 ≤ 2147483647) → (-2147483648 ≤ a3 ∧ a3 ≤ 2147483647) → (-2147483648 ≤ a4 ∧ a4 ≤ 2147483647) → (-2147483648 ≤ a5 ∧ a5 ≤ 2147483647) → (∀ z t, cx_I t → cx_F [(56, 62)] s t → dv_pu 56 (a0, a1, a2, a3, a4, a5) s t → R z t) → sx_C sL sx d 61 [.inr (.inl 56), .inl a0, .inl a1, .inl a2, .inl a3, .inl a4, .inl a5] s R := by
  intro a0 a1 a2 a3 a4 a5 s R hI hN p0 p1 p2 p3 p4 p5 hK
  obtain ⟨d, rfl⟩ : ∃ e, d = e + 2 := ⟨d - 2, by omega⟩
  exact sx_meth (wr := true) (n := 400) hsL (e := eX5_pushPair) rfl (w_dv_pair56 (Q := fun _ _ _ => False) hI hN p0 p1 p2 p3 p4 p5 hK)

theorem w_dv_push56 {CALL : sx_Ca} {sL : Nat} {sx : Nat → Int32} {Q : Nat → sx_L → sx_S → Prop} {R : Int → sx_S → Prop} (h_pair : ∀ (a0 a1 a2 a3 a4 a5 : Int) (s : sx_S) (R : Int → sx_S → Prop), cx_I s → s.1 56 6 < 512 → (-2147483648 ≤ a0 ∧ a0 ≤ 2147483647) → (-2147483648 ≤ a1 ∧ a1 ≤ 2147483647) → (-2147483648 ≤ a2 ∧ a2 ≤ 2147483647) → (-2147483648 ≤ a3 ∧ a3 ≤ 2147483647) → (-2147483648 ≤ a4 ∧ a4 ≤ 2147483647) → (-2147483648 ≤ a5 ∧ a5 ≤ 2147483647) → (∀ z t, cx_I t → cx_F [(56, 62)] s t → dv_pu 56 (a0, a1, a2, a3, a4, a5) s t → R z t) → CALL 61 [.inr (.inl 56), .inl a0, .inl a1, .inl a2, .inl a3, .inl a4, .inl a5] s R) {s : sx_S} {a0 a1 a2 a3 : Int} (hI : cx_I s) (hN : s.1 56 6 < 512) (p0 : -2147483648 ≤ a0 ∧ a0 ≤ 2147483647) (p1 : -2147483648 ≤ a1 ∧ a1 ≤ 2147483647) (p2 : -2147483648 ≤ a2 ∧ a2 ≤ 2147483647) (p3 : -2147483648 ≤ a3 ∧ a3 ≤ 2147483647) (hK : ∀ z t, cx_I t → cx_F [(56, 62)] s t → dv_pu 56 (a0, a1, -1, -1, a2, a3) s t → R z t) : sx_wp true sL sx eX5_push CALL [] Q R 400 0 (sx_argsF 0 [.inr (.inl 56), .inl a0, .inl a1, .inl a2, .inl a3]) [] s := by
  refine h_pair _ _ _ _ _ _ _ _ hI hN p0 p1 (by omega) (by omega) p2 p3 (fun z t t1 t2 t3 => ?_)
  have zz1 := fun z => hK z _ t1 t2 t3
  repeat' (first | (with_reducible (rintro _ rfl)) | (with_reducible intro _) | (refine And.intro ?_ ?_))
  all_goals (try dsimp only at *)
  all_goals (first | trivial | assumption | omega | (exfalso; omega) | exact zz1 _ | skip)
theorem c_dv_push56 {sL : Nat} {sx : Nat → Int32} (hsL : sL ≤ 3072) (d : Nat) (hd : 3 ≤ d) : ∀ (a0 a1 a2 a3 : Int) (s : sx_S) (R : Int → sx_S → Prop), cx_I s → s.1 56 6 < 512 → (-2147483648 ≤ a0 ∧ a0 ≤ 2147483647) → (-2147483648 ≤ a1 ∧ a1 ≤ 2147483647) → (-2147483648 ≤ a2 ∧ a2 ≤ 2147483647) → (-2147483648 ≤ a3 ∧ a3 ≤ 2147483647) → (∀ z t, cx_I t → cx_F [(56, 62)] s t → dv_pu 56 (a0, a1, -1, -1, a2, a3) s t → R z t) → sx_C sL sx d 60 [.inr (.inl 56), .inl a0, .inl a1, .inl a2, .inl a3] s R := by
  intro a0 a1 a2 a3 s R hI hN p0 p1 p2 p3 hK
  obtain ⟨d, rfl⟩ : ∃ e, d = e + 2 := ⟨d - 2, by omega⟩
  exact sx_meth (wr := true) (n := 400) hsL (e := eX5_push) rfl (w_dv_push56 (Q := fun _ _ _ => False) (c_dv_pair56 hsL (d + 1) (by omega)) hI hN p0 p1 p2 p3 hK)

theorem w_dv_pop56 {CALL : sx_Ca} {sL : Nat} {sx : Nat → Int32} {Q : Nat → sx_L → sx_S → Prop} {R : Int → sx_S → Prop} {s : sx_S} (hI : cx_I s) (hK : ∀ (z : Int) (t : sx_S), cx_I t → cx_F [(56, 56)] s t → (0 < s.1 56 6 → t.1 56 6 = s.1 56 6 - 1) → R z t) : sx_wp true sL sx eX5_pop CALL [] Q R 400 0 (sx_argsF 0 [.inr (.inl 56)]) [] s := by
  repeat' (first | (with_reducible intro _) | (refine And.intro ?_ ?_) | (refine hK _ _ ?_ ?_ ?_))
  all_goals (try dsimp only)
  repeat' (first | (with_reducible assumption) | ((with_reducible (change cx_I (sx_uf _ _ _ _, _))); refine cx_I_uf rfl rfl ?_ ?_ ?_) | ((with_reducible (change cx_I (_, sx_ua _ _ _ _, _))); refine cx_I_ua rfl rfl ?_ ?_ ?_) | ((with_reducible (change cx_I (_, sx_ua _ 16 _ _, _))); refine cx_I_ari ?_ ?_ ?_) | ((with_reducible (change cx_I (sx_uf _ 11 6 _, _))); refine cx_I_ufA rfl ?_ ?_ ?_ ?_) | (with_reducible exact cx_F_refl _ _) | ((with_reducible (change cx_F _ _ (sx_uf _ _ _ _, _))); refine cx_F_uf rfl ?_) | ((with_reducible (change cx_F _ _ (_, sx_ua _ _ _ _, _))); refine cx_F_ua rfl ?_) | ((with_reducible (change cx_I (_, sx_cpy _ _ _ _ _ _, _))); refine cx_I_cpy rfl rfl rfl (by decide) ?_) | ((with_reducible (change cx_F _ _ (_, sx_cpy _ _ _ _ _ _, _))); refine cx_F_cpy rfl ?_) | ((with_reducible (change cx_F _ _ _)); refine cx_F_step (by assumption) rfl ?_) | fail)
  all_goals (first | trivial | omega | (dsimp only at *; omega) | (simp only [sx_uf_if, sx_ua_if, sx_w_t, true_and, and_true, and_self, and_false, false_and, if_true, if_false, reduceIte] at *; omega) | (subst_vars; rfl) | (subst_vars; decide))

theorem c_dv_pop56 {sL : Nat} {sx : Nat → Int32} (hsL : sL ≤ 3072) (d : Nat) (hd : 2 ≤ d) : ∀ (s : sx_S) (K : Int → sx_S → Prop), cx_I s → (∀ (z : Int) (t : sx_S), cx_I t → cx_F [(56, 56)] s t → (0 < s.1 56 6 → t.1 56 6 = s.1 56 6 - 1) → K z t) → sx_C sL sx d 62 [.inr (.inl 56)] s K := by
  intro  s K hI  hK
  obtain ⟨d, rfl⟩ : ∃ e, d = e + 2 := ⟨d - 2, by omega⟩
  exact sx_meth (wr := true) (n := 400) hsL (e := eX5_pop) rfl (w_dv_pop56 (Q := fun _ _ _ => False)  hI  hK)

theorem w_dv_pnode56 {CALL : sx_Ca} {sL : Nat} {sx : Nat → Int32} {Q : Nat → sx_L → sx_S → Prop} {R : Int → sx_S → Prop} {s : sx_S} (hI : cx_I s) (hK : ∀ z : Int, (s.1 56 6 < 512 → z = s.2.1 57 (s.1 56 6).toNat) → R z s) : sx_wp true sL sx eX5_node CALL [] Q R 400 0 (sx_argsF 0 [.inr (.inl 56)]) [] s := by
  repeat' (first | (with_reducible (rintro _ rfl)) | (with_reducible intro _) | (refine And.intro ?_ ?_) | (refine hK _ ?_))
  all_goals (try dsimp only)
  repeat' (first | (with_reducible assumption) | ((with_reducible (change cx_I (sx_uf _ _ _ _, _))); refine cx_I_uf rfl rfl ?_ ?_ ?_) | ((with_reducible (change cx_I (_, sx_ua _ _ _ _, _))); refine cx_I_ua rfl rfl ?_ ?_ ?_) | ((with_reducible (change cx_I (_, sx_ua _ 16 _ _, _))); refine cx_I_ari ?_ ?_ ?_) | ((with_reducible (change cx_I (sx_uf _ 11 6 _, _))); refine cx_I_ufA rfl ?_ ?_ ?_ ?_) | (with_reducible exact cx_F_refl _ _) | ((with_reducible (change cx_F _ _ (sx_uf _ _ _ _, _))); refine cx_F_uf rfl ?_) | ((with_reducible (change cx_F _ _ (_, sx_ua _ _ _ _, _))); refine cx_F_ua rfl ?_) | ((with_reducible (change cx_I (_, sx_cpy _ _ _ _ _ _, _))); refine cx_I_cpy rfl rfl rfl (by decide) ?_) | ((with_reducible (change cx_F _ _ (_, sx_cpy _ _ _ _ _ _, _))); refine cx_F_cpy rfl ?_) | ((with_reducible (change cx_F _ _ _)); refine cx_F_step (by assumption) rfl ?_) | fail)
  all_goals (try dsimp only at *)
  all_goals (first | trivial | omega | rfl | (intros; omega) | (intros; rfl) | skip)

theorem c_dv_pnode56 {sL : Nat} {sx : Nat → Int32} (hsL : sL ≤ 3072) (d : Nat) (hd : 2 ≤ d) : ∀ (s : sx_S) (K : Int → sx_S → Prop), cx_I s → (∀ z : Int, (s.1 56 6 < 512 → z = s.2.1 57 (s.1 56 6).toNat) → K z s) → sx_C sL sx d 63 [.inr (.inl 56)] s K := by
  intro  s K hI  hK
  obtain ⟨d, rfl⟩ : ∃ e, d = e + 2 := ⟨d - 2, by omega⟩
  exact sx_meth (wr := true) (n := 400) hsL (e := eX5_node) rfl (w_dv_pnode56 (Q := fun _ _ _ => False)  hI  hK)

theorem w_dv_pchain56 {CALL : sx_Ca} {sL : Nat} {sx : Nat → Int32} {Q : Nat → sx_L → sx_S → Prop} {R : Int → sx_S → Prop} {s : sx_S} (hI : cx_I s) (hK : ∀ z : Int, (s.1 56 6 < 512 → z = s.2.1 58 (s.1 56 6).toNat) → R z s) : sx_wp true sL sx eX5_chain CALL [] Q R 400 0 (sx_argsF 0 [.inr (.inl 56)]) [] s := by
  repeat' (first | (with_reducible (rintro _ rfl)) | (with_reducible intro _) | (refine And.intro ?_ ?_) | (refine hK _ ?_))
  all_goals (try dsimp only)
  repeat' (first | (with_reducible assumption) | ((with_reducible (change cx_I (sx_uf _ _ _ _, _))); refine cx_I_uf rfl rfl ?_ ?_ ?_) | ((with_reducible (change cx_I (_, sx_ua _ _ _ _, _))); refine cx_I_ua rfl rfl ?_ ?_ ?_) | ((with_reducible (change cx_I (_, sx_ua _ 16 _ _, _))); refine cx_I_ari ?_ ?_ ?_) | ((with_reducible (change cx_I (sx_uf _ 11 6 _, _))); refine cx_I_ufA rfl ?_ ?_ ?_ ?_) | (with_reducible exact cx_F_refl _ _) | ((with_reducible (change cx_F _ _ (sx_uf _ _ _ _, _))); refine cx_F_uf rfl ?_) | ((with_reducible (change cx_F _ _ (_, sx_ua _ _ _ _, _))); refine cx_F_ua rfl ?_) | ((with_reducible (change cx_I (_, sx_cpy _ _ _ _ _ _, _))); refine cx_I_cpy rfl rfl rfl (by decide) ?_) | ((with_reducible (change cx_F _ _ (_, sx_cpy _ _ _ _ _ _, _))); refine cx_F_cpy rfl ?_) | ((with_reducible (change cx_F _ _ _)); refine cx_F_step (by assumption) rfl ?_) | fail)
  all_goals (try dsimp only at *)
  all_goals (first | trivial | omega | rfl | (intros; omega) | (intros; rfl) | skip)

theorem c_dv_pchain56 {sL : Nat} {sx : Nat → Int32} (hsL : sL ≤ 3072) (d : Nat) (hd : 2 ≤ d) : ∀ (s : sx_S) (K : Int → sx_S → Prop), cx_I s → (∀ z : Int, (s.1 56 6 < 512 → z = s.2.1 58 (s.1 56 6).toNat) → K z s) → sx_C sL sx d 64 [.inr (.inl 56)] s K := by
  intro  s K hI  hK
  obtain ⟨d, rfl⟩ : ∃ e, d = e + 2 := ⟨d - 2, by omega⟩
  exact sx_meth (wr := true) (n := 400) hsL (e := eX5_chain) rfl (w_dv_pchain56 (Q := fun _ _ _ => False)  hI  hK)

theorem w_dv_plevel56 {CALL : sx_Ca} {sL : Nat} {sx : Nat → Int32} {Q : Nat → sx_L → sx_S → Prop} {R : Int → sx_S → Prop} {s : sx_S} (hI : cx_I s) (hK : ∀ z : Int, (s.1 56 6 < 512 → z = s.2.1 61 (s.1 56 6).toNat) → R z s) : sx_wp true sL sx eX5_level CALL [] Q R 400 0 (sx_argsF 0 [.inr (.inl 56)]) [] s := by
  repeat' (first | (with_reducible (rintro _ rfl)) | (with_reducible intro _) | (refine And.intro ?_ ?_) | (refine hK _ ?_))
  all_goals (try dsimp only)
  repeat' (first | (with_reducible assumption) | ((with_reducible (change cx_I (sx_uf _ _ _ _, _))); refine cx_I_uf rfl rfl ?_ ?_ ?_) | ((with_reducible (change cx_I (_, sx_ua _ _ _ _, _))); refine cx_I_ua rfl rfl ?_ ?_ ?_) | ((with_reducible (change cx_I (_, sx_ua _ 16 _ _, _))); refine cx_I_ari ?_ ?_ ?_) | ((with_reducible (change cx_I (sx_uf _ 11 6 _, _))); refine cx_I_ufA rfl ?_ ?_ ?_ ?_) | (with_reducible exact cx_F_refl _ _) | ((with_reducible (change cx_F _ _ (sx_uf _ _ _ _, _))); refine cx_F_uf rfl ?_) | ((with_reducible (change cx_F _ _ (_, sx_ua _ _ _ _, _))); refine cx_F_ua rfl ?_) | ((with_reducible (change cx_I (_, sx_cpy _ _ _ _ _ _, _))); refine cx_I_cpy rfl rfl rfl (by decide) ?_) | ((with_reducible (change cx_F _ _ (_, sx_cpy _ _ _ _ _ _, _))); refine cx_F_cpy rfl ?_) | ((with_reducible (change cx_F _ _ _)); refine cx_F_step (by assumption) rfl ?_) | fail)
  all_goals (try dsimp only at *)
  all_goals (first | trivial | omega | rfl | (intros; omega) | (intros; rfl) | skip)

theorem c_dv_plevel56 {sL : Nat} {sx : Nat → Int32} (hsL : sL ≤ 3072) (d : Nat) (hd : 2 ≤ d) : ∀ (s : sx_S) (K : Int → sx_S → Prop), cx_I s → (∀ z : Int, (s.1 56 6 < 512 → z = s.2.1 61 (s.1 56 6).toNat) → K z s) → sx_C sL sx d 67 [.inr (.inl 56)] s K := by
  intro  s K hI  hK
  obtain ⟨d, rfl⟩ : ∃ e, d = e + 2 := ⟨d - 2, by omega⟩
  exact sx_meth (wr := true) (n := 400) hsL (e := eX5_level) rfl (w_dv_plevel56 (Q := fun _ _ _ => False)  hI  hK)

theorem w_dv_pmark56 {CALL : sx_Ca} {sL : Nat} {sx : Nat → Int32} {Q : Nat → sx_L → sx_S → Prop} {R : Int → sx_S → Prop} {s : sx_S} (hI : cx_I s) (hK : ∀ z : Int, (s.1 56 6 < 512 → z = s.2.1 62 (s.1 56 6).toNat) → R z s) : sx_wp true sL sx eX5_mark CALL [] Q R 400 0 (sx_argsF 0 [.inr (.inl 56)]) [] s := by
  repeat' (first | (with_reducible (rintro _ rfl)) | (with_reducible intro _) | (refine And.intro ?_ ?_) | (refine hK _ ?_))
  all_goals (try dsimp only)
  repeat' (first | (with_reducible assumption) | ((with_reducible (change cx_I (sx_uf _ _ _ _, _))); refine cx_I_uf rfl rfl ?_ ?_ ?_) | ((with_reducible (change cx_I (_, sx_ua _ _ _ _, _))); refine cx_I_ua rfl rfl ?_ ?_ ?_) | ((with_reducible (change cx_I (_, sx_ua _ 16 _ _, _))); refine cx_I_ari ?_ ?_ ?_) | ((with_reducible (change cx_I (sx_uf _ 11 6 _, _))); refine cx_I_ufA rfl ?_ ?_ ?_ ?_) | (with_reducible exact cx_F_refl _ _) | ((with_reducible (change cx_F _ _ (sx_uf _ _ _ _, _))); refine cx_F_uf rfl ?_) | ((with_reducible (change cx_F _ _ (_, sx_ua _ _ _ _, _))); refine cx_F_ua rfl ?_) | ((with_reducible (change cx_I (_, sx_cpy _ _ _ _ _ _, _))); refine cx_I_cpy rfl rfl rfl (by decide) ?_) | ((with_reducible (change cx_F _ _ (_, sx_cpy _ _ _ _ _ _, _))); refine cx_F_cpy rfl ?_) | ((with_reducible (change cx_F _ _ _)); refine cx_F_step (by assumption) rfl ?_) | fail)
  all_goals (try dsimp only at *)
  all_goals (first | trivial | omega | rfl | (intros; omega) | (intros; rfl) | skip)

theorem c_dv_pmark56 {sL : Nat} {sx : Nat → Int32} (hsL : sL ≤ 3072) (d : Nat) (hd : 2 ≤ d) : ∀ (s : sx_S) (K : Int → sx_S → Prop), cx_I s → (∀ z : Int, (s.1 56 6 < 512 → z = s.2.1 62 (s.1 56 6).toNat) → K z s) → sx_C sL sx d 68 [.inr (.inl 56)] s K := by
  intro  s K hI  hK
  obtain ⟨d, rfl⟩ : ∃ e, d = e + 2 := ⟨d - 2, by omega⟩
  exact sx_meth (wr := true) (n := 400) hsL (e := eX5_mark) rfl (w_dv_pmark56 (Q := fun _ _ _ => False)  hI  hK)

theorem w_dv_pempty56 {CALL : sx_Ca} {sL : Nat} {sx : Nat → Int32} {Q : Nat → sx_L → sx_S → Prop} {R : Int → sx_S → Prop} {s : sx_S} (hI : cx_I s) (hK : ∀ z : Int, (0 ≤ z ∧ z ≤ 1) → (s.1 56 6 = 0 → z = 1) → (s.1 56 6 ≠ 0 → z = 0) → R z s) : sx_wp true sL sx eX5_isEmpty CALL [] Q R 400 0 (sx_argsF 0 [.inr (.inl 56)]) [] s := by
  repeat' (first | (with_reducible intro _) | (refine And.intro ?_ ?_) | (refine hK _ ?_ ?_ ?_))
  all_goals (try dsimp only)
  repeat' (first | (with_reducible assumption) | ((with_reducible (change cx_I (sx_uf _ _ _ _, _))); refine cx_I_uf rfl rfl ?_ ?_ ?_) | ((with_reducible (change cx_I (_, sx_ua _ _ _ _, _))); refine cx_I_ua rfl rfl ?_ ?_ ?_) | ((with_reducible (change cx_I (_, sx_ua _ 16 _ _, _))); refine cx_I_ari ?_ ?_ ?_) | ((with_reducible (change cx_I (sx_uf _ 11 6 _, _))); refine cx_I_ufA rfl ?_ ?_ ?_ ?_) | (with_reducible exact cx_F_refl _ _) | ((with_reducible (change cx_F _ _ (sx_uf _ _ _ _, _))); refine cx_F_uf rfl ?_) | ((with_reducible (change cx_F _ _ (_, sx_ua _ _ _ _, _))); refine cx_F_ua rfl ?_) | ((with_reducible (change cx_I (_, sx_cpy _ _ _ _ _ _, _))); refine cx_I_cpy rfl rfl rfl (by decide) ?_) | ((with_reducible (change cx_F _ _ (_, sx_cpy _ _ _ _ _ _, _))); refine cx_F_cpy rfl ?_) | ((with_reducible (change cx_F _ _ _)); refine cx_F_step (by assumption) rfl ?_) | fail)
  all_goals (try dsimp only at *)
  all_goals (first | trivial | omega | rfl | (intros; omega) | (intros; rfl) | skip)

theorem c_dv_pempty56 {sL : Nat} {sx : Nat → Int32} (hsL : sL ≤ 3072) (d : Nat) (hd : 2 ≤ d) : ∀ (s : sx_S) (K : Int → sx_S → Prop), cx_I s → (∀ z : Int, (0 ≤ z ∧ z ≤ 1) → (s.1 56 6 = 0 → z = 1) → (s.1 56 6 ≠ 0 → z = 0) → K z s) → sx_C sL sx d 59 [.inr (.inl 56)] s K := by
  intro  s K hI  hK
  obtain ⟨d, rfl⟩ : ∃ e, d = e + 2 := ⟨d - 2, by omega⟩
  exact sx_meth (wr := true) (n := 400) hsL (e := eX5_isEmpty) rfl (w_dv_pempty56 (Q := fun _ _ _ => False)  hI  hK)

theorem w_dv_pclear56 {CALL : sx_Ca} {sL : Nat} {sx : Nat → Int32} {Q : Nat → sx_L → sx_S → Prop} {R : Int → sx_S → Prop} {s : sx_S} (hI : cx_I s) (hK : ∀ (z : Int) (t : sx_S), cx_I t → cx_F [(56, 56)] s t → (t.1 56 6 = 0) → R z t) : sx_wp true sL sx eX5_clear CALL [] Q R 400 0 (sx_argsF 0 [.inr (.inl 56)]) [] s := by
  repeat' (first | (with_reducible intro _) | (refine And.intro ?_ ?_) | (refine hK _ _ ?_ ?_ ?_))
  all_goals (try dsimp only)
  repeat' (first | (with_reducible assumption) | ((with_reducible (change cx_I (sx_uf _ _ _ _, _))); refine cx_I_uf rfl rfl ?_ ?_ ?_) | ((with_reducible (change cx_I (_, sx_ua _ _ _ _, _))); refine cx_I_ua rfl rfl ?_ ?_ ?_) | ((with_reducible (change cx_I (_, sx_ua _ 16 _ _, _))); refine cx_I_ari ?_ ?_ ?_) | ((with_reducible (change cx_I (sx_uf _ 11 6 _, _))); refine cx_I_ufA rfl ?_ ?_ ?_ ?_) | (with_reducible exact cx_F_refl _ _) | ((with_reducible (change cx_F _ _ (sx_uf _ _ _ _, _))); refine cx_F_uf rfl ?_) | ((with_reducible (change cx_F _ _ (_, sx_ua _ _ _ _, _))); refine cx_F_ua rfl ?_) | ((with_reducible (change cx_I (_, sx_cpy _ _ _ _ _ _, _))); refine cx_I_cpy rfl rfl rfl (by decide) ?_) | ((with_reducible (change cx_F _ _ (_, sx_cpy _ _ _ _ _ _, _))); refine cx_F_cpy rfl ?_) | ((with_reducible (change cx_F _ _ _)); refine cx_F_step (by assumption) rfl ?_) | fail)
  all_goals (first | trivial | omega | (dsimp only at *; omega) | (simp only [sx_uf_if, sx_ua_if, sx_w_t, true_and, and_true, and_self, and_false, false_and, if_true, if_false, reduceIte] at *; omega) | (subst_vars; rfl) | (subst_vars; decide))

theorem c_dv_pclear56 {sL : Nat} {sx : Nat → Int32} (hsL : sL ≤ 3072) (d : Nat) (hd : 2 ≤ d) : ∀ (s : sx_S) (K : Int → sx_S → Prop), cx_I s → (∀ (z : Int) (t : sx_S), cx_I t → cx_F [(56, 56)] s t → (t.1 56 6 = 0) → K z t) → sx_C sL sx d 58 [.inr (.inl 56)] s K := by
  intro  s K hI  hK
  obtain ⟨d, rfl⟩ : ∃ e, d = e + 2 := ⟨d - 2, by omega⟩
  exact sx_meth (wr := true) (n := 400) hsL (e := eX5_clear) rfl (w_dv_pclear56 (Q := fun _ _ _ => False)  hI  hK)
