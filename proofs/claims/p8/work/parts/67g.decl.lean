/-! ===== the desk's checker: declarations ===== -/
theorem px_SX' {K : Nat → Int} : ∀ {k : Nat} {a : Int} {n m : Nat}, px_S K k a n m → px_X K k a n → False
  | 0, _, _, _, _, h => h
  | k + 1, a, n, m, ⟨_, h2, h3⟩, ⟨_, h4⟩ => by
    rcases h4 with h4 | ⟨_, h4⟩
    · omega
    · exact px_SX' h3 h4
theorem px_SX {K : Nat → Int} {a c : Int} {n m : Nat} (h : px_Sp K a c n m) (g : px_Xp K a c n) : False := by
  obtain ⟨k, h1, h2⟩ := h
  obtain ⟨j, g1, g2⟩ := g
  obtain rfl : k = j := by omega
  exact px_SX' h2 g2

theorem c_dz_bl {sL : Nat} {sx : Nat → Int32} (hsL : sL ≤ 3072) (d : Nat) (hd : 3 ≤ d) : ∀ (a0 a1 : Int) (u : sx_S) (K : Int → sx_S → Prop), cx_I u → (-2147483648 ≤ a0 ∧ a0 ≤ 2147483647) → (-2147483648 ≤ a1 ∧ a1 ≤ 2147483647) → (∀ t, cx_I t → t.1 18 9 = u.1 18 9 → K 0 t) → sx_C sL sx d 21 [.inr (.inl 18), .inl a0, .inl a1] u K := fun a0 a1 u K h1 h2 h3 hK => c_dz_blame hsL d hd a0 a1 u K h1 h2 h3 (fun z t t1 _ t3 t4 _ => by
  subst t3
  exact hK t t1 t4)

theorem w_dz_fullC {CALL : sx_Ca} {sL : Nat} {sx : Nat → Int32} {Q : Nat → sx_L → sx_S → Prop} {R : Int → sx_S → Prop} {s : sx_S} (hI : cx_I s) (hK : ∀ z : Int, (z = 0 ∨ z = 1) → (z ≠ 0 → 8 ≤ s.1 19 2) → (z = 0 → s.1 19 2 < 8) → R z s) : sx_wp true sL sx eX4_isFull CALL [] Q R 400 0 (sx_argsF 0 [.inr (.inl 19)]) [] s := by
  repeat' (first | (with_reducible (rintro _ rfl)) | (with_reducible intro _) | (refine And.intro ?_ ?_) | (refine hK _ ?_ ?_ ?_))
  all_goals (try dsimp only)
  repeat' (first | (with_reducible assumption) | ((with_reducible (change cx_I (sx_uf _ _ _ _, _))); refine cx_I_uf rfl rfl ?_ ?_ ?_) | ((with_reducible (change cx_I (_, sx_ua _ _ _ _, _))); refine cx_I_ua rfl rfl ?_ ?_ ?_) | ((with_reducible (change cx_I (_, sx_ua _ 16 _ _, _))); refine cx_I_ari ?_ ?_ ?_) | ((with_reducible (change cx_I (sx_uf _ 11 6 _, _))); refine cx_I_ufA rfl ?_ ?_ ?_ ?_) | (with_reducible exact cx_F_refl _ _) | ((with_reducible (change cx_F _ _ (sx_uf _ _ _ _, _))); refine cx_F_uf rfl ?_) | ((with_reducible (change cx_F _ _ (_, sx_ua _ _ _ _, _))); refine cx_F_ua rfl ?_) | ((with_reducible (change cx_I (_, sx_cpy _ _ _ _ _ _, _))); refine cx_I_cpy rfl rfl rfl (by decide) ?_) | ((with_reducible (change cx_F _ _ (_, sx_cpy _ _ _ _ _ _, _))); refine cx_F_cpy rfl ?_) | ((with_reducible (change cx_F _ _ _)); refine cx_F_step (by assumption) rfl ?_) | fail)
  all_goals (try dsimp only at *)
  all_goals (first | trivial | omega | rfl | (intros; omega) | (intros; rfl) | skip)

theorem c_dz_fullC {sL : Nat} {sx : Nat → Int32} (hsL : sL ≤ 3072) (d : Nat) (hd : 2 ≤ d) : ∀ (s : sx_S) (K : Int → sx_S → Prop), cx_I s → (∀ z : Int, (z = 0 ∨ z = 1) → (z ≠ 0 → 8 ≤ s.1 19 2) → (z = 0 → s.1 19 2 < 8) → K z s) → sx_C sL sx d 51 [.inr (.inl 19)] s K := by
  intro  s K hI  hK
  obtain ⟨d, rfl⟩ : ∃ e, d = e + 2 := ⟨d - 2, by omega⟩
  exact sx_meth (wr := true) (n := 400) hsL (e := eX4_isFull) rfl (w_dz_fullC (Q := fun _ _ _ => False)  hI  hK)

theorem w_dz_fullM {CALL : sx_Ca} {sL : Nat} {sx : Nat → Int32} {Q : Nat → sx_L → sx_S → Prop} {R : Int → sx_S → Prop} {s : sx_S} (hI : cx_I s) (hK : ∀ z : Int, (z = 0 ∨ z = 1) → (z ≠ 0 → 5 ≤ s.1 22 2) → (z = 0 → s.1 22 2 < 5) → R z s) : sx_wp true sL sx eX4_isFull CALL [] Q R 400 0 (sx_argsF 0 [.inr (.inl 22)]) [] s := by
  repeat' (first | (with_reducible (rintro _ rfl)) | (with_reducible intro _) | (refine And.intro ?_ ?_) | (refine hK _ ?_ ?_ ?_))
  all_goals (try dsimp only)
  repeat' (first | (with_reducible assumption) | ((with_reducible (change cx_I (sx_uf _ _ _ _, _))); refine cx_I_uf rfl rfl ?_ ?_ ?_) | ((with_reducible (change cx_I (_, sx_ua _ _ _ _, _))); refine cx_I_ua rfl rfl ?_ ?_ ?_) | ((with_reducible (change cx_I (_, sx_ua _ 16 _ _, _))); refine cx_I_ari ?_ ?_ ?_) | ((with_reducible (change cx_I (sx_uf _ 11 6 _, _))); refine cx_I_ufA rfl ?_ ?_ ?_ ?_) | (with_reducible exact cx_F_refl _ _) | ((with_reducible (change cx_F _ _ (sx_uf _ _ _ _, _))); refine cx_F_uf rfl ?_) | ((with_reducible (change cx_F _ _ (_, sx_ua _ _ _ _, _))); refine cx_F_ua rfl ?_) | ((with_reducible (change cx_I (_, sx_cpy _ _ _ _ _ _, _))); refine cx_I_cpy rfl rfl rfl (by decide) ?_) | ((with_reducible (change cx_F _ _ (_, sx_cpy _ _ _ _ _ _, _))); refine cx_F_cpy rfl ?_) | ((with_reducible (change cx_F _ _ _)); refine cx_F_step (by assumption) rfl ?_) | fail)
  all_goals (try dsimp only at *)
  all_goals (first | trivial | omega | rfl | (intros; omega) | (intros; rfl) | skip)

theorem c_dz_fullM {sL : Nat} {sx : Nat → Int32} (hsL : sL ≤ 3072) (d : Nat) (hd : 2 ≤ d) : ∀ (s : sx_S) (K : Int → sx_S → Prop), cx_I s → (∀ z : Int, (z = 0 ∨ z = 1) → (z ≠ 0 → 5 ≤ s.1 22 2) → (z = 0 → s.1 22 2 < 5) → K z s) → sx_C sL sx d 51 [.inr (.inl 22)] s K := by
  intro  s K hI  hK
  obtain ⟨d, rfl⟩ : ∃ e, d = e + 2 := ⟨d - 2, by omega⟩
  exact sx_meth (wr := true) (n := 400) hsL (e := eX4_isFull) rfl (w_dz_fullM (Q := fun _ _ _ => False)  hI  hK)

theorem w_addC {CALL : sx_Ca} {sL : Nat} {sx : Nat → Int32} {Q : Nat → sx_L → sx_S → Prop} {R : Int → sx_S → Prop} {s : sx_S} {a0 a1 : Int} (hI : cx_I s) (h : s.1 19 2 < 8) (r0 : -2147483648 ≤ a0 ∧ a0 ≤ 2147483647) (r1 : -2147483648 ≤ a1 ∧ a1 ≤ 2147483647) (hK : R 0 (sx_uf s.1 19 2 (s.1 19 2 + 1), sx_ua (sx_ua s.2.1 20 (s.1 19 2).toNat a0) 21 (s.1 19 2).toNat a1, s.2.2)) : sx_wp true sL sx eX4_add CALL [] Q R 400 0 (sx_argsF 0 [.inr (.inl 19), .inl a0, .inl a1]) [] s := by
  have h0 := hI.fld 19 2 (by decide) rfl
  have zzy : sx_w true (s.1 19 2 + 1) = s.1 19 2 + 1 := px_wid (by omega) (by omega)
  have zz1 : cx_I (s.1, sx_ua s.2.1 20 (s.1 19 2).toNat a0, s.2.2) := cx_I_ua rfl rfl hI (by omega) (by omega)
  have zz2 : cx_I (s.1, sx_ua (sx_ua s.2.1 20 (s.1 19 2).toNat a0) 21 (s.1 19 2).toNat a1, s.2.2) := cx_I_ua rfl rfl zz1 (by omega) (by omega)
  rw [← zzy] at hK
  repeat' (first | (with_reducible (rintro _ rfl)) | (with_reducible intro _) | (refine And.intro ?_ ?_) | (fail))
  all_goals (try dsimp only at *)
  all_goals (first | trivial | assumption | omega | (exfalso; omega) | skip)
theorem c_dz_addC {sL : Nat} {sx : Nat → Int32} (hsL : sL ≤ 3072) (d : Nat) (hd : 2 ≤ d) : ∀ (a0 a1 : Int) (s : sx_S) (R : Int → sx_S → Prop), cx_I s → s.1 19 2 < 8 → (-2147483648 ≤ a0 ∧ a0 ≤ 2147483647) → (-2147483648 ≤ a1 ∧ a1 ≤ 2147483647) → R 0 (sx_uf s.1 19 2 (s.1 19 2 + 1), sx_ua (sx_ua s.2.1 20 (s.1 19 2).toNat a0) 21 (s.1 19 2).toNat a1, s.2.2) → sx_C sL sx d 53 [.inr (.inl 19), .inl a0, .inl a1] s R := by
  intro a0 a1 s R hI h r0 r1 hK
  obtain ⟨d, rfl⟩ : ∃ e, d = e + 2 := ⟨d - 2, by omega⟩
  exact sx_meth (wr := true) (n := 400) hsL (e := eX4_add) rfl (w_addC (Q := fun _ _ _ => False) hI h r0 r1 hK)
theorem w_dcC {CALL : sx_Ca} {sL : Nat} {sx : Nat → Int32} {Q : Nat → sx_L → sx_S → Prop} {R : Int → sx_S → Prop} (h_bl : ∀ (a0 a1 : Int) (u : sx_S) (K : Int → sx_S → Prop), cx_I u → (-2147483648 ≤ a0 ∧ a0 ≤ 2147483647) → (-2147483648 ≤ a1 ∧ a1 ≤ 2147483647) → (∀ t, cx_I t → t.1 18 9 = u.1 18 9 → K 0 t) → CALL 21 [.inr (.inl 18), .inl a0, .inl a1] u K) {s : sx_S} {Zf Zc Zm Zs : Prop} {Z1 : Int → sx_S → Prop} {Z2 : sx_S → Prop} (hI : cx_I s) (h11 : 0 ≤ s.1 18 11 ∧ s.1 18 11 ≤ 900) (h_full : ∀ K : Int → sx_S → Prop, (¬ Zf → K 1 s) → (Zf → K 0 s) → CALL 51 [.inr (.inl 19)] s K) (h_fC : ∀ K : Int → sx_S → Prop, (Zc → K (-1) s) → (¬ Zc → ∀ i, 0 ≤ i → i ≤ 7 → K i s) → CALL 54 [.inr (.inl 19), .inr (.inl 2), .inl (s.1 18 11 + 1)] s K) (h_fM : ∀ K : Int → sx_S → Prop, (Zm → K (-1) s) → (¬ Zm → ∀ i, 0 ≤ i → i ≤ 7 → K i s) → CALL 54 [.inr (.inl 22), .inr (.inl 2), .inl (s.1 18 11 + 1)] s K) (h_lt : ∀ K : Int → sx_S → Prop, (Zs → K (-1) s) → (¬ Zs → ∀ z, 0 ≤ z → z ≤ 240 → K z s) → CALL 24 [.inr (.inl 18)] s K) (h_ty : Zf → Zc → Zm → Zs → ∀ K : Int → sx_S → Prop, (∀ z t, Z1 z t → K z t) → CALL 25 [.inr (.inl 18), .inl 0] (sx_uf s.1 18 11 (s.1 18 11 + 3), s.2) K) (h_add : ∀ z t, Z1 z t → ∀ K : Int → sx_S → Prop, (∀ u, Z2 u → K 0 u) → CALL 53 [.inr (.inl 19), .inl (s.1 18 11 + 1), .inl z] t K) (hZ2 : ∀ u, Z2 u → cx_I u) (hK : ∀ u, Z2 u → ∀ w, w = sx_w true (u.1 18 11 + 1) → R 1 (sx_uf u.1 18 11 w, u.2)) (hF : ¬ (Zf ∧ Zc ∧ Zm ∧ Zs) → ∀ u, cx_I u → R 0 u) : sx_wp true sL sx eX1_declaration CALL [] Q R 400 0 (sx_argsF 0 [.inr (.inl 18), .inr (.inl 19)]) [] s := by
  have zzy : sx_w true (s.1 18 11 + 1) = s.1 18 11 + 1 := px_wid (by omega) (by omega)
  have zzz : sx_w true (s.1 18 11 + 3) = s.1 18 11 + 3 := px_wid (by omega) (by omega)
  have zzr : -2147483648 ≤ sx_w true (s.1 18 11 + 1) ∧ sx_w true (s.1 18 11 + 1) ≤ 2147483647 := by omega
  rw [← zzy] at h_fC h_fM h_add
  rw [← zzz] at h_ty
  have f1 : ¬ Zf → ∀ u, cx_I u → R 0 u := fun q => hF (fun z => q z.1)
  have f2 : ¬ Zc → ∀ u, cx_I u → R 0 u := fun q => hF (fun z => q z.2.1)
  have f3 : ¬ Zm → ∀ u, cx_I u → R 0 u := fun q => hF (fun z => q z.2.2.1)
  have f4 : ¬ Zs → ∀ u, cx_I u → R 0 u := fun q => hF (fun z => q z.2.2.2)
  clear hF
  repeat' (first | (with_reducible (rintro _ rfl)) | (with_reducible intro _) | (refine And.intro ?_ ?_) | (refine h_full _ ?_ ?_) | (refine h_fC _ ?_ ?_) | (refine h_fM _ ?_ ?_) | (refine h_lt _ ?_ ?_) | (refine h_ty ?_ ?_ ?_ ?_ _ ?_) | (refine h_add _ _ ?_ _ ?_) | (refine h_bl _ _ _ _ ?_ ?_ ?_ ?_))
  all_goals (try dsimp only at *)
  all_goals (first | trivial | assumption | omega | (exfalso; omega) | (exact hZ2 _ (by assumption)) | (exact hK _ (by assumption) _ rfl) | (exact f1 (by assumption) _ (by assumption)) | (exact f2 (by assumption) _ (by assumption)) | (exact f3 (by assumption) _ (by assumption)) | (exact f4 (by assumption) _ (by assumption)) | skip)

theorem w_addM {CALL : sx_Ca} {sL : Nat} {sx : Nat → Int32} {Q : Nat → sx_L → sx_S → Prop} {R : Int → sx_S → Prop} {s : sx_S} {a0 a1 : Int} (hI : cx_I s) (h : s.1 22 2 < 5) (r0 : -2147483648 ≤ a0 ∧ a0 ≤ 2147483647) (r1 : -2147483648 ≤ a1 ∧ a1 ≤ 2147483647) (hK : R 0 (sx_uf s.1 22 2 (s.1 22 2 + 1), sx_ua (sx_ua s.2.1 23 (s.1 22 2).toNat a0) 24 (s.1 22 2).toNat a1, s.2.2)) : sx_wp true sL sx eX4_add CALL [] Q R 400 0 (sx_argsF 0 [.inr (.inl 22), .inl a0, .inl a1]) [] s := by
  have h0 := hI.fld 22 2 (by decide) rfl
  have zzy : sx_w true (s.1 22 2 + 1) = s.1 22 2 + 1 := px_wid (by omega) (by omega)
  have zz1 : cx_I (s.1, sx_ua s.2.1 23 (s.1 22 2).toNat a0, s.2.2) := cx_I_ua rfl rfl hI (by omega) (by omega)
  have zz2 : cx_I (s.1, sx_ua (sx_ua s.2.1 23 (s.1 22 2).toNat a0) 24 (s.1 22 2).toNat a1, s.2.2) := cx_I_ua rfl rfl zz1 (by omega) (by omega)
  rw [← zzy] at hK
  repeat' (first | (with_reducible (rintro _ rfl)) | (with_reducible intro _) | (refine And.intro ?_ ?_) | (fail))
  all_goals (try dsimp only at *)
  all_goals (first | trivial | assumption | omega | (exfalso; omega) | skip)
theorem c_dz_addM {sL : Nat} {sx : Nat → Int32} (hsL : sL ≤ 3072) (d : Nat) (hd : 2 ≤ d) : ∀ (a0 a1 : Int) (s : sx_S) (R : Int → sx_S → Prop), cx_I s → s.1 22 2 < 5 → (-2147483648 ≤ a0 ∧ a0 ≤ 2147483647) → (-2147483648 ≤ a1 ∧ a1 ≤ 2147483647) → R 0 (sx_uf s.1 22 2 (s.1 22 2 + 1), sx_ua (sx_ua s.2.1 23 (s.1 22 2).toNat a0) 24 (s.1 22 2).toNat a1, s.2.2) → sx_C sL sx d 53 [.inr (.inl 22), .inl a0, .inl a1] s R := by
  intro a0 a1 s R hI h r0 r1 hK
  obtain ⟨d, rfl⟩ : ∃ e, d = e + 2 := ⟨d - 2, by omega⟩
  exact sx_meth (wr := true) (n := 400) hsL (e := eX4_add) rfl (w_addM (Q := fun _ _ _ => False) hI h r0 r1 hK)
theorem w_dcM {CALL : sx_Ca} {sL : Nat} {sx : Nat → Int32} {Q : Nat → sx_L → sx_S → Prop} {R : Int → sx_S → Prop} (h_bl : ∀ (a0 a1 : Int) (u : sx_S) (K : Int → sx_S → Prop), cx_I u → (-2147483648 ≤ a0 ∧ a0 ≤ 2147483647) → (-2147483648 ≤ a1 ∧ a1 ≤ 2147483647) → (∀ t, cx_I t → t.1 18 9 = u.1 18 9 → K 0 t) → CALL 21 [.inr (.inl 18), .inl a0, .inl a1] u K) {s : sx_S} {Zf Zc Zm Zs : Prop} {Z1 : Int → sx_S → Prop} {Z2 : sx_S → Prop} (hI : cx_I s) (h11 : 0 ≤ s.1 18 11 ∧ s.1 18 11 ≤ 900) (h_full : ∀ K : Int → sx_S → Prop, (¬ Zf → K 1 s) → (Zf → K 0 s) → CALL 51 [.inr (.inl 22)] s K) (h_fC : ∀ K : Int → sx_S → Prop, (Zc → K (-1) s) → (¬ Zc → ∀ i, 0 ≤ i → i ≤ 7 → K i s) → CALL 54 [.inr (.inl 19), .inr (.inl 2), .inl (s.1 18 11 + 1)] s K) (h_fM : ∀ K : Int → sx_S → Prop, (Zm → K (-1) s) → (¬ Zm → ∀ i, 0 ≤ i → i ≤ 7 → K i s) → CALL 54 [.inr (.inl 22), .inr (.inl 2), .inl (s.1 18 11 + 1)] s K) (h_lt : ∀ K : Int → sx_S → Prop, (Zs → K (-1) s) → (¬ Zs → ∀ z, 0 ≤ z → z ≤ 240 → K z s) → CALL 24 [.inr (.inl 18)] s K) (h_ty : Zf → Zc → Zm → Zs → ∀ K : Int → sx_S → Prop, (∀ z t, Z1 z t → K z t) → CALL 25 [.inr (.inl 18), .inl 0] (sx_uf s.1 18 11 (s.1 18 11 + 3), s.2) K) (h_add : ∀ z t, Z1 z t → ∀ K : Int → sx_S → Prop, (∀ u, Z2 u → K 0 u) → CALL 53 [.inr (.inl 22), .inl (s.1 18 11 + 1), .inl z] t K) (hZ2 : ∀ u, Z2 u → cx_I u) (hK : ∀ u, Z2 u → ∀ w, w = sx_w true (u.1 18 11 + 1) → R 1 (sx_uf u.1 18 11 w, u.2)) (hF : ¬ (Zf ∧ Zc ∧ Zm ∧ Zs) → ∀ u, cx_I u → R 0 u) : sx_wp true sL sx eX1_declaration CALL [] Q R 400 0 (sx_argsF 0 [.inr (.inl 18), .inr (.inl 22)]) [] s := by
  have zzy : sx_w true (s.1 18 11 + 1) = s.1 18 11 + 1 := px_wid (by omega) (by omega)
  have zzz : sx_w true (s.1 18 11 + 3) = s.1 18 11 + 3 := px_wid (by omega) (by omega)
  have zzr : -2147483648 ≤ sx_w true (s.1 18 11 + 1) ∧ sx_w true (s.1 18 11 + 1) ≤ 2147483647 := by omega
  rw [← zzy] at h_fC h_fM h_add
  rw [← zzz] at h_ty
  have f1 : ¬ Zf → ∀ u, cx_I u → R 0 u := fun q => hF (fun z => q z.1)
  have f2 : ¬ Zc → ∀ u, cx_I u → R 0 u := fun q => hF (fun z => q z.2.1)
  have f3 : ¬ Zm → ∀ u, cx_I u → R 0 u := fun q => hF (fun z => q z.2.2.1)
  have f4 : ¬ Zs → ∀ u, cx_I u → R 0 u := fun q => hF (fun z => q z.2.2.2)
  clear hF
  repeat' (first | (with_reducible (rintro _ rfl)) | (with_reducible intro _) | (refine And.intro ?_ ?_) | (refine h_full _ ?_ ?_) | (refine h_fC _ ?_ ?_) | (refine h_fM _ ?_ ?_) | (refine h_lt _ ?_ ?_) | (refine h_ty ?_ ?_ ?_ ?_ _ ?_) | (refine h_add _ _ ?_ _ ?_) | (refine h_bl _ _ _ _ ?_ ?_ ?_ ?_))
  all_goals (try dsimp only at *)
  all_goals (first | trivial | assumption | omega | (exfalso; omega) | (exact hZ2 _ (by assumption)) | (exact hK _ (by assumption) _ rfl) | (exact f1 (by assumption) _ (by assumption)) | (exact f2 (by assumption) _ (by assumption)) | (exact f3 (by assumption) _ (by assumption)) | (exact f4 (by assumption) _ (by assumption)) | skip)

theorem dz_E_addC {b : Nat → Int} {n : Int} {C M : List (Int × qx_T)} {s : sx_S} {a z : Int} {x : qx_T} (h : dz_E b n C M s) (ha : 0 ≤ a + 1 ∧ a + 1 < s.1 2 5) (hx : dx_is s x z) (h5 : qx_at x ≤ 5) : dz_E b n (C ++ [(a + 1, x)]) M (sx_uf s.1 19 2 (s.1 19 2 + 1), sx_ua (sx_ua s.2.1 20 (s.1 19 2).toNat (a + 1)) 21 (s.1 19 2).toNat z, s.2.2) := fun _ => by
  obtain ⟨e1, e2, e3, ⟨e4, e5⟩, e6, e7⟩ := h trivial
  have hF : cx_F [(19, 21)] s ((sx_uf s.1 19 2 (s.1 19 2 + 1), sx_ua (sx_ua s.2.1 20 (s.1 19 2).toNat (a + 1)) 21 (s.1 19 2).toNat z, s.2.2) : sx_S) := cx_F_uf rfl (cx_F_ua rfl (cx_F_ua rfl (cx_F_refl _ _)))
  obtain ⟨l1, l2⟩ := e2 trivial
  have hnew : dz_DL 19 20 21 (sx_uf s.1 19 2 (s.1 19 2 + 1), sx_ua (sx_ua s.2.1 20 (s.1 19 2).toNat (a + 1)) 21 (s.1 19 2).toNat z, s.2.2) (C ++ [(a + 1, x)]) := fun _ => by
    refine ⟨?_, fun k hk => ?_⟩
    · show _ = sx_uf s.1 19 2 (s.1 19 2 + 1) 19 2
      rw [px_us, List.length_append, List.length_singleton]
      omega
    · rw [List.length_append, List.length_singleton] at hk
      by_cases q' : k < C.length
      · obtain ⟨e, c1, c2, c3, c4⟩ := l2 k q'
        refine ⟨e, by rw [List.getElem?_append_left q']; exact c1, ?_, c3, ?_⟩
        · show sx_ua (sx_ua s.2.1 20 (s.1 19 2).toNat (a + 1)) 21 (s.1 19 2).toNat z 20 k = _
          rw [sx_ua_ne (by decide), sx_ua_if, if_pos rfl, if_neg (by omega)]
          exact c2
        · show dx_is s e.2 (sx_ua (sx_ua s.2.1 20 (s.1 19 2).toNat (a + 1)) 21 (s.1 19 2).toNat z 21 k)
          rw [sx_ua_if, if_pos rfl, if_neg (by omega), sx_ua_ne (by decide)]
          exact c4
      · have ek : k = C.length := by omega
        subst ek
        refine ⟨(a + 1, x), by rw [List.getElem?_append_right (Nat.le_refl _), Nat.sub_self]; rfl, ?_, ha, ?_⟩
        · show sx_ua (sx_ua s.2.1 20 (s.1 19 2).toNat (a + 1)) 21 (s.1 19 2).toNat z 20 C.length = _
          rw [sx_ua_ne (by decide), sx_ua_if, if_pos rfl, if_pos (by omega)]
        · show dx_is s x (sx_ua (sx_ua s.2.1 20 (s.1 19 2).toNat (a + 1)) 21 (s.1 19 2).toNat z 21 C.length)
          rw [sx_ua_if, if_pos rfl, if_pos (by omega)]
          exact hx
  have hmem : ∀ q ∈ C ++ [(a + 1, x)], qx_at q.2 ≤ 5 := fun q hq => by
    rcases List.mem_append.mp hq with hq | hq
    · exact e6 q hq
    · rw [List.mem_singleton.mp hq]
      exact h5
  refine ⟨fun _ => ?_, hnew, fun _ => e3 trivial, ⟨fun i j => e4 i j, e5⟩, hmem, e7⟩
  obtain ⟨a1, a2, a3⟩ := e1 trivial
  exact ⟨a1, a2, px_TK_F hF rfl rfl rfl rfl a3⟩

theorem dz_E_addM {b : Nat → Int} {n : Int} {C M : List (Int × qx_T)} {s : sx_S} {a z : Int} {x : qx_T} (h : dz_E b n C M s) (ha : 0 ≤ a + 1 ∧ a + 1 < s.1 2 5) (hx : dx_is s x z) (h5 : qx_at x ≤ 5) : dz_E b n C (M ++ [(a + 1, x)]) (sx_uf s.1 22 2 (s.1 22 2 + 1), sx_ua (sx_ua s.2.1 23 (s.1 22 2).toNat (a + 1)) 24 (s.1 22 2).toNat z, s.2.2) := fun _ => by
  obtain ⟨e1, e2, e3, ⟨e4, e5⟩, e6, e7⟩ := h trivial
  have hF : cx_F [(22, 24)] s ((sx_uf s.1 22 2 (s.1 22 2 + 1), sx_ua (sx_ua s.2.1 23 (s.1 22 2).toNat (a + 1)) 24 (s.1 22 2).toNat z, s.2.2) : sx_S) := cx_F_uf rfl (cx_F_ua rfl (cx_F_ua rfl (cx_F_refl _ _)))
  obtain ⟨l1, l2⟩ := e3 trivial
  have hnew : dz_DL 22 23 24 (sx_uf s.1 22 2 (s.1 22 2 + 1), sx_ua (sx_ua s.2.1 23 (s.1 22 2).toNat (a + 1)) 24 (s.1 22 2).toNat z, s.2.2) (M ++ [(a + 1, x)]) := fun _ => by
    refine ⟨?_, fun k hk => ?_⟩
    · show _ = sx_uf s.1 22 2 (s.1 22 2 + 1) 22 2
      rw [px_us, List.length_append, List.length_singleton]
      omega
    · rw [List.length_append, List.length_singleton] at hk
      by_cases q' : k < M.length
      · obtain ⟨e, c1, c2, c3, c4⟩ := l2 k q'
        refine ⟨e, by rw [List.getElem?_append_left q']; exact c1, ?_, c3, ?_⟩
        · show sx_ua (sx_ua s.2.1 23 (s.1 22 2).toNat (a + 1)) 24 (s.1 22 2).toNat z 23 k = _
          rw [sx_ua_ne (by decide), sx_ua_if, if_pos rfl, if_neg (by omega)]
          exact c2
        · show dx_is s e.2 (sx_ua (sx_ua s.2.1 23 (s.1 22 2).toNat (a + 1)) 24 (s.1 22 2).toNat z 24 k)
          rw [sx_ua_if, if_pos rfl, if_neg (by omega), sx_ua_ne (by decide)]
          exact c4
      · have ek : k = M.length := by omega
        subst ek
        refine ⟨(a + 1, x), by rw [List.getElem?_append_right (Nat.le_refl _), Nat.sub_self]; rfl, ?_, ha, ?_⟩
        · show sx_ua (sx_ua s.2.1 23 (s.1 22 2).toNat (a + 1)) 24 (s.1 22 2).toNat z 23 M.length = _
          rw [sx_ua_ne (by decide), sx_ua_if, if_pos rfl, if_pos (by omega)]
        · show dx_is s x (sx_ua (sx_ua s.2.1 23 (s.1 22 2).toNat (a + 1)) 24 (s.1 22 2).toNat z 24 M.length)
          rw [sx_ua_if, if_pos rfl, if_pos (by omega)]
          exact hx
  have hmem : ∀ q ∈ M ++ [(a + 1, x)], qx_at q.2 ≤ 5 := fun q hq => by
    rcases List.mem_append.mp hq with hq | hq
    · exact e7 q hq
    · rw [List.mem_singleton.mp hq]
      exact h5
  refine ⟨fun _ => ?_, fun _ => e2 trivial, hnew, ⟨fun i j => e4 i j, e5⟩, e6, hmem⟩
  obtain ⟨a1, a2, a3⟩ := e1 trivial
  exact ⟨a1, a2, px_TK_F hF rfl rfl rfl rfl a3⟩

/-- what a right item leaves -/
def dz_IT (s t : sx_S) (c : Int) : Prop := True → cx_I t ∧ t.1 18 11 = c ∧ t.1 18 9 = s.1 18 9 ∧ s.1 2 5 = t.1 2 5 ∧ t.1 11 6 ≤ s.1 11 6 + 3 * (c - s.1 18 11) + 3 ∧ t.1 11 8 ≤ s.1 11 8 + 2 * (c - s.1 18 11) ∧ t.1 8 2 ≤ s.1 8 2 + (c - s.1 18 11)

theorem c_dz_declC {sL : Nat} {sx : Nat → Int32} (hsL : sL ≤ 3072) (d : Nat) (hd : 50 ≤ d) (b : Nat → Int) (n : Int) (C M : List (Int × qx_T)) : ∀ (a e : Int) (x : qx_T) (s : sx_S) (R : Int → sx_S → Prop), cx_I s → s.1 18 11 = a → 0 ≤ a → px_K b n (a + 1).toNat = 2 → px_K b n (a + 2).toNat = 12 → (px_K b n a.toNat = 3 ∨ px_K b n a.toNat = 4) → px_TY (px_K b n) 21 (a + 3) x e → px_K b n e.toNat = 14 → dz_E b n C M s → px_lv b n e.toNat → s.1 8 2 + (e - a) ≤ 255 → (∀ t, (C.length < 8 ∧ px_nv (px_SN b n) C (a + 1) ∧ px_nv (px_SN b n) M (a + 1) ∧ qx_at x ≤ 5) → dz_IT s t (e + 1) → t.1 18 10 = s.1 18 10 → dz_E b n (C ++ [(a + 1, x)]) M t → cx_F [(8, 10), (18, 24)] s t → dx_tu s t → R 1 t) → (¬ (C.length < 8 ∧ px_nv (px_SN b n) C (a + 1) ∧ px_nv (px_SN b n) M (a + 1) ∧ qx_at x ≤ 5) → ∀ t, cx_I t → R 0 t) → sx_C sL sx d 22 [.inr (.inl 18), .inr (.inl 19)] s R := by
  intro a e x s R hI pa pa0 k1 k2 k0 pY k14 hE hlv hr hK hX
  obtain ⟨e1, e2, e3, ⟨e4, e5⟩, e6, e7⟩ := hE trivial
  have hTK := (e1 trivial).2.2
  have hm := (hTK trivial).1
  have le := px_TY_le pY
  have hkd := px_TK_kd hTK (show 0 ≤ e by omega) hlv
  have hem : e < s.1 2 5 := by
    rcases Int.lt_or_le e (s.1 2 5) with q | q
    · exact q
    · have := hkd.2.1 q
      omega
  have hl1 := (e2 trivial).1
  have hl2 := (e3 trivial).1
  have ho := hI.fld 19 2 (by decide) rfl
  have sc : (qx_at x ≤ 5 → ∃ m, px_Sp (px_K b n) (s.1 18 11) e 0 m) ∧ (¬ qx_at x ≤ 5 → px_Xp (px_K b n) (s.1 18 11) e 0) := by
    have ty := px_Sp_TY (n := 0) pY (by omega)
    rw [Nat.zero_add] at ty
    rw [show a + 2 = a + 1 + 1 by omega] at k2
    have s0 : px_Sp (px_K b n) a (a + 3) 0 0 := by
      rw [show a + 3 = a + 1 + 1 + 1 by omega]
      exact px_Sp_t (px_Sp_1 (by omega) (by omega) (by omega) (by omega) (by omega)) (px_Sp_t (px_Sp_1 (by omega) (by omega) (by omega) (by omega) (by omega)) (px_Sp_12 k2))
    rw [pa]
    exact ⟨fun q => ⟨_, px_Sp_t s0 (ty.1 q)⟩, fun q => px_Xp_r s0 (ty.2 (by omega))⟩
  obtain ⟨d, rfl⟩ : ∃ e, d = e + 2 := ⟨d - 2, by omega⟩
  have i1 : cx_I (sx_uf s.1 18 11 (s.1 18 11 + 3), s.2) := cx_I_uf rfl rfl hI (by omega) (by omega)
  have t11 : ((sx_uf s.1 18 11 (s.1 18 11 + 3), s.2) : sx_S).1 18 11 = a + 3 := px_uS.trans (by omega)
  have F1 : cx_F [(18, 18)] s ((sx_uf s.1 18 11 (s.1 18 11 + 3), s.2) : sx_S) := cx_F_uf rfl (cx_F_refl _ _)
  refine sx_meth (wr := true) (n := 400) hsL (e := eX1_declaration) rfl (w_dcC (Q := fun _ _ _ => False) (Zf := C.length < 8) (Zc := px_nv (px_SN b n) C (a + 1)) (Zm := px_nv (px_SN b n) M (a + 1)) (Zs := qx_at x ≤ 5) (Z1 := fun z t => (C.length < 8 ∧ px_nv (px_SN b n) C (a + 1) ∧ px_nv (px_SN b n) M (a + 1) ∧ qx_at x ≤ 5) ∧ px_UP (sx_uf s.1 18 11 (s.1 18 11 + 3), s.2) t x e z) (Z2 := fun u => (C.length < 8 ∧ px_nv (px_SN b n) C (a + 1) ∧ px_nv (px_SN b n) M (a + 1) ∧ qx_at x ≤ 5) ∧ cx_I u ∧ u.1 18 11 = e ∧ u.1 18 9 = s.1 18 9 ∧ u.1 18 10 = s.1 18 10 ∧ u.1 2 5 = s.1 2 5 ∧ u.1 11 6 = s.1 11 6 ∧ u.1 11 8 = s.1 11 8 ∧ u.1 8 2 ≤ s.1 8 2 + (e - (a + 3)) ∧ (cx_F [(8, 10), (18, 24)] s u ∧ dx_tu s u) ∧ dz_E b n (C ++ [(a + 1, x)]) M u) (c_dz_bl hsL (d + 1) (by omega)) hI (by omega) ?_ ?_ ?_ ?_ ?_ ?_ (fun _ q => q.2.1) ?_ hX)
  · intro K q1 q2
    refine c_dz_fullC hsL (d + 1) (by omega) s K hI (fun z z0 z1 z2 => ?_)
    rcases z0 with rfl | rfl
    · exact q2 (by have := z2 rfl; omega)
    · exact q1 (by have := z1 (by decide); omega)
  · intro K q1 q2
    rw [pa]
    refine c_dx_findC hsL (d + 1) (by omega) b n C (a + 1) s K hI (by omega) e1 (by omega) e2 (fun z z0 z1 z2 => ?_)
    by_cases q : z = -1
    · rw [q]
      exact q1 (z1 q)
    · obtain ⟨z3, y, z4⟩ := z2 q
      exact q2 (fun h => px_cf_nv z4 h) z (by omega) (by omega)
  · intro K q1 q2
    rw [pa]
    refine c_dx_findM hsL (d + 1) (by omega) b n M (a + 1) s K hI (by omega) e1 (by omega) e3 (fun z z0 z1 z2 => ?_)
    by_cases q : z = -1
    · rw [q]
      exact q1 (z1 q)
    · obtain ⟨z3, y, z4⟩ := z2 q
      exact q2 (fun h => px_cf_nv z4 h) z (by omega) (by omega)
  · intro K q1 q2
    by_cases q : qx_at x ≤ 5
    · exact c_dz_large hsL (d + 1) (by omega) b n e s K hI hTK (by omega) hlv k14 (Or.inl (sc.1 q)) (fun _ => q1 q) (fun h => by
        obtain ⟨m, hm⟩ := sc.1 q
        exact (px_SX hm h).elim)
    · exact c_dz_large hsL (d + 1) (by omega) b n e s K hI hTK (by omega) hlv k14 (Or.inr (sc.2 q)) (fun ⟨m, hm⟩ => (px_SX hm (sc.2 q)).elim) (fun _ => q2 q)
  · intro z1 z2 z3 z4 K hK'
    refine c_du_type hsL b n 21 (by omega) (d + 1) (by omega) (a + 3) x e 0 _ K i1 (by omega) t11 pY (fun _ => ⟨px_TK_F F1 rfl rfl rfl rfl hTK, by rw [t11]; omega, by rw [t11]; exact px_lv_le hlv (by omega), fun i j => e4 i j, e5, ?_⟩) (fun z t hz => hK' z t ⟨⟨z1, z2, z3, z4⟩, hz⟩)
    rw [t11]
    show s.1 8 2 + _ ≤ _
    omega
  · rintro z t ⟨hok, hU⟩ K hK'
    obtain ⟨⟨a1, a2⟩, a3, a4, ⟨a5, a6, a7⟩, a8, a9⟩ := hU trivial
    rw [t11] at a9
    have a9' : t.1 8 2 ≤ s.1 8 2 + (e - (a + 3)) := a9
    have g0 : dz_G (s.1 11 6) s (sx_uf s.1 18 11 (s.1 18 11 + 3), s.2) := dz_G_uf i1 e4 rfl
    have g1 : dz_G (s.1 11 6) (sx_uf s.1 18 11 (s.1 18 11 + 3), s.2) t := dz_G_8 a1 a2 (fun k hk => a4 k (by
      rw [show [11, 12, 13, 14] = [11] ++ [12, 13, 14] from rfl, List.contains_append, Bool.or_eq_false_iff] at hk
      exact hk.1)) a6 a7
    have g := dz_G_t g1 g0
    have tE := dz_E_G hE g
    have tb := a1.fld 8 2 (by decide) rfl
    have rz := dx_rng a5 a8
    have c11 : t.1 11 = s.1 11 := (a2.same 11 rfl).1
    have c2 : t.1 2 = s.1 2 := (a2.same 2 rfl).1
    have co : t.1 19 = s.1 19 := (a2.same 19 rfl).1
    have to2 := a1.fld 19 2 (by decide) rfl
    rw [pa]
    have hcap : t.1 19 2 < 8 := by rw [co]; omega
    refine c_dz_addC hsL (d + 1) (by omega) (a + 1) z t K a1 hcap (by omega) (by omega) (hK' _ ⟨hok, cx_I_uf rfl rfl (cx_I_ua rfl rfl (cx_I_ua rfl rfl a1 (by omega) (by omega)) (by omega) (by omega)) (by omega) (by omega), a3, (g trivial).2.1 9 rfl, (g trivial).2.1 10 rfl, congrFun c2 5, congrFun c11 6, congrFun c11 8, a9', ⟨cx_F_uf rfl (cx_F_ua rfl (cx_F_ua rfl (cx_F_step a2 rfl (cx_F_step F1 rfl (cx_F_refl _ _))))), fun j => a7 j⟩, dz_E_addC tE (by rw [c2]; omega) a5 hok.2.2.2⟩)
  · rintro u ⟨hok, u1, u2, u3, u4, u5, u6, u7, u8, ⟨uF, uT⟩, u9⟩ w hw
    have ew : w = e + 1 := by rw [hw, u2, px_wid (by omega) (by omega)]
    subst ew
    have i2 : cx_I (sx_uf u.1 18 11 (e + 1), u.2) := cx_I_uf rfl rfl u1 (by omega) (by omega)
    have g2 : dz_G (s.1 11 6) u (sx_uf u.1 18 11 (e + 1), u.2) := dz_G_uf i2 (u9 trivial).2.2.2.1.1 rfl
    refine hK _ hok (fun _ => ⟨i2, px_uS, u3, u5.symm, ?_, ?_, ?_⟩) u4 (dz_E_G u9 g2) (cx_F_uf rfl uF) (fun j => uT j)
    · show u.1 11 6 ≤ _
      omega
    · show u.1 11 8 ≤ _
      omega
    · show u.1 8 2 ≤ _
      omega

theorem c_dz_declM {sL : Nat} {sx : Nat → Int32} (hsL : sL ≤ 3072) (d : Nat) (hd : 50 ≤ d) (b : Nat → Int) (n : Int) (C M : List (Int × qx_T)) : ∀ (a e : Int) (x : qx_T) (s : sx_S) (R : Int → sx_S → Prop), cx_I s → s.1 18 11 = a → 0 ≤ a → px_K b n (a + 1).toNat = 2 → px_K b n (a + 2).toNat = 12 → (px_K b n a.toNat = 3 ∨ px_K b n a.toNat = 4) → px_TY (px_K b n) 21 (a + 3) x e → px_K b n e.toNat = 14 → dz_E b n C M s → px_lv b n e.toNat → s.1 8 2 + (e - a) ≤ 255 → (∀ t, (M.length < 5 ∧ px_nv (px_SN b n) C (a + 1) ∧ px_nv (px_SN b n) M (a + 1) ∧ qx_at x ≤ 5) → dz_IT s t (e + 1) → t.1 18 10 = s.1 18 10 → dz_E b n C (M ++ [(a + 1, x)]) t → cx_F [(8, 10), (18, 24)] s t → dx_tu s t → R 1 t) → (¬ (M.length < 5 ∧ px_nv (px_SN b n) C (a + 1) ∧ px_nv (px_SN b n) M (a + 1) ∧ qx_at x ≤ 5) → ∀ t, cx_I t → R 0 t) → sx_C sL sx d 22 [.inr (.inl 18), .inr (.inl 22)] s R := by
  intro a e x s R hI pa pa0 k1 k2 k0 pY k14 hE hlv hr hK hX
  obtain ⟨e1, e2, e3, ⟨e4, e5⟩, e6, e7⟩ := hE trivial
  have hTK := (e1 trivial).2.2
  have hm := (hTK trivial).1
  have le := px_TY_le pY
  have hkd := px_TK_kd hTK (show 0 ≤ e by omega) hlv
  have hem : e < s.1 2 5 := by
    rcases Int.lt_or_le e (s.1 2 5) with q | q
    · exact q
    · have := hkd.2.1 q
      omega
  have hl1 := (e2 trivial).1
  have hl2 := (e3 trivial).1
  have ho := hI.fld 22 2 (by decide) rfl
  have sc : (qx_at x ≤ 5 → ∃ m, px_Sp (px_K b n) (s.1 18 11) e 0 m) ∧ (¬ qx_at x ≤ 5 → px_Xp (px_K b n) (s.1 18 11) e 0) := by
    have ty := px_Sp_TY (n := 0) pY (by omega)
    rw [Nat.zero_add] at ty
    rw [show a + 2 = a + 1 + 1 by omega] at k2
    have s0 : px_Sp (px_K b n) a (a + 3) 0 0 := by
      rw [show a + 3 = a + 1 + 1 + 1 by omega]
      exact px_Sp_t (px_Sp_1 (by omega) (by omega) (by omega) (by omega) (by omega)) (px_Sp_t (px_Sp_1 (by omega) (by omega) (by omega) (by omega) (by omega)) (px_Sp_12 k2))
    rw [pa]
    exact ⟨fun q => ⟨_, px_Sp_t s0 (ty.1 q)⟩, fun q => px_Xp_r s0 (ty.2 (by omega))⟩
  obtain ⟨d, rfl⟩ : ∃ e, d = e + 2 := ⟨d - 2, by omega⟩
  have i1 : cx_I (sx_uf s.1 18 11 (s.1 18 11 + 3), s.2) := cx_I_uf rfl rfl hI (by omega) (by omega)
  have t11 : ((sx_uf s.1 18 11 (s.1 18 11 + 3), s.2) : sx_S).1 18 11 = a + 3 := px_uS.trans (by omega)
  have F1 : cx_F [(18, 18)] s ((sx_uf s.1 18 11 (s.1 18 11 + 3), s.2) : sx_S) := cx_F_uf rfl (cx_F_refl _ _)
  refine sx_meth (wr := true) (n := 400) hsL (e := eX1_declaration) rfl (w_dcM (Q := fun _ _ _ => False) (Zf := M.length < 5) (Zc := px_nv (px_SN b n) C (a + 1)) (Zm := px_nv (px_SN b n) M (a + 1)) (Zs := qx_at x ≤ 5) (Z1 := fun z t => (M.length < 5 ∧ px_nv (px_SN b n) C (a + 1) ∧ px_nv (px_SN b n) M (a + 1) ∧ qx_at x ≤ 5) ∧ px_UP (sx_uf s.1 18 11 (s.1 18 11 + 3), s.2) t x e z) (Z2 := fun u => (M.length < 5 ∧ px_nv (px_SN b n) C (a + 1) ∧ px_nv (px_SN b n) M (a + 1) ∧ qx_at x ≤ 5) ∧ cx_I u ∧ u.1 18 11 = e ∧ u.1 18 9 = s.1 18 9 ∧ u.1 18 10 = s.1 18 10 ∧ u.1 2 5 = s.1 2 5 ∧ u.1 11 6 = s.1 11 6 ∧ u.1 11 8 = s.1 11 8 ∧ u.1 8 2 ≤ s.1 8 2 + (e - (a + 3)) ∧ (cx_F [(8, 10), (18, 24)] s u ∧ dx_tu s u) ∧ dz_E b n C (M ++ [(a + 1, x)]) u) (c_dz_bl hsL (d + 1) (by omega)) hI (by omega) ?_ ?_ ?_ ?_ ?_ ?_ (fun _ q => q.2.1) ?_ hX)
  · intro K q1 q2
    refine c_dz_fullM hsL (d + 1) (by omega) s K hI (fun z z0 z1 z2 => ?_)
    rcases z0 with rfl | rfl
    · exact q2 (by have := z2 rfl; omega)
    · exact q1 (by have := z1 (by decide); omega)
  · intro K q1 q2
    rw [pa]
    refine c_dx_findC hsL (d + 1) (by omega) b n C (a + 1) s K hI (by omega) e1 (by omega) e2 (fun z z0 z1 z2 => ?_)
    by_cases q : z = -1
    · rw [q]
      exact q1 (z1 q)
    · obtain ⟨z3, y, z4⟩ := z2 q
      exact q2 (fun h => px_cf_nv z4 h) z (by omega) (by omega)
  · intro K q1 q2
    rw [pa]
    refine c_dx_findM hsL (d + 1) (by omega) b n M (a + 1) s K hI (by omega) e1 (by omega) e3 (fun z z0 z1 z2 => ?_)
    by_cases q : z = -1
    · rw [q]
      exact q1 (z1 q)
    · obtain ⟨z3, y, z4⟩ := z2 q
      exact q2 (fun h => px_cf_nv z4 h) z (by omega) (by omega)
  · intro K q1 q2
    by_cases q : qx_at x ≤ 5
    · exact c_dz_large hsL (d + 1) (by omega) b n e s K hI hTK (by omega) hlv k14 (Or.inl (sc.1 q)) (fun _ => q1 q) (fun h => by
        obtain ⟨m, hm⟩ := sc.1 q
        exact (px_SX hm h).elim)
    · exact c_dz_large hsL (d + 1) (by omega) b n e s K hI hTK (by omega) hlv k14 (Or.inr (sc.2 q)) (fun ⟨m, hm⟩ => (px_SX hm (sc.2 q)).elim) (fun _ => q2 q)
  · intro z1 z2 z3 z4 K hK'
    refine c_du_type hsL b n 21 (by omega) (d + 1) (by omega) (a + 3) x e 0 _ K i1 (by omega) t11 pY (fun _ => ⟨px_TK_F F1 rfl rfl rfl rfl hTK, by rw [t11]; omega, by rw [t11]; exact px_lv_le hlv (by omega), fun i j => e4 i j, e5, ?_⟩) (fun z t hz => hK' z t ⟨⟨z1, z2, z3, z4⟩, hz⟩)
    rw [t11]
    show s.1 8 2 + _ ≤ _
    omega
  · rintro z t ⟨hok, hU⟩ K hK'
    obtain ⟨⟨a1, a2⟩, a3, a4, ⟨a5, a6, a7⟩, a8, a9⟩ := hU trivial
    rw [t11] at a9
    have a9' : t.1 8 2 ≤ s.1 8 2 + (e - (a + 3)) := a9
    have g0 : dz_G (s.1 11 6) s (sx_uf s.1 18 11 (s.1 18 11 + 3), s.2) := dz_G_uf i1 e4 rfl
    have g1 : dz_G (s.1 11 6) (sx_uf s.1 18 11 (s.1 18 11 + 3), s.2) t := dz_G_8 a1 a2 (fun k hk => a4 k (by
      rw [show [11, 12, 13, 14] = [11] ++ [12, 13, 14] from rfl, List.contains_append, Bool.or_eq_false_iff] at hk
      exact hk.1)) a6 a7
    have g := dz_G_t g1 g0
    have tE := dz_E_G hE g
    have tb := a1.fld 8 2 (by decide) rfl
    have rz := dx_rng a5 a8
    have c11 : t.1 11 = s.1 11 := (a2.same 11 rfl).1
    have c2 : t.1 2 = s.1 2 := (a2.same 2 rfl).1
    have co : t.1 22 = s.1 22 := (a2.same 22 rfl).1
    have to2 := a1.fld 22 2 (by decide) rfl
    rw [pa]
    have hcap : t.1 22 2 < 5 := by rw [co]; omega
    refine c_dz_addM hsL (d + 1) (by omega) (a + 1) z t K a1 hcap (by omega) (by omega) (hK' _ ⟨hok, cx_I_uf rfl rfl (cx_I_ua rfl rfl (cx_I_ua rfl rfl a1 (by omega) (by omega)) (by omega) (by omega)) (by omega) (by omega), a3, (g trivial).2.1 9 rfl, (g trivial).2.1 10 rfl, congrFun c2 5, congrFun c11 6, congrFun c11 8, a9', ⟨cx_F_uf rfl (cx_F_ua rfl (cx_F_ua rfl (cx_F_step a2 rfl (cx_F_step F1 rfl (cx_F_refl _ _))))), fun j => a7 j⟩, dz_E_addM tE (by rw [c2]; omega) a5 hok.2.2.2⟩)
  · rintro u ⟨hok, u1, u2, u3, u4, u5, u6, u7, u8, ⟨uF, uT⟩, u9⟩ w hw
    have ew : w = e + 1 := by rw [hw, u2, px_wid (by omega) (by omega)]
    subst ew
    have i2 : cx_I (sx_uf u.1 18 11 (e + 1), u.2) := cx_I_uf rfl rfl u1 (by omega) (by omega)
    have g2 : dz_G (s.1 11 6) u (sx_uf u.1 18 11 (e + 1), u.2) := dz_G_uf i2 (u9 trivial).2.2.2.1.1 rfl
    refine hK _ hok (fun _ => ⟨i2, px_uS, u3, u5.symm, ?_, ?_, ?_⟩) u4 (dz_E_G u9 g2) (cx_F_uf rfl uF) (fun j => uT j)
    · show u.1 11 6 ≤ _
      omega
    · show u.1 11 8 ≤ _
      omega
    · show u.1 8 2 ≤ _
      omega
