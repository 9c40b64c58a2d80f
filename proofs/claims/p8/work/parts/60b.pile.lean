section
/-! ===== the desk's piles, exactly ===== -/
/-- a row more on the pile p -/
def dv_pu (p : Nat) (a : Int × Int × Int × Int × Int × Int) (s t : sx_S) : Prop := True → t.1 p 6 = s.1 p 6 + 1 ∧ (∀ j : Nat, (j : Int) ≠ s.1 p 6 → t.2.1 (p + 1) j = s.2.1 (p + 1) j ∧ t.2.1 (p + 2) j = s.2.1 (p + 2) j ∧ t.2.1 (p + 3) j = s.2.1 (p + 3) j ∧ t.2.1 (p + 4) j = s.2.1 (p + 4) j ∧ t.2.1 (p + 5) j = s.2.1 (p + 5) j ∧ t.2.1 (p + 6) j = s.2.1 (p + 6) j) ∧ (t.2.1 (p + 1) (s.1 p 6).toNat = a.1 ∧ t.2.1 (p + 2) (s.1 p 6).toNat = a.2.1 ∧ t.2.1 (p + 3) (s.1 p 6).toNat = a.2.2.1 ∧ t.2.1 (p + 4) (s.1 p 6).toNat = a.2.2.2.1 ∧ t.2.1 (p + 5) (s.1 p 6).toNat = a.2.2.2.2.1 ∧ t.2.1 (p + 6) (s.1 p 6).toNat = a.2.2.2.2.2)
theorem w_dv_pair39 {CALL : sx_Ca} {sL : Nat} {sx : Nat → Int32} {Q : Nat → sx_L → sx_S → Prop} {R : Int → sx_S → Prop} {s : sx_S} {a0 a1 a2 a3 a4 a5 : Int} (hI : cx_I s) (hN : s.1 39 6 < 512) (p0 : -2147483648 ≤ a0 ∧ a0 ≤ 2147483647) (p1 : -2147483648 ≤ a1 ∧ a1 ≤ 2147483647) (p2 : -2147483648 ≤ a2 ∧ a2 ≤ 2147483647) (p3 : -2147483648 ≤ a3 ∧ a3 ≤ 2147483647) (p4 : -2147483648 ≤ a4 ∧ a4 ≤ 2147483647) (p5 : -2147483648 ≤ a5 ∧ a5 ≤ 2147483647) (hK : ∀ z t, cx_I t → cx_F [(39, 45)] s t → dv_pu 39 (a0, a1, a2, a3, a4, a5) s t → R z t) : sx_wp true sL sx eX5_pushPair CALL [] Q R 400 0 (sx_argsF 0 [.inr (.inl 39), .inl a0, .inl a1, .inl a2, .inl a3, .inl a4, .inl a5]) [] s := by
  have h0 := hI.fld 39 6 (by decide) rfl
  have m3 : dv_pu 39 (a0, a1, a2, a3, a4, a5) s (sx_uf s.1 39 6 (s.1 39 6 + 1), (sx_ua (sx_ua (sx_ua (sx_ua (sx_ua (sx_ua s.2.1 40 (s.1 39 6).toNat a0) 41 (s.1 39 6).toNat a1) 42 (s.1 39 6).toNat a2) 43 (s.1 39 6).toNat a3) 44 (s.1 39 6).toNat a4) 45 (s.1 39 6).toNat a5), s.2.2) := fun _ => by
    refine ⟨by dsimp only; exact px_us _ _ _ _, fun j hj => ?_, ?_⟩
    · have hj2 : j ≠ (s.1 39 6).toNat := by omega
      simp [sx_ua_if, hj2]
    · simp [sx_ua_if]
  have m1 : cx_I (sx_uf s.1 39 6 (s.1 39 6 + 1), (sx_ua (sx_ua (sx_ua (sx_ua (sx_ua (sx_ua s.2.1 40 (s.1 39 6).toNat a0) 41 (s.1 39 6).toNat a1) 42 (s.1 39 6).toNat a2) 43 (s.1 39 6).toNat a3) 44 (s.1 39 6).toNat a4) 45 (s.1 39 6).toNat a5), s.2.2) := cx_I_uf rfl rfl (cx_I_ua rfl rfl (cx_I_ua rfl rfl (cx_I_ua rfl rfl (cx_I_ua rfl rfl (cx_I_ua rfl rfl (cx_I_ua rfl rfl hI (by omega) (by omega)) (by omega) (by omega)) (by omega) (by omega)) (by omega) (by omega)) (by omega) (by omega)) (by omega) (by omega)) (by omega) (by omega)
  have zz1 := fun z => hK z _ m1 (cx_F_uf rfl (cx_F_ua rfl (cx_F_ua rfl (cx_F_ua rfl (cx_F_ua rfl (cx_F_ua rfl (cx_F_ua rfl (cx_F_refl _ _)))))))) m3
  have zzu : sx_w true (s.1 39 6 + 1) = s.1 39 6 + 1 := px_wid (by omega) (by omega)
  repeat' (first | (with_reducible (rintro _ rfl)) | (with_reducible intro _) | (refine And.intro ?_ ?_))
  all_goals (try dsimp only at *)
  all_goals (first | trivial | assumption | omega | (exfalso; omega) | (show R _ _; simp only [px_us, zzu]; exact zz1 _) | (simp only [px_us, zzu] at *; first | assumption | omega) | (repeat' (first | (with_reducible assumption) | ((with_reducible (change cx_I (sx_uf _ _ _ _, _))); refine cx_I_uf rfl rfl ?_ ?_ ?_) | ((with_reducible (change cx_I (_, sx_ua _ _ _ _, _))); refine cx_I_ua rfl rfl ?_ ?_ ?_) | ((with_reducible (change cx_I (_, sx_ua _ 16 _ _, _))); refine cx_I_ari ?_ ?_ ?_) | ((with_reducible (change cx_I (sx_uf _ 11 6 _, _))); refine cx_I_ufA rfl ?_ ?_ ?_ ?_) | (with_reducible exact cx_F_refl _ _) | ((with_reducible (change cx_F _ _ (sx_uf _ _ _ _, _))); refine cx_F_uf rfl ?_) | ((with_reducible (change cx_F _ _ (_, sx_ua _ _ _ _, _))); refine cx_F_ua rfl ?_) | ((with_reducible (change cx_I (_, sx_cpy _ _ _ _ _ _, _))); refine cx_I_cpy rfl rfl rfl (by decide) ?_) | ((with_reducible (change cx_F _ _ (_, sx_cpy _ _ _ _ _ _, _))); refine cx_F_cpy rfl ?_) | ((with_reducible (change cx_F _ _ _)); refine cx_F_step (by assumption) rfl ?_) | fail)) | skip)
  all_goals (first | trivial | assumption | omega | (simp only [px_us, zzu] at *; omega) | skip)
theorem c_dv_pair39 {sL : Nat} {sx : Nat → Int32} (hsL : sL ≤ 3072) (d : Nat) (hd : 2 ≤ d) : ∀ (a0 a1 a2 a3 a4 a5 : Int) (s : sx_S) (R : Int → sx_S → Prop), cx_I s → s.1 39 6 < 512 → (-2147483648 ≤ a0 ∧ a0 ≤ 2147483647) → (-2147483648 ≤ a1 ∧ a1 ≤ 2147483647) → (-2147483648 ≤ a2 ∧ a2 ≤ 2147483647) → (-2147483648 ≤ a3 ∧ a3 ≤ 2147483647) → (-2147483648 ≤ a4 ∧ a4 ≤ 2147483647) → (-2147483648 ≤ a5 ∧ a5 ≤ 2147483647) → (∀ z t, cx_I t → cx_F [(39, 45)] s t → dv_pu 39 (a0, a1, a2, a3, a4, a5) s t → R z t) → sx_C sL sx d 61 [.inr (.inl 39), .inl a0, .inl a1, .inl a2, .inl a3, .inl a4, .inl a5] s R := by
  intro a0 a1 a2 a3 a4 a5 s R hI hN p0 p1 p2 p3 p4 p5 hK
  obtain ⟨d, rfl⟩ : ∃ e, d = e + 2 := ⟨d - 2, by omega⟩
  exact sx_meth (wr := true) (n := 400) hsL (e := eX5_pushPair) rfl (w_dv_pair39 (Q := fun _ _ _ => False) hI hN p0 p1 p2 p3 p4 p5 hK)

theorem w_dv_pop39 {CALL : sx_Ca} {sL : Nat} {sx : Nat → Int32} {Q : Nat → sx_L → sx_S → Prop} {R : Int → sx_S → Prop} {s : sx_S} (hI : cx_I s) (hK : ∀ (z : Int) (t : sx_S), cx_I t → cx_F [(39, 39)] s t → (0 < s.1 39 6 → t.1 39 6 = s.1 39 6 - 1) → R z t) : sx_wp true sL sx eX5_pop CALL [] Q R 400 0 (sx_argsF 0 [.inr (.inl 39)]) [] s := by
  repeat' (first | (with_reducible intro _) | (refine And.intro ?_ ?_) | (refine hK _ _ ?_ ?_ ?_))
  all_goals (try dsimp only)
  repeat' (first | (with_reducible assumption) | ((with_reducible (change cx_I (sx_uf _ _ _ _, _))); refine cx_I_uf rfl rfl ?_ ?_ ?_) | ((with_reducible (change cx_I (_, sx_ua _ _ _ _, _))); refine cx_I_ua rfl rfl ?_ ?_ ?_) | ((with_reducible (change cx_I (_, sx_ua _ 16 _ _, _))); refine cx_I_ari ?_ ?_ ?_) | ((with_reducible (change cx_I (sx_uf _ 11 6 _, _))); refine cx_I_ufA rfl ?_ ?_ ?_ ?_) | (with_reducible exact cx_F_refl _ _) | ((with_reducible (change cx_F _ _ (sx_uf _ _ _ _, _))); refine cx_F_uf rfl ?_) | ((with_reducible (change cx_F _ _ (_, sx_ua _ _ _ _, _))); refine cx_F_ua rfl ?_) | ((with_reducible (change cx_I (_, sx_cpy _ _ _ _ _ _, _))); refine cx_I_cpy rfl rfl rfl (by decide) ?_) | ((with_reducible (change cx_F _ _ (_, sx_cpy _ _ _ _ _ _, _))); refine cx_F_cpy rfl ?_) | ((with_reducible (change cx_F _ _ _)); refine cx_F_step (by assumption) rfl ?_) | fail)
  all_goals (first | trivial | omega | (dsimp only at *; omega) | (simp only [sx_uf_if, sx_ua_if, sx_w_t, true_and, and_true, and_self, and_false, false_and, if_true, if_false, reduceIte] at *; omega) | (subst_vars; rfl) | (subst_vars; decide))

theorem c_dv_pop39 {sL : Nat} {sx : Nat → Int32} (hsL : sL ≤ 3072) (d : Nat) (hd : 2 ≤ d) : ∀ (s : sx_S) (K : Int → sx_S → Prop), cx_I s → (∀ (z : Int) (t : sx_S), cx_I t → cx_F [(39, 39)] s t → (0 < s.1 39 6 → t.1 39 6 = s.1 39 6 - 1) → K z t) → sx_C sL sx d 62 [.inr (.inl 39)] s K := by
  intro  s K hI  hK
  obtain ⟨d, rfl⟩ : ∃ e, d = e + 2 := ⟨d - 2, by omega⟩
  exact sx_meth (wr := true) (n := 400) hsL (e := eX5_pop) rfl (w_dv_pop39 (Q := fun _ _ _ => False)  hI  hK)

theorem w_dv_pnode39 {CALL : sx_Ca} {sL : Nat} {sx : Nat → Int32} {Q : Nat → sx_L → sx_S → Prop} {R : Int → sx_S → Prop} {s : sx_S} (hI : cx_I s) (hK : ∀ z : Int, (s.1 39 6 < 512 → z = s.2.1 40 (s.1 39 6).toNat) → R z s) : sx_wp true sL sx eX5_node CALL [] Q R 400 0 (sx_argsF 0 [.inr (.inl 39)]) [] s := by
  repeat' (first | (with_reducible (rintro _ rfl)) | (with_reducible intro _) | (refine And.intro ?_ ?_) | (refine hK _ ?_))
  all_goals (try dsimp only)
  repeat' (first | (with_reducible assumption) | ((with_reducible (change cx_I (sx_uf _ _ _ _, _))); refine cx_I_uf rfl rfl ?_ ?_ ?_) | ((with_reducible (change cx_I (_, sx_ua _ _ _ _, _))); refine cx_I_ua rfl rfl ?_ ?_ ?_) | ((with_reducible (change cx_I (_, sx_ua _ 16 _ _, _))); refine cx_I_ari ?_ ?_ ?_) | ((with_reducible (change cx_I (sx_uf _ 11 6 _, _))); refine cx_I_ufA rfl ?_ ?_ ?_ ?_) | (with_reducible exact cx_F_refl _ _) | ((with_reducible (change cx_F _ _ (sx_uf _ _ _ _, _))); refine cx_F_uf rfl ?_) | ((with_reducible (change cx_F _ _ (_, sx_ua _ _ _ _, _))); refine cx_F_ua rfl ?_) | ((with_reducible (change cx_I (_, sx_cpy _ _ _ _ _ _, _))); refine cx_I_cpy rfl rfl rfl (by decide) ?_) | ((with_reducible (change cx_F _ _ (_, sx_cpy _ _ _ _ _ _, _))); refine cx_F_cpy rfl ?_) | ((with_reducible (change cx_F _ _ _)); refine cx_F_step (by assumption) rfl ?_) | fail)
  all_goals (try dsimp only at *)
  all_goals (first | trivial | omega | rfl | (intros; omega) | (intros; rfl) | skip)

theorem c_dv_pnode39 {sL : Nat} {sx : Nat → Int32} (hsL : sL ≤ 3072) (d : Nat) (hd : 2 ≤ d) : ∀ (s : sx_S) (K : Int → sx_S → Prop), cx_I s → (∀ z : Int, (s.1 39 6 < 512 → z = s.2.1 40 (s.1 39 6).toNat) → K z s) → sx_C sL sx d 63 [.inr (.inl 39)] s K := by
  intro  s K hI  hK
  obtain ⟨d, rfl⟩ : ∃ e, d = e + 2 := ⟨d - 2, by omega⟩
  exact sx_meth (wr := true) (n := 400) hsL (e := eX5_node) rfl (w_dv_pnode39 (Q := fun _ _ _ => False)  hI  hK)

theorem w_dv_pchain39 {CALL : sx_Ca} {sL : Nat} {sx : Nat → Int32} {Q : Nat → sx_L → sx_S → Prop} {R : Int → sx_S → Prop} {s : sx_S} (hI : cx_I s) (hK : ∀ z : Int, (s.1 39 6 < 512 → z = s.2.1 41 (s.1 39 6).toNat) → R z s) : sx_wp true sL sx eX5_chain CALL [] Q R 400 0 (sx_argsF 0 [.inr (.inl 39)]) [] s := by
  repeat' (first | (with_reducible (rintro _ rfl)) | (with_reducible intro _) | (refine And.intro ?_ ?_) | (refine hK _ ?_))
  all_goals (try dsimp only)
  repeat' (first | (with_reducible assumption) | ((with_reducible (change cx_I (sx_uf _ _ _ _, _))); refine cx_I_uf rfl rfl ?_ ?_ ?_) | ((with_reducible (change cx_I (_, sx_ua _ _ _ _, _))); refine cx_I_ua rfl rfl ?_ ?_ ?_) | ((with_reducible (change cx_I (_, sx_ua _ 16 _ _, _))); refine cx_I_ari ?_ ?_ ?_) | ((with_reducible (change cx_I (sx_uf _ 11 6 _, _))); refine cx_I_ufA rfl ?_ ?_ ?_ ?_) | (with_reducible exact cx_F_refl _ _) | ((with_reducible (change cx_F _ _ (sx_uf _ _ _ _, _))); refine cx_F_uf rfl ?_) | ((with_reducible (change cx_F _ _ (_, sx_ua _ _ _ _, _))); refine cx_F_ua rfl ?_) | ((with_reducible (change cx_I (_, sx_cpy _ _ _ _ _ _, _))); refine cx_I_cpy rfl rfl rfl (by decide) ?_) | ((with_reducible (change cx_F _ _ (_, sx_cpy _ _ _ _ _ _, _))); refine cx_F_cpy rfl ?_) | ((with_reducible (change cx_F _ _ _)); refine cx_F_step (by assumption) rfl ?_) | fail)
  all_goals (try dsimp only at *)
  all_goals (first | trivial | omega | rfl | (intros; omega) | (intros; rfl) | skip)

theorem c_dv_pchain39 {sL : Nat} {sx : Nat → Int32} (hsL : sL ≤ 3072) (d : Nat) (hd : 2 ≤ d) : ∀ (s : sx_S) (K : Int → sx_S → Prop), cx_I s → (∀ z : Int, (s.1 39 6 < 512 → z = s.2.1 41 (s.1 39 6).toNat) → K z s) → sx_C sL sx d 64 [.inr (.inl 39)] s K := by
  intro  s K hI  hK
  obtain ⟨d, rfl⟩ : ∃ e, d = e + 2 := ⟨d - 2, by omega⟩
  exact sx_meth (wr := true) (n := 400) hsL (e := eX5_chain) rfl (w_dv_pchain39 (Q := fun _ _ _ => False)  hI  hK)

theorem w_dv_pother39 {CALL : sx_Ca} {sL : Nat} {sx : Nat → Int32} {Q : Nat → sx_L → sx_S → Prop} {R : Int → sx_S → Prop} {s : sx_S} (hI : cx_I s) (hK : ∀ z : Int, (s.1 39 6 < 512 → z = s.2.1 42 (s.1 39 6).toNat) → R z s) : sx_wp true sL sx eX5_other CALL [] Q R 400 0 (sx_argsF 0 [.inr (.inl 39)]) [] s := by
  repeat' (first | (with_reducible (rintro _ rfl)) | (with_reducible intro _) | (refine And.intro ?_ ?_) | (refine hK _ ?_))
  all_goals (try dsimp only)
  repeat' (first | (with_reducible assumption) | ((with_reducible (change cx_I (sx_uf _ _ _ _, _))); refine cx_I_uf rfl rfl ?_ ?_ ?_) | ((with_reducible (change cx_I (_, sx_ua _ _ _ _, _))); refine cx_I_ua rfl rfl ?_ ?_ ?_) | ((with_reducible (change cx_I (_, sx_ua _ 16 _ _, _))); refine cx_I_ari ?_ ?_ ?_) | ((with_reducible (change cx_I (sx_uf _ 11 6 _, _))); refine cx_I_ufA rfl ?_ ?_ ?_ ?_) | (with_reducible exact cx_F_refl _ _) | ((with_reducible (change cx_F _ _ (sx_uf _ _ _ _, _))); refine cx_F_uf rfl ?_) | ((with_reducible (change cx_F _ _ (_, sx_ua _ _ _ _, _))); refine cx_F_ua rfl ?_) | ((with_reducible (change cx_I (_, sx_cpy _ _ _ _ _ _, _))); refine cx_I_cpy rfl rfl rfl (by decide) ?_) | ((with_reducible (change cx_F _ _ (_, sx_cpy _ _ _ _ _ _, _))); refine cx_F_cpy rfl ?_) | ((with_reducible (change cx_F _ _ _)); refine cx_F_step (by assumption) rfl ?_) | fail)
  all_goals (try dsimp only at *)
  all_goals (first | trivial | omega | rfl | (intros; omega) | (intros; rfl) | skip)

theorem c_dv_pother39 {sL : Nat} {sx : Nat → Int32} (hsL : sL ≤ 3072) (d : Nat) (hd : 2 ≤ d) : ∀ (s : sx_S) (K : Int → sx_S → Prop), cx_I s → (∀ z : Int, (s.1 39 6 < 512 → z = s.2.1 42 (s.1 39 6).toNat) → K z s) → sx_C sL sx d 65 [.inr (.inl 39)] s K := by
  intro  s K hI  hK
  obtain ⟨d, rfl⟩ : ∃ e, d = e + 2 := ⟨d - 2, by omega⟩
  exact sx_meth (wr := true) (n := 400) hsL (e := eX5_other) rfl (w_dv_pother39 (Q := fun _ _ _ => False)  hI  hK)

theorem w_dv_potherChain39 {CALL : sx_Ca} {sL : Nat} {sx : Nat → Int32} {Q : Nat → sx_L → sx_S → Prop} {R : Int → sx_S → Prop} {s : sx_S} (hI : cx_I s) (hK : ∀ z : Int, (s.1 39 6 < 512 → z = s.2.1 43 (s.1 39 6).toNat) → R z s) : sx_wp true sL sx eX5_otherChain CALL [] Q R 400 0 (sx_argsF 0 [.inr (.inl 39)]) [] s := by
  repeat' (first | (with_reducible (rintro _ rfl)) | (with_reducible intro _) | (refine And.intro ?_ ?_) | (refine hK _ ?_))
  all_goals (try dsimp only)
  repeat' (first | (with_reducible assumption) | ((with_reducible (change cx_I (sx_uf _ _ _ _, _))); refine cx_I_uf rfl rfl ?_ ?_ ?_) | ((with_reducible (change cx_I (_, sx_ua _ _ _ _, _))); refine cx_I_ua rfl rfl ?_ ?_ ?_) | ((with_reducible (change cx_I (_, sx_ua _ 16 _ _, _))); refine cx_I_ari ?_ ?_ ?_) | ((with_reducible (change cx_I (sx_uf _ 11 6 _, _))); refine cx_I_ufA rfl ?_ ?_ ?_ ?_) | (with_reducible exact cx_F_refl _ _) | ((with_reducible (change cx_F _ _ (sx_uf _ _ _ _, _))); refine cx_F_uf rfl ?_) | ((with_reducible (change cx_F _ _ (_, sx_ua _ _ _ _, _))); refine cx_F_ua rfl ?_) | ((with_reducible (change cx_I (_, sx_cpy _ _ _ _ _ _, _))); refine cx_I_cpy rfl rfl rfl (by decide) ?_) | ((with_reducible (change cx_F _ _ (_, sx_cpy _ _ _ _ _ _, _))); refine cx_F_cpy rfl ?_) | ((with_reducible (change cx_F _ _ _)); refine cx_F_step (by assumption) rfl ?_) | fail)
  all_goals (try dsimp only at *)
  all_goals (first | trivial | omega | rfl | (intros; omega) | (intros; rfl) | skip)

theorem c_dv_potherChain39 {sL : Nat} {sx : Nat → Int32} (hsL : sL ≤ 3072) (d : Nat) (hd : 2 ≤ d) : ∀ (s : sx_S) (K : Int → sx_S → Prop), cx_I s → (∀ z : Int, (s.1 39 6 < 512 → z = s.2.1 43 (s.1 39 6).toNat) → K z s) → sx_C sL sx d 66 [.inr (.inl 39)] s K := by
  intro  s K hI  hK
  obtain ⟨d, rfl⟩ : ∃ e, d = e + 2 := ⟨d - 2, by omega⟩
  exact sx_meth (wr := true) (n := 400) hsL (e := eX5_otherChain) rfl (w_dv_potherChain39 (Q := fun _ _ _ => False)  hI  hK)

theorem w_dv_plevel39 {CALL : sx_Ca} {sL : Nat} {sx : Nat → Int32} {Q : Nat → sx_L → sx_S → Prop} {R : Int → sx_S → Prop} {s : sx_S} (hI : cx_I s) (hK : ∀ z : Int, (s.1 39 6 < 512 → z = s.2.1 44 (s.1 39 6).toNat) → R z s) : sx_wp true sL sx eX5_level CALL [] Q R 400 0 (sx_argsF 0 [.inr (.inl 39)]) [] s := by
  repeat' (first | (with_reducible (rintro _ rfl)) | (with_reducible intro _) | (refine And.intro ?_ ?_) | (refine hK _ ?_))
  all_goals (try dsimp only)
  repeat' (first | (with_reducible assumption) | ((with_reducible (change cx_I (sx_uf _ _ _ _, _))); refine cx_I_uf rfl rfl ?_ ?_ ?_) | ((with_reducible (change cx_I (_, sx_ua _ _ _ _, _))); refine cx_I_ua rfl rfl ?_ ?_ ?_) | ((with_reducible (change cx_I (_, sx_ua _ 16 _ _, _))); refine cx_I_ari ?_ ?_ ?_) | ((with_reducible (change cx_I (sx_uf _ 11 6 _, _))); refine cx_I_ufA rfl ?_ ?_ ?_ ?_) | (with_reducible exact cx_F_refl _ _) | ((with_reducible (change cx_F _ _ (sx_uf _ _ _ _, _))); refine cx_F_uf rfl ?_) | ((with_reducible (change cx_F _ _ (_, sx_ua _ _ _ _, _))); refine cx_F_ua rfl ?_) | ((with_reducible (change cx_I (_, sx_cpy _ _ _ _ _ _, _))); refine cx_I_cpy rfl rfl rfl (by decide) ?_) | ((with_reducible (change cx_F _ _ (_, sx_cpy _ _ _ _ _ _, _))); refine cx_F_cpy rfl ?_) | ((with_reducible (change cx_F _ _ _)); refine cx_F_step (by assumption) rfl ?_) | fail)
  all_goals (try dsimp only at *)
  all_goals (first | trivial | omega | rfl | (intros; omega) | (intros; rfl) | skip)

theorem c_dv_plevel39 {sL : Nat} {sx : Nat → Int32} (hsL : sL ≤ 3072) (d : Nat) (hd : 2 ≤ d) : ∀ (s : sx_S) (K : Int → sx_S → Prop), cx_I s → (∀ z : Int, (s.1 39 6 < 512 → z = s.2.1 44 (s.1 39 6).toNat) → K z s) → sx_C sL sx d 67 [.inr (.inl 39)] s K := by
  intro  s K hI  hK
  obtain ⟨d, rfl⟩ : ∃ e, d = e + 2 := ⟨d - 2, by omega⟩
  exact sx_meth (wr := true) (n := 400) hsL (e := eX5_level) rfl (w_dv_plevel39 (Q := fun _ _ _ => False)  hI  hK)

theorem w_dv_pmark39 {CALL : sx_Ca} {sL : Nat} {sx : Nat → Int32} {Q : Nat → sx_L → sx_S → Prop} {R : Int → sx_S → Prop} {s : sx_S} (hI : cx_I s) (hK : ∀ z : Int, (s.1 39 6 < 512 → z = s.2.1 45 (s.1 39 6).toNat) → R z s) : sx_wp true sL sx eX5_mark CALL [] Q R 400 0 (sx_argsF 0 [.inr (.inl 39)]) [] s := by
  repeat' (first | (with_reducible (rintro _ rfl)) | (with_reducible intro _) | (refine And.intro ?_ ?_) | (refine hK _ ?_))
  all_goals (try dsimp only)
  repeat' (first | (with_reducible assumption) | ((with_reducible (change cx_I (sx_uf _ _ _ _, _))); refine cx_I_uf rfl rfl ?_ ?_ ?_) | ((with_reducible (change cx_I (_, sx_ua _ _ _ _, _))); refine cx_I_ua rfl rfl ?_ ?_ ?_) | ((with_reducible (change cx_I (_, sx_ua _ 16 _ _, _))); refine cx_I_ari ?_ ?_ ?_) | ((with_reducible (change cx_I (sx_uf _ 11 6 _, _))); refine cx_I_ufA rfl ?_ ?_ ?_ ?_) | (with_reducible exact cx_F_refl _ _) | ((with_reducible (change cx_F _ _ (sx_uf _ _ _ _, _))); refine cx_F_uf rfl ?_) | ((with_reducible (change cx_F _ _ (_, sx_ua _ _ _ _, _))); refine cx_F_ua rfl ?_) | ((with_reducible (change cx_I (_, sx_cpy _ _ _ _ _ _, _))); refine cx_I_cpy rfl rfl rfl (by decide) ?_) | ((with_reducible (change cx_F _ _ (_, sx_cpy _ _ _ _ _ _, _))); refine cx_F_cpy rfl ?_) | ((with_reducible (change cx_F _ _ _)); refine cx_F_step (by assumption) rfl ?_) | fail)
  all_goals (try dsimp only at *)
  all_goals (first | trivial | omega | rfl | (intros; omega) | (intros; rfl) | skip)

theorem c_dv_pmark39 {sL : Nat} {sx : Nat → Int32} (hsL : sL ≤ 3072) (d : Nat) (hd : 2 ≤ d) : ∀ (s : sx_S) (K : Int → sx_S → Prop), cx_I s → (∀ z : Int, (s.1 39 6 < 512 → z = s.2.1 45 (s.1 39 6).toNat) → K z s) → sx_C sL sx d 68 [.inr (.inl 39)] s K := by
  intro  s K hI  hK
  obtain ⟨d, rfl⟩ : ∃ e, d = e + 2 := ⟨d - 2, by omega⟩
  exact sx_meth (wr := true) (n := 400) hsL (e := eX5_mark) rfl (w_dv_pmark39 (Q := fun _ _ _ => False)  hI  hK)

theorem w_dv_pempty39 {CALL : sx_Ca} {sL : Nat} {sx : Nat → Int32} {Q : Nat → sx_L → sx_S → Prop} {R : Int → sx_S → Prop} {s : sx_S} (hI : cx_I s) (hK : ∀ z : Int, (0 ≤ z ∧ z ≤ 1) → (s.1 39 6 = 0 → z = 1) → (s.1 39 6 ≠ 0 → z = 0) → R z s) : sx_wp true sL sx eX5_isEmpty CALL [] Q R 400 0 (sx_argsF 0 [.inr (.inl 39)]) [] s := by
  repeat' (first | (with_reducible intro _) | (refine And.intro ?_ ?_) | (refine hK _ ?_ ?_ ?_))
  all_goals (try dsimp only)
  repeat' (first | (with_reducible assumption) | ((with_reducible (change cx_I (sx_uf _ _ _ _, _))); refine cx_I_uf rfl rfl ?_ ?_ ?_) | ((with_reducible (change cx_I (_, sx_ua _ _ _ _, _))); refine cx_I_ua rfl rfl ?_ ?_ ?_) | ((with_reducible (change cx_I (_, sx_ua _ 16 _ _, _))); refine cx_I_ari ?_ ?_ ?_) | ((with_reducible (change cx_I (sx_uf _ 11 6 _, _))); refine cx_I_ufA rfl ?_ ?_ ?_ ?_) | (with_reducible exact cx_F_refl _ _) | ((with_reducible (change cx_F _ _ (sx_uf _ _ _ _, _))); refine cx_F_uf rfl ?_) | ((with_reducible (change cx_F _ _ (_, sx_ua _ _ _ _, _))); refine cx_F_ua rfl ?_) | ((with_reducible (change cx_I (_, sx_cpy _ _ _ _ _ _, _))); refine cx_I_cpy rfl rfl rfl (by decide) ?_) | ((with_reducible (change cx_F _ _ (_, sx_cpy _ _ _ _ _ _, _))); refine cx_F_cpy rfl ?_) | ((with_reducible (change cx_F _ _ _)); refine cx_F_step (by assumption) rfl ?_) | fail)
  all_goals (try dsimp only at *)
  all_goals (first | trivial | omega | rfl | (intros; omega) | (intros; rfl) | skip)

theorem c_dv_pempty39 {sL : Nat} {sx : Nat → Int32} (hsL : sL ≤ 3072) (d : Nat) (hd : 2 ≤ d) : ∀ (s : sx_S) (K : Int → sx_S → Prop), cx_I s → (∀ z : Int, (0 ≤ z ∧ z ≤ 1) → (s.1 39 6 = 0 → z = 1) → (s.1 39 6 ≠ 0 → z = 0) → K z s) → sx_C sL sx d 59 [.inr (.inl 39)] s K := by
  intro  s K hI  hK
  obtain ⟨d, rfl⟩ : ∃ e, d = e + 2 := ⟨d - 2, by omega⟩
  exact sx_meth (wr := true) (n := 400) hsL (e := eX5_isEmpty) rfl (w_dv_pempty39 (Q := fun _ _ _ => False)  hI  hK)

theorem w_dv_pclear39 {CALL : sx_Ca} {sL : Nat} {sx : Nat → Int32} {Q : Nat → sx_L → sx_S → Prop} {R : Int → sx_S → Prop} {s : sx_S} (hI : cx_I s) (hK : ∀ (z : Int) (t : sx_S), cx_I t → cx_F [(39, 39)] s t → (t.1 39 6 = 0) → R z t) : sx_wp true sL sx eX5_clear CALL [] Q R 400 0 (sx_argsF 0 [.inr (.inl 39)]) [] s := by
  repeat' (first | (with_reducible intro _) | (refine And.intro ?_ ?_) | (refine hK _ _ ?_ ?_ ?_))
  all_goals (try dsimp only)
  repeat' (first | (with_reducible assumption) | ((with_reducible (change cx_I (sx_uf _ _ _ _, _))); refine cx_I_uf rfl rfl ?_ ?_ ?_) | ((with_reducible (change cx_I (_, sx_ua _ _ _ _, _))); refine cx_I_ua rfl rfl ?_ ?_ ?_) | ((with_reducible (change cx_I (_, sx_ua _ 16 _ _, _))); refine cx_I_ari ?_ ?_ ?_) | ((with_reducible (change cx_I (sx_uf _ 11 6 _, _))); refine cx_I_ufA rfl ?_ ?_ ?_ ?_) | (with_reducible exact cx_F_refl _ _) | ((with_reducible (change cx_F _ _ (sx_uf _ _ _ _, _))); refine cx_F_uf rfl ?_) | ((with_reducible (change cx_F _ _ (_, sx_ua _ _ _ _, _))); refine cx_F_ua rfl ?_) | ((with_reducible (change cx_I (_, sx_cpy _ _ _ _ _ _, _))); refine cx_I_cpy rfl rfl rfl (by decide) ?_) | ((with_reducible (change cx_F _ _ (_, sx_cpy _ _ _ _ _ _, _))); refine cx_F_cpy rfl ?_) | ((with_reducible (change cx_F _ _ _)); refine cx_F_step (by assumption) rfl ?_) | fail)
  all_goals (first | trivial | omega | (dsimp only at *; omega) | (simp only [sx_uf_if, sx_ua_if, sx_w_t, true_and, and_true, and_self, and_false, false_and, if_true, if_false, reduceIte] at *; omega) | (subst_vars; rfl) | (subst_vars; decide))

theorem c_dv_pclear39 {sL : Nat} {sx : Nat → Int32} (hsL : sL ≤ 3072) (d : Nat) (hd : 2 ≤ d) : ∀ (s : sx_S) (K : Int → sx_S → Prop), cx_I s → (∀ (z : Int) (t : sx_S), cx_I t → cx_F [(39, 39)] s t → (t.1 39 6 = 0) → K z t) → sx_C sL sx d 58 [.inr (.inl 39)] s K := by
  intro  s K hI  hK
  obtain ⟨d, rfl⟩ : ∃ e, d = e + 2 := ⟨d - 2, by omega⟩
  exact sx_meth (wr := true) (n := 400) hsL (e := eX5_clear) rfl (w_dv_pclear39 (Q := fun _ _ _ => False)  hI  hK)

theorem w_dv_pair46 {CALL : sx_Ca} {sL : Nat} {sx : Nat → Int32} {Q : Nat → sx_L → sx_S → Prop} {R : Int → sx_S → Prop} {s : sx_S} {a0 a1 a2 a3 a4 a5 : Int} (hI : cx_I s) (hN : s.1 46 6 < 512) (p0 : -2147483648 ≤ a0 ∧ a0 ≤ 2147483647) (p1 : -2147483648 ≤ a1 ∧ a1 ≤ 2147483647) (p2 : -2147483648 ≤ a2 ∧ a2 ≤ 2147483647) (p3 : -2147483648 ≤ a3 ∧ a3 ≤ 2147483647) (p4 : -2147483648 ≤ a4 ∧ a4 ≤ 2147483647) (p5 : -2147483648 ≤ a5 ∧ a5 ≤ 2147483647) (hK : ∀ z t, cx_I t → cx_F [(46, 52)] s t → dv_pu 46 (a0, a1, a2, a3, a4, a5) s t → R z t) : sx_wp true sL sx eX5_pushPair CALL [] Q R 400 0 (sx_argsF 0 [.inr (.inl 46), .inl a0, .inl a1, .inl a2, .inl a3, .inl a4, .inl a5]) [] s := by
  have h0 := hI.fld 46 6 (by decide) rfl
  have m3 : dv_pu 46 (a0, a1, a2, a3, a4, a5) s (sx_uf s.1 46 6 (s.1 46 6 + 1), (sx_ua (sx_ua (sx_ua (sx_ua (sx_ua (sx_ua s.2.1 47 (s.1 46 6).toNat a0) 48 (s.1 46 6).toNat a1) 49 (s.1 46 6).toNat a2) 50 (s.1 46 6).toNat a3) 51 (s.1 46 6).toNat a4) 52 (s.1 46 6).toNat a5), s.2.2) := fun _ => by
    refine ⟨by dsimp only; exact px_us _ _ _ _, fun j hj => ?_, ?_⟩
    · have hj2 : j ≠ (s.1 46 6).toNat := by omega
      simp [sx_ua_if, hj2]
    · simp [sx_ua_if]
  have m1 : cx_I (sx_uf s.1 46 6 (s.1 46 6 + 1), (sx_ua (sx_ua (sx_ua (sx_ua (sx_ua (sx_ua s.2.1 47 (s.1 46 6).toNat a0) 48 (s.1 46 6).toNat a1) 49 (s.1 46 6).toNat a2) 50 (s.1 46 6).toNat a3) 51 (s.1 46 6).toNat a4) 52 (s.1 46 6).toNat a5), s.2.2) := cx_I_uf rfl rfl (cx_I_ua rfl rfl (cx_I_ua rfl rfl (cx_I_ua rfl rfl (cx_I_ua rfl rfl (cx_I_ua rfl rfl (cx_I_ua rfl rfl hI (by omega) (by omega)) (by omega) (by omega)) (by omega) (by omega)) (by omega) (by omega)) (by omega) (by omega)) (by omega) (by omega)) (by omega) (by omega)
  have zz1 := fun z => hK z _ m1 (cx_F_uf rfl (cx_F_ua rfl (cx_F_ua rfl (cx_F_ua rfl (cx_F_ua rfl (cx_F_ua rfl (cx_F_ua rfl (cx_F_refl _ _)))))))) m3
  have zzu : sx_w true (s.1 46 6 + 1) = s.1 46 6 + 1 := px_wid (by omega) (by omega)
  repeat' (first | (with_reducible (rintro _ rfl)) | (with_reducible intro _) | (refine And.intro ?_ ?_))
  all_goals (try dsimp only at *)
  all_goals (first | trivial | assumption | omega | (exfalso; omega) | (show R _ _; simp only [px_us, zzu]; exact zz1 _) | (simp only [px_us, zzu] at *; first | assumption | omega) | (repeat' (first | (with_reducible assumption) | ((with_reducible (change cx_I (sx_uf _ _ _ _, _))); refine cx_I_uf rfl rfl ?_ ?_ ?_) | ((with_reducible (change cx_I (_, sx_ua _ _ _ _, _))); refine cx_I_ua rfl rfl ?_ ?_ ?_) | ((with_reducible (change cx_I (_, sx_ua _ 16 _ _, _))); refine cx_I_ari ?_ ?_ ?_) | ((with_reducible (change cx_I (sx_uf _ 11 6 _, _))); refine cx_I_ufA rfl ?_ ?_ ?_ ?_) | (with_reducible exact cx_F_refl _ _) | ((with_reducible (change cx_F _ _ (sx_uf _ _ _ _, _))); refine cx_F_uf rfl ?_) | ((with_reducible (change cx_F _ _ (_, sx_ua _ _ _ _, _))); refine cx_F_ua rfl ?_) | ((with_reducible (change cx_I (_, sx_cpy _ _ _ _ _ _, _))); refine cx_I_cpy rfl rfl rfl (by decide) ?_) | ((with_reducible (change cx_F _ _ (_, sx_cpy _ _ _ _ _ _, _))); refine cx_F_cpy rfl ?_) | ((with_reducible (change cx_F _ _ _)); refine cx_F_step (by assumption) rfl ?_) | fail)) | skip)
  all_goals (first | trivial | assumption | omega | (simp only [px_us, zzu] at *; omega) | skip)
theorem c_dv_pair46 {sL : Nat} {sx : Nat → Int32} (hsL : sL ≤ 3072) (d : Nat) (hd : 2 ≤ d) : ∀ (a0 a1 a2 a3 a4 a5 : Int) (s : sx_S) (R : Int → sx_S → Prop), cx_I s → s.1 46 6 < 512 → (-2147483648 ≤ a0 ∧ a0 ≤ 2147483647) → (-2147483648 ≤ a1 ∧ a1 ≤ 2147483647) → (-2147483648 ≤ a2 ∧ a2 ≤ 2147483647) → (-2147483648 ≤ a3 ∧ a3 ≤ 2147483647) → (-2147483648 ≤ a4 ∧ a4 ≤ 2147483647) → (-2147483648 ≤ a5 ∧ a5 ≤ 2147483647) → (∀ z t, cx_I t → cx_F [(46, 52)] s t → dv_pu 46 (a0, a1, a2, a3, a4, a5) s t → R z t) → sx_C sL sx d 61 [.inr (.inl 46), .inl a0, .inl a1, .inl a2, .inl a3, .inl a4, .inl a5] s R := by
  intro a0 a1 a2 a3 a4 a5 s R hI hN p0 p1 p2 p3 p4 p5 hK
  obtain ⟨d, rfl⟩ : ∃ e, d = e + 2 := ⟨d - 2, by omega⟩
  exact sx_meth (wr := true) (n := 400) hsL (e := eX5_pushPair) rfl (w_dv_pair46 (Q := fun _ _ _ => False) hI hN p0 p1 p2 p3 p4 p5 hK)

theorem w_dv_push46 {CALL : sx_Ca} {sL : Nat} {sx : Nat → Int32} {Q : Nat → sx_L → sx_S → Prop} {R : Int → sx_S → Prop} (h_pair : ∀ (a0 a1 a2 a3 a4 a5 : Int) (s : sx_S) (R : Int → sx_S → Prop), cx_I s → s.1 46 6 < 512 → (-2147483648 ≤ a0 ∧ a0 ≤ 2147483647) → (-2147483648 ≤ a1 ∧ a1 ≤ 2147483647) → (-2147483648 ≤ a2 ∧ a2 ≤ 2147483647) → (-2147483648 ≤ a3 ∧ a3 ≤ 2147483647) → (-2147483648 ≤ a4 ∧ a4 ≤ 2147483647) → (-2147483648 ≤ a5 ∧ a5 ≤ 2147483647) → (∀ z t, cx_I t → cx_F [(46, 52)] s t → dv_pu 46 (a0, a1, a2, a3, a4, a5) s t → R z t) → CALL 61 [.inr (.inl 46), .inl a0, .inl a1, .inl a2, .inl a3, .inl a4, .inl a5] s R) {s : sx_S} {a0 a1 a2 a3 : Int} (hI : cx_I s) (hN : s.1 46 6 < 512) (p0 : -2147483648 ≤ a0 ∧ a0 ≤ 2147483647) (p1 : -2147483648 ≤ a1 ∧ a1 ≤ 2147483647) (p2 : -2147483648 ≤ a2 ∧ a2 ≤ 2147483647) (p3 : -2147483648 ≤ a3 ∧ a3 ≤ 2147483647) (hK : ∀ z t, cx_I t → cx_F [(46, 52)] s t → dv_pu 46 (a0, a1, -1, -1, a2, a3) s t → R z t) : sx_wp true sL sx eX5_push CALL [] Q R 400 0 (sx_argsF 0 [.inr (.inl 46), .inl a0, .inl a1, .inl a2, .inl a3]) [] s := by
  refine h_pair _ _ _ _ _ _ _ _ hI hN p0 p1 (by omega) (by omega) p2 p3 (fun z t t1 t2 t3 => ?_)
  have zz1 := fun z => hK z _ t1 t2 t3
  repeat' (first | (with_reducible (rintro _ rfl)) | (with_reducible intro _) | (refine And.intro ?_ ?_))
  all_goals (try dsimp only at *)
  all_goals (first | trivial | assumption | omega | (exfalso; omega) | exact zz1 _ | skip)
theorem c_dv_push46 {sL : Nat} {sx : Nat → Int32} (hsL : sL ≤ 3072) (d : Nat) (hd : 3 ≤ d) : ∀ (a0 a1 a2 a3 : Int) (s : sx_S) (R : Int → sx_S → Prop), cx_I s → s.1 46 6 < 512 → (-2147483648 ≤ a0 ∧ a0 ≤ 2147483647) → (-2147483648 ≤ a1 ∧ a1 ≤ 2147483647) → (-2147483648 ≤ a2 ∧ a2 ≤ 2147483647) → (-2147483648 ≤ a3 ∧ a3 ≤ 2147483647) → (∀ z t, cx_I t → cx_F [(46, 52)] s t → dv_pu 46 (a0, a1, -1, -1, a2, a3) s t → R z t) → sx_C sL sx d 60 [.inr (.inl 46), .inl a0, .inl a1, .inl a2, .inl a3] s R := by
  intro a0 a1 a2 a3 s R hI hN p0 p1 p2 p3 hK
  obtain ⟨d, rfl⟩ : ∃ e, d = e + 2 := ⟨d - 2, by omega⟩
  exact sx_meth (wr := true) (n := 400) hsL (e := eX5_push) rfl (w_dv_push46 (Q := fun _ _ _ => False) (c_dv_pair46 hsL (d + 1) (by omega)) hI hN p0 p1 p2 p3 hK)

theorem w_dv_pop46 {CALL : sx_Ca} {sL : Nat} {sx : Nat → Int32} {Q : Nat → sx_L → sx_S → Prop} {R : Int → sx_S → Prop} {s : sx_S} (hI : cx_I s) (hK : ∀ (z : Int) (t : sx_S), cx_I t → cx_F [(46, 46)] s t → (0 < s.1 46 6 → t.1 46 6 = s.1 46 6 - 1) → R z t) : sx_wp true sL sx eX5_pop CALL [] Q R 400 0 (sx_argsF 0 [.inr (.inl 46)]) [] s := by
  repeat' (first | (with_reducible intro _) | (refine And.intro ?_ ?_) | (refine hK _ _ ?_ ?_ ?_))
  all_goals (try dsimp only)
  repeat' (first | (with_reducible assumption) | ((with_reducible (change cx_I (sx_uf _ _ _ _, _))); refine cx_I_uf rfl rfl ?_ ?_ ?_) | ((with_reducible (change cx_I (_, sx_ua _ _ _ _, _))); refine cx_I_ua rfl rfl ?_ ?_ ?_) | ((with_reducible (change cx_I (_, sx_ua _ 16 _ _, _))); refine cx_I_ari ?_ ?_ ?_) | ((with_reducible (change cx_I (sx_uf _ 11 6 _, _))); refine cx_I_ufA rfl ?_ ?_ ?_ ?_) | (with_reducible exact cx_F_refl _ _) | ((with_reducible (change cx_F _ _ (sx_uf _ _ _ _, _))); refine cx_F_uf rfl ?_) | ((with_reducible (change cx_F _ _ (_, sx_ua _ _ _ _, _))); refine cx_F_ua rfl ?_) | ((with_reducible (change cx_I (_, sx_cpy _ _ _ _ _ _, _))); refine cx_I_cpy rfl rfl rfl (by decide) ?_) | ((with_reducible (change cx_F _ _ (_, sx_cpy _ _ _ _ _ _, _))); refine cx_F_cpy rfl ?_) | ((with_reducible (change cx_F _ _ _)); refine cx_F_step (by assumption) rfl ?_) | fail)
  all_goals (first | trivial | omega | (dsimp only at *; omega) | (simp only [sx_uf_if, sx_ua_if, sx_w_t, true_and, and_true, and_self, and_false, false_and, if_true, if_false, reduceIte] at *; omega) | (subst_vars; rfl) | (subst_vars; decide))

theorem c_dv_pop46 {sL : Nat} {sx : Nat → Int32} (hsL : sL ≤ 3072) (d : Nat) (hd : 2 ≤ d) : ∀ (s : sx_S) (K : Int → sx_S → Prop), cx_I s → (∀ (z : Int) (t : sx_S), cx_I t → cx_F [(46, 46)] s t → (0 < s.1 46 6 → t.1 46 6 = s.1 46 6 - 1) → K z t) → sx_C sL sx d 62 [.inr (.inl 46)] s K := by
  intro  s K hI  hK
  obtain ⟨d, rfl⟩ : ∃ e, d = e + 2 := ⟨d - 2, by omega⟩
  exact sx_meth (wr := true) (n := 400) hsL (e := eX5_pop) rfl (w_dv_pop46 (Q := fun _ _ _ => False)  hI  hK)

theorem w_dv_pnode46 {CALL : sx_Ca} {sL : Nat} {sx : Nat → Int32} {Q : Nat → sx_L → sx_S → Prop} {R : Int → sx_S → Prop} {s : sx_S} (hI : cx_I s) (hK : ∀ z : Int, (s.1 46 6 < 512 → z = s.2.1 47 (s.1 46 6).toNat) → R z s) : sx_wp true sL sx eX5_node CALL [] Q R 400 0 (sx_argsF 0 [.inr (.inl 46)]) [] s := by
  repeat' (first | (with_reducible (rintro _ rfl)) | (with_reducible intro _) | (refine And.intro ?_ ?_) | (refine hK _ ?_))
  all_goals (try dsimp only)
  repeat' (first | (with_reducible assumption) | ((with_reducible (change cx_I (sx_uf _ _ _ _, _))); refine cx_I_uf rfl rfl ?_ ?_ ?_) | ((with_reducible (change cx_I (_, sx_ua _ _ _ _, _))); refine cx_I_ua rfl rfl ?_ ?_ ?_) | ((with_reducible (change cx_I (_, sx_ua _ 16 _ _, _))); refine cx_I_ari ?_ ?_ ?_) | ((with_reducible (change cx_I (sx_uf _ 11 6 _, _))); refine cx_I_ufA rfl ?_ ?_ ?_ ?_) | (with_reducible exact cx_F_refl _ _) | ((with_reducible (change cx_F _ _ (sx_uf _ _ _ _, _))); refine cx_F_uf rfl ?_) | ((with_reducible (change cx_F _ _ (_, sx_ua _ _ _ _, _))); refine cx_F_ua rfl ?_) | ((with_reducible (change cx_I (_, sx_cpy _ _ _ _ _ _, _))); refine cx_I_cpy rfl rfl rfl (by decide) ?_) | ((with_reducible (change cx_F _ _ (_, sx_cpy _ _ _ _ _ _, _))); refine cx_F_cpy rfl ?_) | ((with_reducible (change cx_F _ _ _)); refine cx_F_step (by assumption) rfl ?_) | fail)
  all_goals (try dsimp only at *)
  all_goals (first | trivial | omega | rfl | (intros; omega) | (intros; rfl) | skip)

theorem c_dv_pnode46 {sL : Nat} {sx : Nat → Int32} (hsL : sL ≤ 3072) (d : Nat) (hd : 2 ≤ d) : ∀ (s : sx_S) (K : Int → sx_S → Prop), cx_I s → (∀ z : Int, (s.1 46 6 < 512 → z = s.2.1 47 (s.1 46 6).toNat) → K z s) → sx_C sL sx d 63 [.inr (.inl 46)] s K := by
  intro  s K hI  hK
  obtain ⟨d, rfl⟩ : ∃ e, d = e + 2 := ⟨d - 2, by omega⟩
  exact sx_meth (wr := true) (n := 400) hsL (e := eX5_node) rfl (w_dv_pnode46 (Q := fun _ _ _ => False)  hI  hK)

theorem w_dv_pchain46 {CALL : sx_Ca} {sL : Nat} {sx : Nat → Int32} {Q : Nat → sx_L → sx_S → Prop} {R : Int → sx_S → Prop} {s : sx_S} (hI : cx_I s) (hK : ∀ z : Int, (s.1 46 6 < 512 → z = s.2.1 48 (s.1 46 6).toNat) → R z s) : sx_wp true sL sx eX5_chain CALL [] Q R 400 0 (sx_argsF 0 [.inr (.inl 46)]) [] s := by
  repeat' (first | (with_reducible (rintro _ rfl)) | (with_reducible intro _) | (refine And.intro ?_ ?_) | (refine hK _ ?_))
  all_goals (try dsimp only)
  repeat' (first | (with_reducible assumption) | ((with_reducible (change cx_I (sx_uf _ _ _ _, _))); refine cx_I_uf rfl rfl ?_ ?_ ?_) | ((with_reducible (change cx_I (_, sx_ua _ _ _ _, _))); refine cx_I_ua rfl rfl ?_ ?_ ?_) | ((with_reducible (change cx_I (_, sx_ua _ 16 _ _, _))); refine cx_I_ari ?_ ?_ ?_) | ((with_reducible (change cx_I (sx_uf _ 11 6 _, _))); refine cx_I_ufA rfl ?_ ?_ ?_ ?_) | (with_reducible exact cx_F_refl _ _) | ((with_reducible (change cx_F _ _ (sx_uf _ _ _ _, _))); refine cx_F_uf rfl ?_) | ((with_reducible (change cx_F _ _ (_, sx_ua _ _ _ _, _))); refine cx_F_ua rfl ?_) | ((with_reducible (change cx_I (_, sx_cpy _ _ _ _ _ _, _))); refine cx_I_cpy rfl rfl rfl (by decide) ?_) | ((with_reducible (change cx_F _ _ (_, sx_cpy _ _ _ _ _ _, _))); refine cx_F_cpy rfl ?_) | ((with_reducible (change cx_F _ _ _)); refine cx_F_step (by assumption) rfl ?_) | fail)
  all_goals (try dsimp only at *)
  all_goals (first | trivial | omega | rfl | (intros; omega) | (intros; rfl) | skip)

theorem c_dv_pchain46 {sL : Nat} {sx : Nat → Int32} (hsL : sL ≤ 3072) (d : Nat) (hd : 2 ≤ d) : ∀ (s : sx_S) (K : Int → sx_S → Prop), cx_I s → (∀ z : Int, (s.1 46 6 < 512 → z = s.2.1 48 (s.1 46 6).toNat) → K z s) → sx_C sL sx d 64 [.inr (.inl 46)] s K := by
  intro  s K hI  hK
  obtain ⟨d, rfl⟩ : ∃ e, d = e + 2 := ⟨d - 2, by omega⟩
  exact sx_meth (wr := true) (n := 400) hsL (e := eX5_chain) rfl (w_dv_pchain46 (Q := fun _ _ _ => False)  hI  hK)

theorem w_dv_plevel46 {CALL : sx_Ca} {sL : Nat} {sx : Nat → Int32} {Q : Nat → sx_L → sx_S → Prop} {R : Int → sx_S → Prop} {s : sx_S} (hI : cx_I s) (hK : ∀ z : Int, (s.1 46 6 < 512 → z = s.2.1 51 (s.1 46 6).toNat) → R z s) : sx_wp true sL sx eX5_level CALL [] Q R 400 0 (sx_argsF 0 [.inr (.inl 46)]) [] s := by
  repeat' (first | (with_reducible (rintro _ rfl)) | (with_reducible intro _) | (refine And.intro ?_ ?_) | (refine hK _ ?_))
  all_goals (try dsimp only)
  repeat' (first | (with_reducible assumption) | ((with_reducible (change cx_I (sx_uf _ _ _ _, _))); refine cx_I_uf rfl rfl ?_ ?_ ?_) | ((with_reducible (change cx_I (_, sx_ua _ _ _ _, _))); refine cx_I_ua rfl rfl ?_ ?_ ?_) | ((with_reducible (change cx_I (_, sx_ua _ 16 _ _, _))); refine cx_I_ari ?_ ?_ ?_) | ((with_reducible (change cx_I (sx_uf _ 11 6 _, _))); refine cx_I_ufA rfl ?_ ?_ ?_ ?_) | (with_reducible exact cx_F_refl _ _) | ((with_reducible (change cx_F _ _ (sx_uf _ _ _ _, _))); refine cx_F_uf rfl ?_) | ((with_reducible (change cx_F _ _ (_, sx_ua _ _ _ _, _))); refine cx_F_ua rfl ?_) | ((with_reducible (change cx_I (_, sx_cpy _ _ _ _ _ _, _))); refine cx_I_cpy rfl rfl rfl (by decide) ?_) | ((with_reducible (change cx_F _ _ (_, sx_cpy _ _ _ _ _ _, _))); refine cx_F_cpy rfl ?_) | ((with_reducible (change cx_F _ _ _)); refine cx_F_step (by assumption) rfl ?_) | fail)
  all_goals (try dsimp only at *)
  all_goals (first | trivial | omega | rfl | (intros; omega) | (intros; rfl) | skip)

theorem c_dv_plevel46 {sL : Nat} {sx : Nat → Int32} (hsL : sL ≤ 3072) (d : Nat) (hd : 2 ≤ d) : ∀ (s : sx_S) (K : Int → sx_S → Prop), cx_I s → (∀ z : Int, (s.1 46 6 < 512 → z = s.2.1 51 (s.1 46 6).toNat) → K z s) → sx_C sL sx d 67 [.inr (.inl 46)] s K := by
  intro  s K hI  hK
  obtain ⟨d, rfl⟩ : ∃ e, d = e + 2 := ⟨d - 2, by omega⟩
  exact sx_meth (wr := true) (n := 400) hsL (e := eX5_level) rfl (w_dv_plevel46 (Q := fun _ _ _ => False)  hI  hK)

theorem w_dv_pmark46 {CALL : sx_Ca} {sL : Nat} {sx : Nat → Int32} {Q : Nat → sx_L → sx_S → Prop} {R : Int → sx_S → Prop} {s : sx_S} (hI : cx_I s) (hK : ∀ z : Int, (s.1 46 6 < 512 → z = s.2.1 52 (s.1 46 6).toNat) → R z s) : sx_wp true sL sx eX5_mark CALL [] Q R 400 0 (sx_argsF 0 [.inr (.inl 46)]) [] s := by
  repeat' (first | (with_reducible (rintro _ rfl)) | (with_reducible intro _) | (refine And.intro ?_ ?_) | (refine hK _ ?_))
  all_goals (try dsimp only)
  repeat' (first | (with_reducible assumption) | ((with_reducible (change cx_I (sx_uf _ _ _ _, _))); refine cx_I_uf rfl rfl ?_ ?_ ?_) | ((with_reducible (change cx_I (_, sx_ua _ _ _ _, _))); refine cx_I_ua rfl rfl ?_ ?_ ?_) | ((with_reducible (change cx_I (_, sx_ua _ 16 _ _, _))); refine cx_I_ari ?_ ?_ ?_) | ((with_reducible (change cx_I (sx_uf _ 11 6 _, _))); refine cx_I_ufA rfl ?_ ?_ ?_ ?_) | (with_reducible exact cx_F_refl _ _) | ((with_reducible (change cx_F _ _ (sx_uf _ _ _ _, _))); refine cx_F_uf rfl ?_) | ((with_reducible (change cx_F _ _ (_, sx_ua _ _ _ _, _))); refine cx_F_ua rfl ?_) | ((with_reducible (change cx_I (_, sx_cpy _ _ _ _ _ _, _))); refine cx_I_cpy rfl rfl rfl (by decide) ?_) | ((with_reducible (change cx_F _ _ (_, sx_cpy _ _ _ _ _ _, _))); refine cx_F_cpy rfl ?_) | ((with_reducible (change cx_F _ _ _)); refine cx_F_step (by assumption) rfl ?_) | fail)
  all_goals (try dsimp only at *)
  all_goals (first | trivial | omega | rfl | (intros; omega) | (intros; rfl) | skip)

theorem c_dv_pmark46 {sL : Nat} {sx : Nat → Int32} (hsL : sL ≤ 3072) (d : Nat) (hd : 2 ≤ d) : ∀ (s : sx_S) (K : Int → sx_S → Prop), cx_I s → (∀ z : Int, (s.1 46 6 < 512 → z = s.2.1 52 (s.1 46 6).toNat) → K z s) → sx_C sL sx d 68 [.inr (.inl 46)] s K := by
  intro  s K hI  hK
  obtain ⟨d, rfl⟩ : ∃ e, d = e + 2 := ⟨d - 2, by omega⟩
  exact sx_meth (wr := true) (n := 400) hsL (e := eX5_mark) rfl (w_dv_pmark46 (Q := fun _ _ _ => False)  hI  hK)

theorem w_dv_pempty46 {CALL : sx_Ca} {sL : Nat} {sx : Nat → Int32} {Q : Nat → sx_L → sx_S → Prop} {R : Int → sx_S → Prop} {s : sx_S} (hI : cx_I s) (hK : ∀ z : Int, (0 ≤ z ∧ z ≤ 1) → (s.1 46 6 = 0 → z = 1) → (s.1 46 6 ≠ 0 → z = 0) → R z s) : sx_wp true sL sx eX5_isEmpty CALL [] Q R 400 0 (sx_argsF 0 [.inr (.inl 46)]) [] s := by
  repeat' (first | (with_reducible intro _) | (refine And.intro ?_ ?_) | (refine hK _ ?_ ?_ ?_))
  all_goals (try dsimp only)
  repeat' (first | (with_reducible assumption) | ((with_reducible (change cx_I (sx_uf _ _ _ _, _))); refine cx_I_uf rfl rfl ?_ ?_ ?_) | ((with_reducible (change cx_I (_, sx_ua _ _ _ _, _))); refine cx_I_ua rfl rfl ?_ ?_ ?_) | ((with_reducible (change cx_I (_, sx_ua _ 16 _ _, _))); refine cx_I_ari ?_ ?_ ?_) | ((with_reducible (change cx_I (sx_uf _ 11 6 _, _))); refine cx_I_ufA rfl ?_ ?_ ?_ ?_) | (with_reducible exact cx_F_refl _ _) | ((with_reducible (change cx_F _ _ (sx_uf _ _ _ _, _))); refine cx_F_uf rfl ?_) | ((with_reducible (change cx_F _ _ (_, sx_ua _ _ _ _, _))); refine cx_F_ua rfl ?_) | ((with_reducible (change cx_I (_, sx_cpy _ _ _ _ _ _, _))); refine cx_I_cpy rfl rfl rfl (by decide) ?_) | ((with_reducible (change cx_F _ _ (_, sx_cpy _ _ _ _ _ _, _))); refine cx_F_cpy rfl ?_) | ((with_reducible (change cx_F _ _ _)); refine cx_F_step (by assumption) rfl ?_) | fail)
  all_goals (try dsimp only at *)
  all_goals (first | trivial | omega | rfl | (intros; omega) | (intros; rfl) | skip)

theorem c_dv_pempty46 {sL : Nat} {sx : Nat → Int32} (hsL : sL ≤ 3072) (d : Nat) (hd : 2 ≤ d) : ∀ (s : sx_S) (K : Int → sx_S → Prop), cx_I s → (∀ z : Int, (0 ≤ z ∧ z ≤ 1) → (s.1 46 6 = 0 → z = 1) → (s.1 46 6 ≠ 0 → z = 0) → K z s) → sx_C sL sx d 59 [.inr (.inl 46)] s K := by
  intro  s K hI  hK
  obtain ⟨d, rfl⟩ : ∃ e, d = e + 2 := ⟨d - 2, by omega⟩
  exact sx_meth (wr := true) (n := 400) hsL (e := eX5_isEmpty) rfl (w_dv_pempty46 (Q := fun _ _ _ => False)  hI  hK)

theorem w_dv_pclear46 {CALL : sx_Ca} {sL : Nat} {sx : Nat → Int32} {Q : Nat → sx_L → sx_S → Prop} {R : Int → sx_S → Prop} {s : sx_S} (hI : cx_I s) (hK : ∀ (z : Int) (t : sx_S), cx_I t → cx_F [(46, 46)] s t → (t.1 46 6 = 0) → R z t) : sx_wp true sL sx eX5_clear CALL [] Q R 400 0 (sx_argsF 0 [.inr (.inl 46)]) [] s := by
  repeat' (first | (with_reducible intro _) | (refine And.intro ?_ ?_) | (refine hK _ _ ?_ ?_ ?_))
  all_goals (try dsimp only)
  repeat' (first | (with_reducible assumption) | ((with_reducible (change cx_I (sx_uf _ _ _ _, _))); refine cx_I_uf rfl rfl ?_ ?_ ?_) | ((with_reducible (change cx_I (_, sx_ua _ _ _ _, _))); refine cx_I_ua rfl rfl ?_ ?_ ?_) | ((with_reducible (change cx_I (_, sx_ua _ 16 _ _, _))); refine cx_I_ari ?_ ?_ ?_) | ((with_reducible (change cx_I (sx_uf _ 11 6 _, _))); refine cx_I_ufA rfl ?_ ?_ ?_ ?_) | (with_reducible exact cx_F_refl _ _) | ((with_reducible (change cx_F _ _ (sx_uf _ _ _ _, _))); refine cx_F_uf rfl ?_) | ((with_reducible (change cx_F _ _ (_, sx_ua _ _ _ _, _))); refine cx_F_ua rfl ?_) | ((with_reducible (change cx_I (_, sx_cpy _ _ _ _ _ _, _))); refine cx_I_cpy rfl rfl rfl (by decide) ?_) | ((with_reducible (change cx_F _ _ (_, sx_cpy _ _ _ _ _ _, _))); refine cx_F_cpy rfl ?_) | ((with_reducible (change cx_F _ _ _)); refine cx_F_step (by assumption) rfl ?_) | fail)
  all_goals (first | trivial | omega | (dsimp only at *; omega) | (simp only [sx_uf_if, sx_ua_if, sx_w_t, true_and, and_true, and_self, and_false, false_and, if_true, if_false, reduceIte] at *; omega) | (subst_vars; rfl) | (subst_vars; decide))

theorem c_dv_pclear46 {sL : Nat} {sx : Nat → Int32} (hsL : sL ≤ 3072) (d : Nat) (hd : 2 ≤ d) : ∀ (s : sx_S) (K : Int → sx_S → Prop), cx_I s → (∀ (z : Int) (t : sx_S), cx_I t → cx_F [(46, 46)] s t → (t.1 46 6 = 0) → K z t) → sx_C sL sx d 58 [.inr (.inl 46)] s K := by
  intro  s K hI  hK
  obtain ⟨d, rfl⟩ : ∃ e, d = e + 2 := ⟨d - 2, by omega⟩
  exact sx_meth (wr := true) (n := 400) hsL (e := eX5_clear) rfl (w_dv_pclear46 (Q := fun _ _ _ => False)  hI  hK)
end
section
/-! ===== the desk's answers: what an unknown is given ===== -/
theorem w_dv_body {CALL : sx_Ca} {sL : Nat} {sx : Nat → Int32} {Q : Nat → sx_L → sx_S → Prop} {R : Int → sx_S → Prop} {s : sx_S} {a0 : Int} (hI : cx_I s) (p0 : (-2147483648 ≤ a0 ∧ a0 ≤ 2147483647)) (hK : ∀ z : Int, (0 ≤ a0 → a0 < s.1 33 6 → z = s.2.1 34 a0.toNat) → (a0 < 0 → z = -1) → R z s) : sx_wp true sL sx eX0_body CALL [] Q R 400 0 (sx_argsF 0 [.inr (.inl 33), .inl a0]) [] s := by
  repeat' (first | (with_reducible (rintro _ rfl)) | (with_reducible intro _) | (refine And.intro ?_ ?_) | (refine hK _ ?_ ?_))
  all_goals (try dsimp only)
  repeat' (first | (with_reducible assumption) | ((with_reducible (change cx_I (sx_uf _ _ _ _, _))); refine cx_I_uf rfl rfl ?_ ?_ ?_) | ((with_reducible (change cx_I (_, sx_ua _ _ _ _, _))); refine cx_I_ua rfl rfl ?_ ?_ ?_) | ((with_reducible (change cx_I (_, sx_ua _ 16 _ _, _))); refine cx_I_ari ?_ ?_ ?_) | ((with_reducible (change cx_I (sx_uf _ 11 6 _, _))); refine cx_I_ufA rfl ?_ ?_ ?_ ?_) | (with_reducible exact cx_F_refl _ _) | ((with_reducible (change cx_F _ _ (sx_uf _ _ _ _, _))); refine cx_F_uf rfl ?_) | ((with_reducible (change cx_F _ _ (_, sx_ua _ _ _ _, _))); refine cx_F_ua rfl ?_) | ((with_reducible (change cx_I (_, sx_cpy _ _ _ _ _ _, _))); refine cx_I_cpy rfl rfl rfl (by decide) ?_) | ((with_reducible (change cx_F _ _ (_, sx_cpy _ _ _ _ _ _, _))); refine cx_F_cpy rfl ?_) | ((with_reducible (change cx_F _ _ _)); refine cx_F_step (by assumption) rfl ?_) | fail)
  all_goals (try dsimp only at *)
  all_goals (first | trivial | omega | rfl | (intros; omega) | (intros; rfl) | skip)

theorem c_dv_body {sL : Nat} {sx : Nat → Int32} (hsL : sL ≤ 3072) (d : Nat) (hd : 2 ≤ d) : ∀ (a0 : Int) (s : sx_S) (K : Int → sx_S → Prop), cx_I s → (-2147483648 ≤ a0 ∧ a0 ≤ 2147483647) → (∀ z : Int, (0 ≤ a0 → a0 < s.1 33 6 → z = s.2.1 34 a0.toNat) → (a0 < 0 → z = -1) → K z s) → sx_C sL sx d 4 [.inr (.inl 33), .inl a0] s K := by
  intro a0 s K hI p0 hK
  obtain ⟨d, rfl⟩ : ∃ e, d = e + 2 := ⟨d - 2, by omega⟩
  exact sx_meth (wr := true) (n := 400) hsL (e := eX0_body) rfl (w_dv_body (Q := fun _ _ _ => False)  hI p0 hK)

theorem w_dv_anode {CALL : sx_Ca} {sL : Nat} {sx : Nat → Int32} {Q : Nat → sx_L → sx_S → Prop} {R : Int → sx_S → Prop} {s : sx_S} (hI : cx_I s) (hK : ∀ z : Int, (z = s.1 33 7) → R z s) : sx_wp true sL sx eX0_node CALL [] Q R 400 0 (sx_argsF 0 [.inr (.inl 33)]) [] s := by
  repeat' (first | (with_reducible (rintro _ rfl)) | (with_reducible intro _) | (refine And.intro ?_ ?_) | (refine hK _ ?_))
  all_goals (try dsimp only)
  repeat' (first | (with_reducible assumption) | ((with_reducible (change cx_I (sx_uf _ _ _ _, _))); refine cx_I_uf rfl rfl ?_ ?_ ?_) | ((with_reducible (change cx_I (_, sx_ua _ _ _ _, _))); refine cx_I_ua rfl rfl ?_ ?_ ?_) | ((with_reducible (change cx_I (_, sx_ua _ 16 _ _, _))); refine cx_I_ari ?_ ?_ ?_) | ((with_reducible (change cx_I (sx_uf _ 11 6 _, _))); refine cx_I_ufA rfl ?_ ?_ ?_ ?_) | (with_reducible exact cx_F_refl _ _) | ((with_reducible (change cx_F _ _ (sx_uf _ _ _ _, _))); refine cx_F_uf rfl ?_) | ((with_reducible (change cx_F _ _ (_, sx_ua _ _ _ _, _))); refine cx_F_ua rfl ?_) | ((with_reducible (change cx_I (_, sx_cpy _ _ _ _ _ _, _))); refine cx_I_cpy rfl rfl rfl (by decide) ?_) | ((with_reducible (change cx_F _ _ (_, sx_cpy _ _ _ _ _ _, _))); refine cx_F_cpy rfl ?_) | ((with_reducible (change cx_F _ _ _)); refine cx_F_step (by assumption) rfl ?_) | fail)
  all_goals (try dsimp only at *)
  all_goals (first | trivial | omega | rfl | (intros; omega) | (intros; rfl) | skip)

theorem c_dv_anode {sL : Nat} {sx : Nat → Int32} (hsL : sL ≤ 3072) (d : Nat) (hd : 2 ≤ d) : ∀ (s : sx_S) (K : Int → sx_S → Prop), cx_I s → (∀ z : Int, (z = s.1 33 7) → K z s) → sx_C sL sx d 2 [.inr (.inl 33)] s K := by
  intro  s K hI  hK
  obtain ⟨d, rfl⟩ : ∃ e, d = e + 2 := ⟨d - 2, by omega⟩
  exact sx_meth (wr := true) (n := 400) hsL (e := eX0_node) rfl (w_dv_anode (Q := fun _ _ _ => False)  hI  hK)

theorem w_dv_achain {CALL : sx_Ca} {sL : Nat} {sx : Nat → Int32} {Q : Nat → sx_L → sx_S → Prop} {R : Int → sx_S → Prop} {s : sx_S} (hI : cx_I s) (hK : ∀ z : Int, (z = s.1 33 8) → R z s) : sx_wp true sL sx eX0_chain CALL [] Q R 400 0 (sx_argsF 0 [.inr (.inl 33)]) [] s := by
  repeat' (first | (with_reducible (rintro _ rfl)) | (with_reducible intro _) | (refine And.intro ?_ ?_) | (refine hK _ ?_))
  all_goals (try dsimp only)
  repeat' (first | (with_reducible assumption) | ((with_reducible (change cx_I (sx_uf _ _ _ _, _))); refine cx_I_uf rfl rfl ?_ ?_ ?_) | ((with_reducible (change cx_I (_, sx_ua _ _ _ _, _))); refine cx_I_ua rfl rfl ?_ ?_ ?_) | ((with_reducible (change cx_I (_, sx_ua _ 16 _ _, _))); refine cx_I_ari ?_ ?_ ?_) | ((with_reducible (change cx_I (sx_uf _ 11 6 _, _))); refine cx_I_ufA rfl ?_ ?_ ?_ ?_) | (with_reducible exact cx_F_refl _ _) | ((with_reducible (change cx_F _ _ (sx_uf _ _ _ _, _))); refine cx_F_uf rfl ?_) | ((with_reducible (change cx_F _ _ (_, sx_ua _ _ _ _, _))); refine cx_F_ua rfl ?_) | ((with_reducible (change cx_I (_, sx_cpy _ _ _ _ _ _, _))); refine cx_I_cpy rfl rfl rfl (by decide) ?_) | ((with_reducible (change cx_F _ _ (_, sx_cpy _ _ _ _ _ _, _))); refine cx_F_cpy rfl ?_) | ((with_reducible (change cx_F _ _ _)); refine cx_F_step (by assumption) rfl ?_) | fail)
  all_goals (try dsimp only at *)
  all_goals (first | trivial | omega | rfl | (intros; omega) | (intros; rfl) | skip)

theorem c_dv_achain {sL : Nat} {sx : Nat → Int32} (hsL : sL ≤ 3072) (d : Nat) (hd : 2 ≤ d) : ∀ (s : sx_S) (K : Int → sx_S → Prop), cx_I s → (∀ z : Int, (z = s.1 33 8) → K z s) → sx_C sL sx d 3 [.inr (.inl 33)] s K := by
  intro  s K hI  hK
  obtain ⟨d, rfl⟩ : ∃ e, d = e + 2 := ⟨d - 2, by omega⟩
  exact sx_meth (wr := true) (n := 400) hsL (e := eX0_chain) rfl (w_dv_achain (Q := fun _ _ _ => False)  hI  hK)

theorem w_dv_bind {CALL : sx_Ca} {sL : Nat} {sx : Nat → Int32} {Q : Nat → sx_L → sx_S → Prop} {R : Int → sx_S → Prop} {s : sx_S} {a0 a1 : Int} (hI : cx_I s) (p0 : 0 ≤ a0 ∧ a0 < 32) (p1 : -2147483648 ≤ a1 ∧ a1 ≤ 2147483647) (hK : cx_I (s.1, sx_ua (sx_ua s.2.1 34 a0.toNat a1) 35 a0.toNat 0, s.2.2) → R 0 (s.1, sx_ua (sx_ua s.2.1 34 a0.toNat a1) 35 a0.toNat 0, s.2.2)) : sx_wp true sL sx eX0_bind CALL [] Q R 400 0 (sx_argsF 0 [.inr (.inl 33), .inl a0, .inl a1]) [] s := by
  have m0 : cx_I (s.1, sx_ua s.2.1 34 a0.toNat a1, s.2.2) := cx_I_ua rfl rfl hI (by omega) (by omega)
  have m1 : cx_I (s.1, sx_ua (sx_ua s.2.1 34 a0.toNat a1) 35 a0.toNat 0, s.2.2) := cx_I_ua rfl rfl m0 (by omega) (by omega)
  have zz1 := hK m1
  repeat' (first | (with_reducible (rintro _ rfl)) | (with_reducible intro _) | (refine And.intro ?_ ?_))
  all_goals (try dsimp only at *)
  all_goals (first | trivial | assumption | omega | (exfalso; omega) | skip)
theorem c_dv_bind {sL : Nat} {sx : Nat → Int32} (hsL : sL ≤ 3072) (d : Nat) (hd : 2 ≤ d) : ∀ (a0 a1 : Int) (s : sx_S) (R : Int → sx_S → Prop), cx_I s → (0 ≤ a0 ∧ a0 < 32) → (-2147483648 ≤ a1 ∧ a1 ≤ 2147483647) → (cx_I (s.1, sx_ua (sx_ua s.2.1 34 a0.toNat a1) 35 a0.toNat 0, s.2.2) → R 0 (s.1, sx_ua (sx_ua s.2.1 34 a0.toNat a1) 35 a0.toNat 0, s.2.2)) → sx_C sL sx d 7 [.inr (.inl 33), .inl a0, .inl a1] s R := by
  intro a0 a1 s R hI p0 p1 hK
  obtain ⟨d, rfl⟩ : ∃ e, d = e + 2 := ⟨d - 2, by omega⟩
  exact sx_meth (wr := true) (n := 400) hsL (e := eX0_bind) rfl (w_dv_bind (Q := fun _ _ _ => False) hI p0 p1 hK)
theorem w_dv_addP {CALL : sx_Ca} {sL : Nat} {sx : Nat → Int32} {Q : Nat → sx_L → sx_S → Prop} {R : Int → sx_S → Prop} {s : sx_S} {a0 a1 a2 : Int} (hI : cx_I s) (p0 : 0 ≤ a0 ∧ a0 < 32) (p1 : -2147483648 ≤ a1 ∧ a1 ≤ 2147483647) (p2 : -2147483648 ≤ a2 ∧ a2 ≤ 2147483647) (p3 : s.2.1 35 a0.toNat < 4) (hK : cx_I (s.1, sx_ua (sx_ua (sx_ua s.2.1 36 (a0 * 4 + s.2.1 35 a0.toNat).toNat a1) 37 (a0 * 4 + s.2.1 35 a0.toNat).toNat a2) 35 a0.toNat (s.2.1 35 a0.toNat + 1), s.2.2) → R 0 (s.1, sx_ua (sx_ua (sx_ua s.2.1 36 (a0 * 4 + s.2.1 35 a0.toNat).toNat a1) 37 (a0 * 4 + s.2.1 35 a0.toNat).toNat a2) 35 a0.toNat (s.2.1 35 a0.toNat + 1), s.2.2)) : sx_wp true sL sx eX0_addPair CALL [] Q R 400 0 (sx_argsF 0 [.inr (.inl 33), .inl a0, .inl a1, .inl a2]) [] s := by
  have h0 := hI.arr 35 (by decide) rfl a0.toNat
  have m0 : cx_I (s.1, sx_ua s.2.1 36 (a0 * 4 + s.2.1 35 a0.toNat).toNat a1, s.2.2) := cx_I_ua rfl rfl hI (by omega) (by omega)
  have m1 : cx_I (s.1, sx_ua (sx_ua s.2.1 36 (a0 * 4 + s.2.1 35 a0.toNat).toNat a1) 37 (a0 * 4 + s.2.1 35 a0.toNat).toNat a2, s.2.2) := cx_I_ua rfl rfl m0 (by omega) (by omega)
  have m2 : cx_I (s.1, sx_ua (sx_ua (sx_ua s.2.1 36 (a0 * 4 + s.2.1 35 a0.toNat).toNat a1) 37 (a0 * 4 + s.2.1 35 a0.toNat).toNat a2) 35 a0.toNat (s.2.1 35 a0.toNat + 1), s.2.2) := cx_I_ua rfl rfl m1 (by omega) (by omega)
  have zz1 := hK m2
  have zzm : sx_w true (a0 * 4) = a0 * 4 := px_wid (by omega) (by omega)
  have zzp : sx_w true (a0 * 4 + s.2.1 35 a0.toNat) = a0 * 4 + s.2.1 35 a0.toNat := px_wid (by omega) (by omega)
  have zzu : sx_w true (s.2.1 35 a0.toNat + 1) = s.2.1 35 a0.toNat + 1 := px_wid (by omega) (by omega)
  have zza : ∀ i v j w, (sx_ua (sx_ua s.2.1 36 i v) 37 j w) 35 a0.toNat = s.2.1 35 a0.toNat := fun i v j w => by rw [sx_ua_ne (by decide), sx_ua_ne (by decide)]
  repeat' (first | (with_reducible (rintro _ rfl)) | (with_reducible intro _) | (refine And.intro ?_ ?_))
  all_goals (try dsimp only at *)
  all_goals (first | trivial | assumption | omega | (exfalso; omega) | (show R _ _; simp only [zzm, zzp, zza, zzu]; exact zz1) | (simp only [zzm, zzp, zza, zzu] at *; first | assumption | omega) | skip)
theorem c_dv_addP {sL : Nat} {sx : Nat → Int32} (hsL : sL ≤ 3072) (d : Nat) (hd : 2 ≤ d) : ∀ (a0 a1 a2 : Int) (s : sx_S) (R : Int → sx_S → Prop), cx_I s → (0 ≤ a0 ∧ a0 < 32) → (-2147483648 ≤ a1 ∧ a1 ≤ 2147483647) → (-2147483648 ≤ a2 ∧ a2 ≤ 2147483647) → s.2.1 35 a0.toNat < 4 → (cx_I (s.1, sx_ua (sx_ua (sx_ua s.2.1 36 (a0 * 4 + s.2.1 35 a0.toNat).toNat a1) 37 (a0 * 4 + s.2.1 35 a0.toNat).toNat a2) 35 a0.toNat (s.2.1 35 a0.toNat + 1), s.2.2) → R 0 (s.1, sx_ua (sx_ua (sx_ua s.2.1 36 (a0 * 4 + s.2.1 35 a0.toNat).toNat a1) 37 (a0 * 4 + s.2.1 35 a0.toNat).toNat a2) 35 a0.toNat (s.2.1 35 a0.toNat + 1), s.2.2)) → sx_C sL sx d 8 [.inr (.inl 33), .inl a0, .inl a1, .inl a2] s R := by
  intro a0 a1 a2 s R hI p0 p1 p2 p3 hK
  obtain ⟨d, rfl⟩ : ∃ e, d = e + 2 := ⟨d - 2, by omega⟩
  exact sx_meth (wr := true) (n := 400) hsL (e := eX0_addPair) rfl (w_dv_addP (Q := fun _ _ _ => False) hI p0 p1 p2 p3 hK)

/-- the pairs of an unknown: (variable, which ARG) -/
def dv_pr (s : sx_S) (u : Int) (P : List (Int × Int)) : Prop := True → s.2.1 35 u.toNat = (P.length : Int) ∧ P.length ≤ 4 ∧ ∀ (i : Nat) (q : Int × Int), P[i]? = some q → s.2.1 36 (u * 4 + (i : Int)).toNat = q.1 ∧ s.2.1 37 (u * 4 + (i : Int)).toNat = q.2
/-- the chain of the body: hs the ARGs of the call, c its chain -/
def dv_in (P : List (Int × Int)) (hs : List Int) (c : List (Int × Int)) : List (Int × Int) := (P.map (fun q => (q.1, dv_lk c (hs.getD q.2.toNat (-1))))).reverse
theorem dz_hs_dr : ∀ (n : Nat) (f : rf_N), dz_hs (dz_dr n f) = (dz_hs f).drop n
  | 0, f => rfl
  | n + 1, .leaf => rfl
  | n + 1, .inner _ k _ _ x => by
    show dz_hs (dz_dr n x) = (k.2 :: dz_hs x).drop (n + 1)
    rw [List.drop_succ_cons]
    exact dz_hs_dr n x
/-- the i-th of a row -/
theorem dv_nth {s : sx_S} {f : rf_N} {n : Nat} {w : Int} (hn : n < rf_len f) (h : dz_nd s (dz_dr n f) w) : (0 ≤ w ∧ w < s.1 11 6) ∧ s.2.1 13 w.toNat = (dz_hs f).getD n (-1) := by
  have ld := dz_dr_len n f
  have hw : w ≠ -1 := fun e => by
    rw [rf_nd_nil h e] at ld
    have : rf_len .leaf = 0 := rfl
    omega
  have r := rf_nd_rng h
  refine ⟨by omega, ?_⟩
  obtain ⟨ff, x, e1, _⟩ := rf_nd_cons h hw
  have e2 := dz_hs_dr n f
  rw [e1] at e2
  have e3 : s.2.1 13 w.toNat :: dz_hs x = (dz_hs f).drop n := e2
  rw [List.getD_eq_getElem?_getD]
  have e4 : (dz_hs f)[n]? = some (s.2.1 13 w.toNat) := by
    have := congrArg (fun l : List Int => l[0]?) e3
    rw [List.getElem?_drop] at this
    exact this.symm
  rw [e4]
  rfl
theorem w_dv_ins {CALL : sx_Ca} {sL : Nat} {sx : Nat → Int32} {Q : Nat → sx_L → sx_S → Prop} {R : Int → sx_S → Prop} (h_head : ∀ (a0 : Int) (s : sx_S) (K : Int → sx_S → Prop), cx_I s → (-2147483648 ≤ a0 ∧ a0 ≤ 2147483647) → (∀ z : Int, (0 ≤ a0 → a0 < s.1 11 6 → z = s.2.1 13 a0.toNat) → (a0 < 0 → z = -1) → K z s) → CALL 92 [.inr (.inl 11), .inl a0] s K) {s : sx_S} {a0 a1 x3 : Int} (hI : cx_I s) (p0 : 0 ≤ a0 ∧ a0 < s.1 11 6) (p1 : -2147483648 ≤ a1 ∧ a1 ≤ 2147483647) (q3 : s.2.1 13 a0.toNat = x3 ∧ 0 ≤ x3 ∧ x3 < 32) (hQ : Q 28 [(0, .inr (.inl 33)), (1, .inl a0), (2, .inl a1), (3, .inl x3), (4, .inl (-1)), (5, .inl 0)] s) : sx_wp true sL sx eX0_inside CALL [(28, [0, 1, 2, 3, 4, 5])] Q R 400 0 (sx_argsF 0 [.inr (.inl 33), .inl a0, .inl a1]) [] s := by
  have h0 := hI.fld 11 6 (by decide) rfl
  refine h_head _ _ _ hI (by omega) (fun z z1 z2 => ?_)
  obtain rfl : z = x3 := by rw [z1 (by omega) (by omega)]; exact q3.1
  repeat' (first | (with_reducible (rintro _ rfl)) | (with_reducible intro _) | (refine And.intro ?_ ?_))
  all_goals (try dsimp only at *)
  all_goals (first | trivial | assumption | omega | (exfalso; omega) | skip)
theorem w_dv_ins28 {CALL : sx_Ca} {sL : Nat} {sx : Nat → Int32} {Q : Nat → sx_L → sx_S → Prop} {R : Int → sx_S → Prop} (h_head : ∀ (a0 : Int) (s : sx_S) (K : Int → sx_S → Prop), cx_I s → (-2147483648 ≤ a0 ∧ a0 ≤ 2147483647) → (∀ z : Int, (0 ≤ a0 → a0 < s.1 11 6 → z = s.2.1 13 a0.toNat) → (a0 < 0 → z = -1) → K z s) → CALL 92 [.inr (.inl 11), .inl a0] s K) {s : sx_S} {a0 a1 x3 x4 x5 w lv : Int} (h_arg : x5 < s.2.1 35 x3.toNat → ∀ K : Int → sx_S → Prop, K w s → CALL 95 [.inr (.inl 11), .inl a0, .inl (s.2.1 37 (x3 * 4 + x5).toNat)] s K) (h_of : x5 < s.2.1 35 x3.toNat → ∀ K : Int → sx_S → Prop, K lv s → CALL 47 [.inr (.inl 29), .inl a1, .inl (s.2.1 13 w.toNat)] s K) (h_with : x5 < s.2.1 35 x3.toNat → ∀ K : Int → sx_S → Prop, (∀ t, cx_I t → cx_F [(29, 32)] s t → dv_w1 x4 (s.2.1 36 (x3 * 4 + x5).toNat) lv s t → K (s.1 29 3) t) → CALL 46 [.inr (.inl 29), .inl x4, .inl (s.2.1 36 (x3 * 4 + x5).toNat), .inl lv] s K) (hI : cx_I s) (p0 : 0 ≤ a0 ∧ a0 < s.1 11 6) (p1 : -2147483648 ≤ a1 ∧ a1 ≤ 2147483647) (q3 : 0 ≤ x3 ∧ x3 < 32) (q4 : -2147483648 ≤ x4 ∧ x4 ≤ 2147483647) (q5 : 0 ≤ x5 ∧ x5 ≤ s.2.1 35 x3.toNat) (qw : x5 < s.2.1 35 x3.toNat → 0 ≤ w ∧ w < s.1 11 6) (hK : x5 = s.2.1 35 x3.toNat → R x4 s) (hQ : x5 < s.2.1 35 x3.toNat → ∀ t, cx_I t → cx_F [(29, 32)] s t → dv_w1 x4 (s.2.1 36 (x3 * 4 + x5).toNat) lv s t → Q 28 [(0, .inr (.inl 33)), (1, .inl a0), (2, .inl a1), (3, .inl x3), (4, .inl (s.1 29 3)), (5, .inl (x5 + 1))] t) : sx_wp true sL sx eX0_inside CALL [(28, [0, 1, 2, 3, 4, 5])] Q R 400 28 [(0, .inr (.inl 33)), (1, .inl a0), (2, .inl a1), (3, .inl x3), (4, .inl x4), (5, .inl x5)] [] s := by
  have h0 := hI.fld 11 6 (by decide) rfl
  have h1 := hI.arr 35 (by decide) rfl x3.toNat
  have h2 := hI.arr 13 (by decide) rfl w.toNat
  have zzm : sx_w true (x3 * 4) = x3 * 4 := px_wid (by omega) (by omega)
  have zzp : sx_w true (x3 * 4 + x5) = x3 * 4 + x5 := px_wid (by omega) (by omega)
  have zzy : sx_w true (x5 + 1) = x5 + 1 := px_wid (by omega) (by omega)
  repeat' (first | (with_reducible (rintro _ rfl)) | (with_reducible intro _) | (refine And.intro ?_ ?_) | (simp only [zzm, zzp]; refine h_arg (by omega) _ ?_) | (refine h_head _ _ _ hI (by first | omega | (have := qw (by omega); omega)) (fun z z1 z2 => ?_); obtain rfl := z1 (by have := qw (by omega); omega) (by have := qw (by omega); omega)) | (simp only [zzm, zzp]; refine h_of (by omega) _ ?_) | (simp only [zzm, zzp]; refine h_with (by omega) _ (fun t t1 t2 t3 => ?_)))
  all_goals (try dsimp only at *)
  all_goals (first | trivial | assumption | omega | (exfalso; omega) | (exact hK (by omega)) | (have zz9 := hQ (by omega) _ t1 t2 t3; rw [← zzy] at zz9; exact zz9) | (simp only [zzm, zzp] at *; first | assumption | omega) | skip)
end
section
/-! ===== the desk's answers: the chain of a body ===== -/
theorem dv_drx {s : sx_S} : ∀ (n : Nat) {f : rf_N} {i : Int}, dz_nd s f i → ∃ w, dz_nd s (dz_dr n f) w
  | 0, _, i, h => ⟨i, h⟩
  | n + 1, .leaf, _, _ => ⟨-1, rfl⟩
  | n + 1, .inner _ _ _ _ x, _, h => dv_drx n h.2.2.2
theorem dv_nd1 {s : sx_S} {f : rf_N} {i k : Int} (h : dz_nd s f i) (g : dz_nd s f k) : i = k := by
  cases f with
  | leaf =>
    have h' : i = -1 := h
    have g' : k = -1 := g
    omega
  | inner j q u ff x =>
    have := h.1.1
    have := g.1.1
    omega
/-- the elder links stay -/
def dv_lf (s t : sx_S) : Prop := True → s.1 29 3 ≤ t.1 29 3 ∧ ∀ j : Nat, (j : Int) < s.1 29 3 → t.2.1 30 j = s.2.1 30 j ∧ t.2.1 31 j = s.2.1 31 j ∧ t.2.1 32 j = s.2.1 32 j
theorem dv_lf_refl (s : sx_S) : dv_lf s s := fun _ => ⟨Int.le_refl _, fun _ _ => ⟨rfl, rfl, rfl⟩⟩
theorem dv_lf_t {s t u : sx_S} (h1 : dv_lf s t) (h2 : dv_lf t u) : dv_lf s u := fun _ => by
  obtain ⟨a1, a2⟩ := h1 trivial
  obtain ⟨b1, b2⟩ := h2 trivial
  refine ⟨by omega, fun j hj => ?_⟩
  obtain ⟨c1, c2, c3⟩ := a2 j hj
  obtain ⟨d1, d2, d3⟩ := b2 j (by omega)
  exact ⟨d1.trans c1, d2.trans c2, d3.trans c3⟩
theorem dv_w1_lf {a0 a1 a2 : Int} {s t : sx_S} (h : dv_w1 a0 a1 a2 s t) : dv_lf s t := fun _ => by
  obtain ⟨h1, h2, _⟩ := h trivial
  exact ⟨by omega, fun j hj => h2 j (by omega)⟩
theorem dv_c_lf {s t : sx_S} {c : List (Int × Int)} {hi k : Int} (h : dv_lf s t) (hh : hi ≤ s.1 29 3) (hc : dv_c s c hi k) : dv_c t c hi k := dv_ch_fr (fun j hj => (h trivial).2 j (by omega)) hc
theorem dv_in_s {P : List (Int × Int)} {hs : List Int} {c : List (Int × Int)} {n : Nat} {q : Int × Int} (h : P[n]? = some q) : dv_in (P.take (n + 1)) hs c = (q.1, dv_lk c (hs.getD q.2.toNat (-1))) :: dv_in (P.take n) hs c := by
  unfold dv_in
  rw [List.take_succ, h, List.map_append, List.reverse_append]
  rfl
theorem dv_lk_rng {s : sx_S} {c : List (Int × Int)} {hi k : Int} (hI : cx_I s) (hc : dv_c s c hi k) : ∀ x, -2147483648 ≤ dv_lk c x ∧ dv_lk c x ≤ 2147483647 := by
  induction c generalizing hi k with
  | nil => exact fun x => ⟨by show (-2147483648 : Int) ≤ -1; omega, by show (-1 : Int) ≤ 2147483647; omega⟩
  | cons p r ih =>
    intro x
    obtain ⟨_, ⟨_, q2⟩, q3⟩ := hc
    show -2147483648 ≤ (if p.1 = x then p.2 else dv_lk r x) ∧ (if p.1 = x then p.2 else dv_lk r x) ≤ 2147483647
    by_cases e : p.1 = x
    · rw [if_pos e, ← q2]
      exact hI.arr 31 (by decide) rfl k.toNat
    · rw [if_neg e]
      exact ih q3 x

theorem c_dv_ins {sL : Nat} {sx : Nat → Int32} (hsL : sL ≤ 3072) (d : Nat) (hd : 3 ≤ d) : ∀ (a0 a1 hi x3 : Int) (F : rf_N) (P c : List (Int × Int)) (s : sx_S) (K : Int → sx_S → Prop), cx_I s → (0 ≤ a0 ∧ a0 < s.1 11 6) → (s.2.1 13 a0.toNat = x3 ∧ 0 ≤ x3 ∧ x3 < 32) → dz_nd s F (s.2.1 14 a0.toNat) → dv_pr s x3 P → (∀ q ∈ P, 0 ≤ q.2 ∧ q.2 < (rf_len F : Int)) → (rf_len F : Int) ≤ 1024 → dv_c s c hi a1 → hi ≤ s.1 29 3 → s.1 29 3 + (P.length : Int) ≤ 1024 → (∀ z t, cx_I t → cx_F [(29, 32)] s t → dv_lf s t → t.1 29 3 = s.1 29 3 + (P.length : Int) → dv_c t (dv_in P (dz_hs F) c) (t.1 29 3) z → K z t) → sx_C sL sx d 6 [.inr (.inl 33), .inl a0, .inl a1] s K := by
  intro a0 a1 hi x3 F P c s K hI p0 q3 hF hP hq hl hc hh hr hK
  have h0 := hI.fld 11 6 (by decide) rfl
  have h29 := hI.fld 29 3 (by decide) rfl
  have rc := dv_ch_rng hc
  obtain ⟨P1, P2, P3⟩ := hP trivial
  obtain ⟨d, rfl⟩ : ∃ e, d = e + 2 := ⟨d - 2, by omega⟩
  refine sx_methL (wr := true) (n := 400) (n' := 400) (stop := [(28, [0, 1, 2, 3, 4, 5])]) (fun nn pc ls u => pc = 28 ∧ ∃ (x4 : Int) (x5 : Nat), ls = [(0, .inr (.inl 33)), (1, .inl a0), (2, .inl a1), (3, .inl x3), (4, .inl x4), (5, .inl (x5 : Int))] ∧ cx_I u ∧ cx_F [(29, 32)] s u ∧ dv_lf s u ∧ u.1 29 3 = s.1 29 3 + (x5 : Int) ∧ dv_c u (dv_in (P.take x5) (dz_hs F) c) (u.1 29 3) x4 ∧ x5 ≤ P.length ∧ nn = P.length - x5) hsL (e := eX0_inside) rfl ?_ ?_
  · exact w_dv_ins (c_dz_head hsL (d + 1) (by omega)) hI p0 (by omega) q3 ⟨_, rfl, -1, 0, rfl, hI, cx_F_refl _ _, dv_lf_refl s, by omega, rfl, by omega, rfl⟩
  · rintro nn pc ls u ⟨rfl, x4, x5, rfl, i1, i2, i3, i4, i5, i6, rfl⟩
    have e35 : u.2.1 35 = s.2.1 35 := (i2.same 35 rfl).2
    have e36 : u.2.1 36 = s.2.1 36 := (i2.same 36 rfl).2
    have e37 : u.2.1 37 = s.2.1 37 := (i2.same 37 rfl).2
    have e11 : u.1 11 = s.1 11 := (i2.same 11 rfl).1
    have e12 : u.2.1 12 = s.2.1 12 := (i2.same 12 rfl).2
    have e13 : u.2.1 13 = s.2.1 13 := (i2.same 13 rfl).2
    have e14 : u.2.1 14 = s.2.1 14 := (i2.same 14 rfl).2
    have e15 : u.2.1 15 = s.2.1 15 := (i2.same 15 rfl).2
    have r4 := dv_ch_rng i5
    have h29u := i1.fld 29 3 (by decide) rfl
    have hFu : dz_nd u F (u.2.1 14 a0.toNat) := by
      show rf_nd (u.2.1 12) (u.2.1 13) (u.2.1 14) (u.2.1 15) (u.1 11 6) F (u.2.1 14 a0.toNat)
      rw [e11, e12, e13, e14, e15]
      exact hF
    by_cases hx : x5 < P.length
    · obtain ⟨q, hqq⟩ : ∃ q, P[x5]? = some q := ⟨_, List.getElem?_eq_getElem hx⟩
      obtain ⟨g1, g2⟩ := P3 x5 q hqq
      obtain ⟨g3, g4⟩ := hq q (List.mem_of_getElem? hqq)
      obtain ⟨w, hw⟩ := dv_drx q.2.toNat hFu
      obtain ⟨w1, w2⟩ := dv_nth (by omega) hw
      have hcu := dv_c_lf i3 hh hc
      have rl := dv_lk_rng i1 hcu ((dz_hs F).getD q.2.toNat (-1))
      have r13 := i1.arr 13 (by decide) rfl w.toNat
      have r36 := i1.arr 36 (by decide) rfl (x3 * 4 + (x5 : Int)).toNat
      refine w_dv_ins28 (w := w) (lv := dv_lk c ((dz_hs F).getD q.2.toNat (-1))) (c_dz_head hsL (d + 1) (by omega)) (fun _ K hK => ?_) (fun _ K hK => ?_) (fun _ K hK => ?_) i1 (by rw [e11]; exact p0) (by omega) q3.2 (by omega) (by rw [e35]; omega) (fun _ => w1) (fun h => absurd h (by rw [e35]; omega)) (fun _ t t1 t2 t3 => ?_)
      · refine c_dz_arg hsL (d + 1) (by omega) _ _ F _ _ i1 (by rw [e11]; exact p0) (by rw [e37, g2]; omega) hFu (fun z z1 z2 => ?_)
        rw [e37, g2] at z2
        rw [dv_nd1 z2 hw]
        exact hK
      · rw [w2]
        rw [w2] at r13
        exact c_dv_of hsL (d + 1) (by omega) _ _ hi c _ _ i1 r13 hcu (by omega) hK
      · exact c_dv_with hsL (d + 1) (by omega) _ _ _ _ _ i1 (by omega) (by omega) r36 rl hK
      · have t4 := dv_w1_c (by omega) t3 (Int.le_refl _) i5
        have t5 := (t3 trivial).1
        refine ⟨P.length - (x5 + 1), ?_, rfl, u.1 29 3, x5 + 1, ?_, t1, cx_F_step t2 rfl i2, dv_lf_t i3 (dv_w1_lf t3), by omega, ?_, by omega, rfl⟩
        · omega
        · rw [show (((x5 + 1 : Nat)) : Int) = (x5 : Int) + 1 by omega]
        · rw [dv_in_s hqq]
          rw [e36, g1] at t4
          exact t4
    · have hx' : x5 = P.length := by omega
      refine w_dv_ins28 (w := 0) (lv := 0) (c_dz_head hsL (d + 1) (by omega)) (fun h => absurd h (by rw [e35]; omega)) (fun h => absurd h (by rw [e35]; omega)) (fun h => absurd h (by rw [e35]; omega)) i1 (by rw [e11]; exact p0) (by omega) q3.2 (by omega) (by rw [e35]; omega) (fun h => absurd h (by rw [e35]; omega)) (fun _ => ?_) (fun h => absurd h (by rw [e35]; omega))
      rw [hx', List.take_length] at i5
      exact hK _ _ i1 i2 i3 (by omega) i5
end
