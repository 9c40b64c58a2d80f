/-! ===== the desk's solver: unifies, pieces ===== -/
theorem w_dv_tot {CALL : sx_Ca} {sL : Nat} {sx : Nat → Int32} {Q : Nat → sx_L → sx_S → Prop} {R : Int → sx_S → Prop} {s : sx_S} (hI : cx_I s) (hK : ∀ z : Int, (z = s.1 22 2) → R z s) : sx_wp true sL sx eX4_total CALL [] Q R 400 0 (sx_argsF 0 [.inr (.inl 22)]) [] s := by
  repeat' (first | (with_reducible (rintro _ rfl)) | (with_reducible intro _) | (refine And.intro ?_ ?_) | (refine hK _ ?_))
  all_goals (try dsimp only)
  repeat' (first | (with_reducible assumption) | ((with_reducible (change cx_I (sx_uf _ _ _ _, _))); refine cx_I_uf rfl rfl ?_ ?_ ?_) | ((with_reducible (change cx_I (_, sx_ua _ _ _ _, _))); refine cx_I_ua rfl rfl ?_ ?_ ?_) | ((with_reducible (change cx_I (_, sx_ua _ 16 _ _, _))); refine cx_I_ari ?_ ?_ ?_) | ((with_reducible (change cx_I (sx_uf _ 11 6 _, _))); refine cx_I_ufA rfl ?_ ?_ ?_ ?_) | (with_reducible exact cx_F_refl _ _) | ((with_reducible (change cx_F _ _ (sx_uf _ _ _ _, _))); refine cx_F_uf rfl ?_) | ((with_reducible (change cx_F _ _ (_, sx_ua _ _ _ _, _))); refine cx_F_ua rfl ?_) | ((with_reducible (change cx_I (_, sx_cpy _ _ _ _ _ _, _))); refine cx_I_cpy rfl rfl rfl (by decide) ?_) | ((with_reducible (change cx_F _ _ (_, sx_cpy _ _ _ _ _ _, _))); refine cx_F_cpy rfl ?_) | ((with_reducible (change cx_F _ _ _)); refine cx_F_step (by assumption) rfl ?_) | fail)
  all_goals (try dsimp only at *)
  all_goals (first | trivial | omega | rfl | (intros; omega) | (intros; rfl) | skip)

theorem c_dv_tot {sL : Nat} {sx : Nat → Int32} (hsL : sL ≤ 3072) (d : Nat) (hd : 2 ≤ d) : ∀ (s : sx_S) (K : Int → sx_S → Prop), cx_I s → (∀ z : Int, (z = s.1 22 2) → K z s) → sx_C sL sx d 52 [.inr (.inl 22)] s K := by
  intro  s K hI  hK
  obtain ⟨d, rfl⟩ : ∃ e, d = e + 2 := ⟨d - 2, by omega⟩
  exact sx_meth (wr := true) (n := 400) hsL (e := eX4_total) rfl (w_dv_tot (Q := fun _ _ _ => False)  hI  hK)

theorem w_dv_unk {CALL : sx_Ca} {sL : Nat} {sx : Nat → Int32} {Q : Nat → sx_L → sx_S → Prop} {R : Int → sx_S → Prop} (h_dv_tot : ∀ (s : sx_S) (K : Int → sx_S → Prop), cx_I s → (∀ z : Int, (z = s.1 22 2) → K z s) → CALL 52 [.inr (.inl 22)] s K) {s : sx_S} (hI : cx_I s) (hK : ∀ z : Int, (z = s.1 22 2) → R z s) : sx_wp true sL sx eX1_unknowns CALL [] Q R 400 0 (sx_argsF 0 [.inr (.inl 18)]) [] s := by
  repeat' (first | (with_reducible intro _) | (refine And.intro ?_ ?_) | (refine hK _ ?_) | (refine h_dv_tot _ _ ?_  ?_))
  all_goals (try dsimp only)
  repeat' (first | (with_reducible assumption) | ((with_reducible (change cx_I (sx_uf _ _ _ _, _))); refine cx_I_uf rfl rfl ?_ ?_ ?_) | ((with_reducible (change cx_I (_, sx_ua _ _ _ _, _))); refine cx_I_ua rfl rfl ?_ ?_ ?_) | ((with_reducible (change cx_I (_, sx_ua _ 16 _ _, _))); refine cx_I_ari ?_ ?_ ?_) | ((with_reducible (change cx_I (sx_uf _ 11 6 _, _))); refine cx_I_ufA rfl ?_ ?_ ?_ ?_) | (with_reducible exact cx_F_refl _ _) | ((with_reducible (change cx_F _ _ (sx_uf _ _ _ _, _))); refine cx_F_uf rfl ?_) | ((with_reducible (change cx_F _ _ (_, sx_ua _ _ _ _, _))); refine cx_F_ua rfl ?_) | ((with_reducible (change cx_I (_, sx_cpy _ _ _ _ _ _, _))); refine cx_I_cpy rfl rfl rfl (by decide) ?_) | ((with_reducible (change cx_F _ _ (_, sx_cpy _ _ _ _ _ _, _))); refine cx_F_cpy rfl ?_) | ((with_reducible (change cx_F _ _ _)); refine cx_F_step (by assumption) rfl ?_) | fail)
  all_goals (try dsimp only at *)
  all_goals (first | trivial | omega | rfl | (intros; omega) | (intros; rfl) | skip)

theorem c_dv_unk {sL : Nat} {sx : Nat → Int32} (hsL : sL ≤ 3072) (d : Nat) (hd : 3 ≤ d) : ∀ (s : sx_S) (K : Int → sx_S → Prop), cx_I s → (∀ z : Int, (z = s.1 22 2) → K z s) → sx_C sL sx d 15 [.inr (.inl 18)] s K := by
  intro  s K hI  hK
  obtain ⟨d, rfl⟩ : ∃ e, d = e + 2 := ⟨d - 2, by omega⟩
  exact sx_meth (wr := true) (n := 400) hsL (e := eX1_unknowns) rfl (w_dv_unk (Q := fun _ _ _ => False) (c_dv_tot hsL (d + 1) (by omega)) hI  hK)

theorem w_dv_eqs {CALL : sx_Ca} {sL : Nat} {sx : Nat → Int32} {Q : Nat → sx_L → sx_S → Prop} {R : Int → sx_S → Prop} {s : sx_S} (hI : cx_I s) (hK : ∀ z : Int, (z = s.1 18 10) → R z s) : sx_wp true sL sx eX1_equations CALL [] Q R 400 0 (sx_argsF 0 [.inr (.inl 18)]) [] s := by
  repeat' (first | (with_reducible (rintro _ rfl)) | (with_reducible intro _) | (refine And.intro ?_ ?_) | (refine hK _ ?_))
  all_goals (try dsimp only)
  repeat' (first | (with_reducible assumption) | ((with_reducible (change cx_I (sx_uf _ _ _ _, _))); refine cx_I_uf rfl rfl ?_ ?_ ?_) | ((with_reducible (change cx_I (_, sx_ua _ _ _ _, _))); refine cx_I_ua rfl rfl ?_ ?_ ?_) | ((with_reducible (change cx_I (_, sx_ua _ 16 _ _, _))); refine cx_I_ari ?_ ?_ ?_) | ((with_reducible (change cx_I (sx_uf _ 11 6 _, _))); refine cx_I_ufA rfl ?_ ?_ ?_ ?_) | (with_reducible exact cx_F_refl _ _) | ((with_reducible (change cx_F _ _ (sx_uf _ _ _ _, _))); refine cx_F_uf rfl ?_) | ((with_reducible (change cx_F _ _ (_, sx_ua _ _ _ _, _))); refine cx_F_ua rfl ?_) | ((with_reducible (change cx_I (_, sx_cpy _ _ _ _ _ _, _))); refine cx_I_cpy rfl rfl rfl (by decide) ?_) | ((with_reducible (change cx_F _ _ (_, sx_cpy _ _ _ _ _ _, _))); refine cx_F_cpy rfl ?_) | ((with_reducible (change cx_F _ _ _)); refine cx_F_step (by assumption) rfl ?_) | fail)
  all_goals (try dsimp only at *)
  all_goals (first | trivial | omega | rfl | (intros; omega) | (intros; rfl) | skip)

theorem c_dv_eqs {sL : Nat} {sx : Nat → Int32} (hsL : sL ≤ 3072) (d : Nat) (hd : 2 ≤ d) : ∀ (s : sx_S) (K : Int → sx_S → Prop), cx_I s → (∀ z : Int, (z = s.1 18 10) → K z s) → sx_C sL sx d 16 [.inr (.inl 18)] s K := by
  intro  s K hI  hK
  obtain ⟨d, rfl⟩ : ∃ e, d = e + 2 := ⟨d - 2, by omega⟩
  exact sx_meth (wr := true) (n := 400) hsL (e := eX1_equations) rfl (w_dv_eqs (Q := fun _ _ _ => False)  hI  hK)

theorem w_dv_cl {CALL : sx_Ca} {sL : Nat} {sx : Nat → Int32} {Q : Nat → sx_L → sx_S → Prop} {R : Int → sx_S → Prop} (h_fil34 : ∀ (v : Int) (s : sx_S) (K : Int → sx_S → Prop), cx_I s → (-2147483648 ≤ v ∧ v ≤ 2147483647) → (∀ t, cx_I t → cx_F [(34, 34)] s t → t.1 = s.1 → (∀ j : Nat, j < 32 → t.2.1 34 j = v) → K 0 t) → CALL 219 [.inr (.inl 34), .inl v] s K) (h_fil35 : ∀ (v : Int) (s : sx_S) (K : Int → sx_S → Prop), cx_I s → (0 ≤ v ∧ v ≤ 4) → (∀ t, cx_I t → cx_F [(35, 35)] s t → t.1 = s.1 → (∀ j : Nat, j < 32 → t.2.1 35 j = v) → K 0 t) → CALL 219 [.inr (.inl 35), .inl v] s K) {s : sx_S} {a0 : Int} (hI : cx_I s) (p0 : 0 ≤ a0 ∧ a0 ≤ 32) (hK : ∀ t, cx_I t → cx_F [(33, 35)] s t → t.1 33 6 = a0 → (∀ i : Nat, i < 32 → t.2.1 34 i = -1) → (∀ i : Nat, i < 32 → t.2.1 35 i = 0) → R 0 t) : sx_wp true sL sx eX0_clear CALL [] Q R 400 0 (sx_argsF 0 [.inr (.inl 33), .inl a0]) [] s := by
  have iA : cx_I (sx_uf s.1 33 6 a0, s.2) := cx_I_uf rfl rfl hI (by omega) (by omega)
  refine h_fil34 (-1) (sx_uf s.1 33 6 a0, s.2) _ iA (by omega) (fun t1 i1 f1 e1 g1 => ?_)
  refine h_fil35 0 t1 _ i1 (by omega) (fun t2 i2 f2 e2 g2 => ?_)
  refine hK t2 i2 (cx_F_step f2 rfl (cx_F_step f1 rfl (cx_F_uf rfl (cx_F_refl _ _)))) ?_ (fun i hi => ?_) g2
  · rw [e2, e1]
    show sx_uf s.1 33 6 a0 33 6 = a0
    exact px_us _ _ _ _
  · rw [(f2.same 34 rfl).2]
    exact g1 i hi
theorem c_dv_cl {sL : Nat} {sx : Nat → Int32} (hsL : sL ≤ 3072) (d : Nat) (hd : 3 ≤ d) : ∀ (a0 : Int) (s : sx_S) (K : Int → sx_S → Prop), cx_I s → (0 ≤ a0 ∧ a0 ≤ 32) → (∀ t, cx_I t → cx_F [(33, 35)] s t → t.1 33 6 = a0 → (∀ i : Nat, i < 32 → t.2.1 34 i = -1) → (∀ i : Nat, i < 32 → t.2.1 35 i = 0) → K 0 t) → sx_C sL sx d 1 [.inr (.inl 33), .inl a0] s K := by
  intro a0 s K hI p0 hK
  obtain ⟨d, rfl⟩ : ∃ e, d = e + 2 := ⟨d - 2, by omega⟩
  exact sx_meth (wr := true) (n := 400) hsL (e := eX0_clear) rfl (w_dv_cl (Q := fun _ _ _ => False) (c_dv_fill34 hsL (d + 1) (by omega)) (c_dv_fill35 hsL (d + 1) (by omega)) hI p0 hK)
theorem w_dv_rt {CALL : sx_Ca} {sL : Nat} {sx : Nat → Int32} {Q : Nat → sx_L → sx_S → Prop} {R : Int → sx_S → Prop} {s : sx_S} {a0 a1 : Int} (hI : cx_I s) (p0 : 0 ≤ a0 ∧ a0 < s.1 18 10) (p1 : 0 ≤ a1 ∧ a1 ≤ 1) (hK : R (s.2.1 26 (2 * a0 + a1).toNat) s) : sx_wp true sL sx eX1_sideRoot CALL [] Q R 400 0 (sx_argsF 0 [.inr (.inl 18), .inl a0, .inl a1]) [] s := by
  have h18 := hI.fld 18 10 (by decide) rfl
  have zzm : sx_w true (2 * a0) = 2 * a0 := px_wid (by omega) (by omega)
  have zzp : sx_w true (2 * a0 + a1) = 2 * a0 + a1 := px_wid (by omega) (by omega)
  repeat' (first | (with_reducible (rintro _ rfl)) | (with_reducible intro _) | (refine And.intro ?_ ?_))
  all_goals (try dsimp only at *)
  all_goals (first | trivial | assumption | omega | (exfalso; omega) | (simp only [zzm, zzp] at *; first | assumption | omega) | (simp only [zzm, zzp]; exact hK) | (rw [← zzm, ← zzp] at hK; exact hK) | skip)
theorem c_dv_rt {sL : Nat} {sx : Nat → Int32} (hsL : sL ≤ 3072) (d : Nat) (hd : 2 ≤ d) : ∀ (a0 a1 : Int) (s : sx_S) (K : Int → sx_S → Prop), cx_I s → (0 ≤ a0 ∧ a0 < s.1 18 10) → (0 ≤ a1 ∧ a1 ≤ 1) → K (s.2.1 26 (2 * a0 + a1).toNat) s → sx_C sL sx d 18 [.inr (.inl 18), .inl a0, .inl a1] s K := by
  intro a0 a1 s K hI p0 p1 hK
  obtain ⟨d, rfl⟩ : ∃ e, d = e + 2 := ⟨d - 2, by omega⟩
  exact sx_meth (wr := true) (n := 400) hsL (e := eX1_sideRoot) rfl (w_dv_rt (Q := fun _ _ _ => False) hI p0 p1 hK)
