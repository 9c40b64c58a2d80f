/-! ===== the reference: numbers and names are put ===== -/
theorem rf_dv {v t : Int} (ht : 1 ≤ t) (h : 9 < v.tdiv t) : t * 10 ≤ v := by
  have hv : 0 ≤ v := by
    by_cases c : 0 ≤ v
    · exact c
    · exfalso
      have e : v.tdiv t = -((-v).tdiv t) := by rw [← Int.neg_tdiv, Int.neg_neg]
      rw [Int.tdiv_eq_ediv_of_nonneg (a := -v) (by omega)] at e
      have := Int.ediv_nonneg (a := -v) (b := t) (by omega) (by omega)
      omega
  rw [Int.tdiv_eq_ediv_of_nonneg hv] at h
  have h1 := Int.mul_ediv_self_le (x := v) (k := t) (by omega)
  have h2 : t * 10 ≤ t * (v / t) := Int.mul_le_mul_of_nonneg_left (by omega) (by omega)
  omega
theorem rf_rm (q : Int) : -9 ≤ q - q.tdiv 10 * 10 ∧ q - q.tdiv 10 * 10 ≤ 9 := by
  have e : q - q.tdiv 10 * 10 = q.tmod 10 := by
    have := Int.tmod_add_mul_tdiv q 10
    omega
  rw [e]
  have h1 := Int.tmod_lt_of_pos q (b := 10) (by decide)
  have h2 := Int.lt_tmod_of_pos q (b := 10) (by decide)
  omega
theorem rf_d10 {t : Int} (h : 0 ≤ t) : t.tdiv 10 = t / 10 := Int.tdiv_eq_ediv_of_nonneg h
theorem rf_dvin {v t : Int} (hv : -2147483648 ≤ v ∧ v ≤ 2147483647) (ht : 1 ≤ t) : -2147483648 ≤ v.tdiv t ∧ v.tdiv t ≤ 2147483647 := by
  by_cases c : 0 ≤ v
  · rw [Int.tdiv_eq_ediv_of_nonneg c]
    have := Int.ediv_nonneg (a := v) (b := t) c (by omega)
    have := Int.ediv_le_self (a := v) t c
    omega
  · have e : v.tdiv t = -((-v).tdiv t) := by rw [← Int.neg_tdiv, Int.neg_neg]
    rw [Int.tdiv_eq_ediv_of_nonneg (a := -v) (by omega)] at e
    have := Int.ediv_nonneg (a := -v) (b := t) (by omega) (by omega)
    have := Int.ediv_le_self (a := -v) t (by omega)
    omega
theorem w_r_newMeta {CALL : sx_Ca} {sL : Nat} {sx : Nat → Int32} {Q : Nat → sx_L → sx_S → Prop} {R : Int → sx_S → Prop} {s : sx_S} (hI : cx_I s) (p0 : (s.1 66 61 ≤ 2999)) (hK : ∀ (z : Int) (t : sx_S), cx_I t → cx_F [(66, 66), (108, 109), (111, 111), (124, 124)] s t → (z = s.1 66 61) → (t.1 66 61 = s.1 66 61 + 1) → (rf_f [61] s t) → (rf_ag 108 111 (s.1 66 61) s t) → (t.2.1 108 z.toNat = 0) → (t.2.1 109 z.toNat = s.1 66 64) → (t.2.1 111 z.toNat = 0) → R z t) : sx_wp true sL sx eX12_newMeta CALL [] Q R 400 0 (sx_argsF 0 [.inr (.inl 66)]) [] s := by
  repeat' (first | (with_reducible intro _) | (refine And.intro ?_ ?_) | (refine hK _ _ ?_ ?_ ?_ ?_ ?_ ?_ ?_ ?_ ?_))
  all_goals (try dsimp only)
  repeat' (first | (with_reducible assumption) | ((with_reducible (change cx_I (sx_uf _ _ _ _, _))); refine cx_I_uf rfl rfl ?_ ?_ ?_) | ((with_reducible (change cx_I (_, sx_ua _ _ _ _, _))); refine cx_I_ua rfl rfl ?_ ?_ ?_) | ((with_reducible (change cx_I (_, sx_ua _ 16 _ _, _))); refine cx_I_ari ?_ ?_ ?_) | ((with_reducible (change cx_I (sx_uf _ 11 6 _, _))); refine cx_I_ufA rfl ?_ ?_ ?_ ?_) | (with_reducible exact cx_F_refl _ _) | ((with_reducible (change cx_F _ _ (sx_uf _ _ _ _, _))); refine cx_F_uf rfl ?_) | ((with_reducible (change cx_F _ _ (_, sx_ua _ _ _ _, _))); refine cx_F_ua rfl ?_) | ((with_reducible (change cx_I (_, sx_cpy _ _ _ _ _ _, _))); refine cx_I_cpy rfl rfl rfl (by decide) ?_) | ((with_reducible (change cx_F _ _ (_, sx_cpy _ _ _ _ _ _, _))); refine cx_F_cpy rfl ?_) | ((with_reducible (change cx_F _ _ _)); refine cx_F_step (by assumption) rfl ?_) | ((with_reducible (change rf_f _ _ (sx_uf _ 66 _ _, _))); refine rf_f_uf rfl ?_) | ((with_reducible (change rf_f _ _ _)); exact (fun _ _ => rfl)) | ((with_reducible (change rf_f _ _ (_, sx_ua _ _ _ _, _))); refine rf_f_ua ?_) | ((with_reducible (change rf_f _ _ _)); assumption) | ((with_reducible (change rf_f _ _ _)); refine rf_f_step (by assumption) rfl ?_) | ((with_reducible (change rf_f _ _ _)); refine rf_f_F (by assumption) rfl ?_) | ((with_reducible (change rf_A _ (sx_uf _ _ _ _, _))); refine rf_A_uf ?_) | ((with_reducible (change rf_A _ (_, sx_ua _ _ _ _, _))); refine rf_A_ua rfl ?_) | ((with_reducible (change rf_A _ _)); assumption) | ((with_reducible (change rf_A _ _)); refine rf_A_F (by assumption) rfl ?_) | ((with_reducible (change rf_ag _ _ _ _ _)); assumption) | ((with_reducible (change rf_ag _ _ _ _ _)); exact rf_ag_refl _ _ _ _) | ((with_reducible (change rf_ag _ _ _ _ (sx_uf _ _ _ _, _))); refine rf_ag_uf ?_) | ((with_reducible (change rf_ag _ _ _ _ (_, sx_ua _ _ _ _, _))); refine rf_ag_uo rfl ?_) | ((with_reducible (change rf_ag _ _ _ _ (_, sx_ua _ _ _ _, _))); refine rf_ag_ua (by (first | omega | (dsimp only at *; omega) | (simp only [sx_uf_if, sx_ua_if, sx_w_t, true_and, and_true, and_self, and_false, false_and, if_true, if_false, reduceIte] at *; omega) | rfl)) (by (first | omega | (dsimp only at *; omega) | (simp only [sx_uf_if, sx_ua_if, sx_w_t, true_and, and_true, and_self, and_false, false_and, if_true, if_false, reduceIte] at *; omega) | rfl)) ?_) | ((with_reducible (change rf_ag _ _ _ _ _)); refine rf_ag_F (by assumption) rfl ?_) | ((with_reducible (change rf_ag _ _ _ _ _)); refine rf_ag_trans (by assumption) (by (first | omega | (dsimp only at *; omega) | (simp only [sx_uf_if, sx_ua_if, sx_w_t, true_and, and_true, and_self, and_false, false_and, if_true, if_false, reduceIte] at *; omega) | rfl)) ?_) | fail)
  repeat' (first | (with_reducible assumption) | ((with_reducible (change cx_I (sx_uf _ _ _ _, _))); refine cx_I_uf rfl rfl ?_ ?_ ?_) | ((with_reducible (change cx_I (_, sx_ua _ _ _ _, _))); refine cx_I_ua rfl rfl ?_ ?_ ?_) | ((with_reducible (change cx_I (_, sx_ua _ 16 _ _, _))); refine cx_I_ari ?_ ?_ ?_) | ((with_reducible (change cx_I (sx_uf _ 11 6 _, _))); refine cx_I_ufA rfl ?_ ?_ ?_ ?_) | (with_reducible exact cx_F_refl _ _) | ((with_reducible (change cx_F _ _ (sx_uf _ _ _ _, _))); refine cx_F_uf rfl ?_) | ((with_reducible (change cx_F _ _ (_, sx_ua _ _ _ _, _))); refine cx_F_ua rfl ?_) | ((with_reducible (change cx_I (_, sx_cpy _ _ _ _ _ _, _))); refine cx_I_cpy rfl rfl rfl (by decide) ?_) | ((with_reducible (change cx_F _ _ (_, sx_cpy _ _ _ _ _ _, _))); refine cx_F_cpy rfl ?_) | ((with_reducible (change cx_F _ _ _)); refine cx_F_step (by assumption) rfl ?_) | ((with_reducible (change rf_f _ _ (sx_uf _ 66 _ _, _))); refine rf_f_uf rfl ?_) | ((with_reducible (change rf_f _ _ _)); exact (fun _ _ => rfl)) | ((with_reducible (change rf_f _ _ (_, sx_ua _ _ _ _, _))); refine rf_f_ua ?_) | ((with_reducible (change rf_f _ _ _)); assumption) | ((with_reducible (change rf_f _ _ _)); refine rf_f_step (by assumption) rfl ?_) | ((with_reducible (change rf_f _ _ _)); refine rf_f_F (by assumption) rfl ?_) | ((with_reducible (change rf_A _ (sx_uf _ _ _ _, _))); refine rf_A_uf ?_) | ((with_reducible (change rf_A _ (_, sx_ua _ _ _ _, _))); refine rf_A_ua rfl ?_) | ((with_reducible (change rf_A _ _)); assumption) | ((with_reducible (change rf_A _ _)); refine rf_A_F (by assumption) rfl ?_) | fail)
  all_goals (first | trivial | omega | (dsimp only at *; omega) | (simp only [sx_uf_if, sx_ua_if, sx_w_t, true_and, and_true, and_self, and_false, false_and, if_true, if_false, reduceIte] at *; omega) | (subst_vars; omega) | (subst_vars; simp only [sx_uf_if, sx_ua_if, sx_w_t, true_and, and_true, and_self, and_false, false_and, if_true, if_false, reduceIte] at *; omega) | (subst_vars; rfl) | (subst_vars; decide) | (simp only [sx_uf_if, sx_ua_if, sx_w_t, true_and, and_true, and_self, and_false, false_and, if_true, if_false, reduceIte]; done) | (subst_vars; simp only [sx_uf_if, sx_ua_if, sx_w_t, true_and, and_true, and_self, and_false, false_and, if_true, if_false, reduceIte]; done))

theorem c_r_newMeta {sL : Nat} {sx : Nat → Int32} (hsL : sL ≤ 3072) (d : Nat) (hd : 2 ≤ d) : ∀ (s : sx_S) (K : Int → sx_S → Prop), cx_I s → (s.1 66 61 ≤ 2999) → (∀ (z : Int) (t : sx_S), cx_I t → cx_F [(66, 66), (108, 109), (111, 111), (124, 124)] s t → (z = s.1 66 61) → (t.1 66 61 = s.1 66 61 + 1) → (rf_f [61] s t) → (rf_ag 108 111 (s.1 66 61) s t) → (t.2.1 108 z.toNat = 0) → (t.2.1 109 z.toNat = s.1 66 64) → (t.2.1 111 z.toNat = 0) → K z t) → sx_C sL sx d 189 [.inr (.inl 66)] s K := by
  intro  s K hI p0 hK
  obtain ⟨d, rfl⟩ : ∃ e, d = e + 2 := ⟨d - 2, by omega⟩
  exact sx_meth (wr := true) (n := 400) hsL (e := eX12_newMeta) rfl (w_r_newMeta (Q := fun _ _ _ => False)  hI p0 hK)
