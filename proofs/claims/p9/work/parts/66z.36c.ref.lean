section
/-! ===== the reference's declared names, exactly ===== -/
theorem w_q_constant {CALL : sx_Ca} {b : Nat → Int} {n : Int} {m : Int} {C : List (Int × qx_T)} {sL : Nat} {sx : Nat → Int32} {Q : Nat → sx_L → sx_S → Prop} {R : Int → sx_S → Prop} (h_q_sn : ∀ (a0 a1 : Int) (s : sx_S) (K : Int → sx_S → Prop), cx_I s → (0 ≤ a0 ∧ a0 ≤ 241) → (0 ≤ a1 ∧ a1 ≤ 241) → (a0 < m ∧ a1 < m) → (px_TN b n m s) → (∀ z : Int, (z = 0 ∨ z = 1) → (z ≠ 0 → px_SN b n a0 a1) → (z = 0 → ¬ px_SN b n a0 a1) → K z s) → CALL 157 [.inr (.inl 66), .inl a0, .inl a1] s K) {s : sx_S} {a0 : Int} (hI : cx_I s) (p0 : (0 ≤ a0 ∧ a0 ≤ 241)) (p1 : (px_TN b n m s)) (p2 : (a0 < m ∧ m ≤ 242)) (p3 : (px_DL 95 96 42 m s C)) (hK : ∀ z : Int, (-1 ≤ z ∧ z ≤ 7) → (z = -1 → px_nv (px_SN b n) C a0) → (z ≠ -1 → (0 ≤ z ∧ z < s.1 66 42) ∧ ∃ x, px_cf (px_SN b n) C a0 z.toNat x) → R z s) (hQ2 : ∀ (x1 x2 : Int) (_ : True), (0 ≤ x1 ∧ x1 ≤ 241) → (0 ≤ x2 ∧ x2 ≤ 8) → (x1 = a0) → (x2 ≤ s.1 66 42) → (px_n1 (px_SN b n) C a0 x2) → Q 2 [(0, .inr (.inl 66)), (1, .inl x1), (2, .inl x2)] s) : sx_wp true sL sx eX12_constant CALL [(2, [0, 1, 2])] Q R 400 0 (sx_argsF 0 [.inr (.inl 66), .inl a0]) [] s := by
  have zzl := (p3 trivial).1
  repeat' (first | (with_reducible intro _) | (refine And.intro ?_ ?_) | (refine hK _ ?_ ?_ ?_) | (refine h_q_sn _ _ _ _ ?_ ?_ ?_ ?_ ?_ ?_) | (refine hQ2 _ _ trivial ?_ ?_ ?_ ?_ ?_))
  all_goals (try dsimp only)
  repeat' (first | (with_reducible assumption) | ((with_reducible (change cx_I (sx_uf _ _ _ _, _))); refine cx_I_uf rfl rfl ?_ ?_ ?_) | ((with_reducible (change cx_I (_, sx_ua _ _ _ _, _))); refine cx_I_ua rfl rfl ?_ ?_ ?_) | ((with_reducible (change cx_I (_, sx_ua _ 16 _ _, _))); refine cx_I_ari ?_ ?_ ?_) | ((with_reducible (change cx_I (sx_uf _ 11 6 _, _))); refine cx_I_ufA rfl ?_ ?_ ?_ ?_) | (with_reducible exact cx_F_refl _ _) | ((with_reducible (change cx_F _ _ (sx_uf _ _ _ _, _))); refine cx_F_uf rfl ?_) | ((with_reducible (change cx_F _ _ (_, sx_ua _ _ _ _, _))); refine cx_F_ua rfl ?_) | ((with_reducible (change cx_I (_, sx_cpy _ _ _ _ _ _, _))); refine cx_I_cpy rfl rfl rfl (by decide) ?_) | ((with_reducible (change cx_F _ _ (_, sx_cpy _ _ _ _ _ _, _))); refine cx_F_cpy rfl ?_) | ((with_reducible (change cx_F _ _ _)); refine cx_F_step (by assumption) rfl ?_) | ((with_reducible (change rf_f _ _ (sx_uf _ 66 _ _, _))); refine rf_f_uf rfl ?_) | ((with_reducible (change rf_f _ _ _)); exact (fun _ _ => rfl)) | ((with_reducible (change rf_f _ _ (_, sx_ua _ _ _ _, _))); refine rf_f_ua ?_) | ((with_reducible (change rf_f _ _ _)); assumption) | ((with_reducible (change rf_f _ _ _)); refine rf_f_step (by assumption) rfl ?_) | ((with_reducible (change rf_f _ _ _)); refine rf_f_F (by assumption) rfl ?_) | ((with_reducible (change px_g1 _ _ _ (_, sx_ua _ _ _ _, _))); refine px_g1_ua rfl (by omega) ?_) | ((with_reducible (change px_g1 _ _ _ _)); exact px_g1_refl _ _ _) | ((with_reducible (change px_g1 _ _ _ _)); assumption) | ((with_reducible (change sx_ua _ _ _ _ _ = _)); refine px_a_ua rfl ?_) | ((with_reducible (change px_RT _ _ _ (sx_uf _ _ _ _, _))); refine px_RT_uf ?_) | ((with_reducible (change px_RT _ _ _ (_, sx_ua _ 69 _ _, _))); refine px_RT_up (by assumption) (by assumption) (by assumption) (by assumption) (by assumption) (by omega) (px_bl_st (by assumption) (by omega)) (by omega)) | ((with_reducible (change px_RT _ _ _ (_, sx_ua _ _ _ _, _))); refine px_RT_ua rfl ?_) | ((with_reducible (change px_RT _ _ 0 _)); exact px_RT_0) | ((with_reducible (change px_RT _ _ _ _)); assumption) | ((with_reducible (change px_RT _ _ _ _)); refine px_RT_F (by assumption) rfl rfl rfl ?_) | ((with_reducible (change px_REx _ _ _)); exact px_REx_mk (by assumption) (by assumption) (by omega) (by omega)) | ((with_reducible (change (_ : sx_S).1 _ _ = _)); refine px_f_F (by assumption) rfl ?_) | ((with_reducible (change (_ : sx_S).2.1 _ = _)); refine px_a_F (by assumption) rfl ?_) | ((with_reducible (change sx_uf _ _ _ _ _ _ = _)); refine px_f_uf rfl ?_) | ((with_reducible (change px_DT _ _ _ (sx_uf _ _ _ _, _))); refine px_DT_uf ?_) | ((with_reducible (change px_DT _ _ _ _)); assumption) | ((with_reducible (change px_DT _ _ _ _)); refine px_DT_F (by assumption) rfl rfl rfl ?_) | ((with_reducible (change px_TK _ _ (sx_uf _ _ _ _, _))); refine px_TK_uf rfl ?_) | ((with_reducible (change px_TK _ _ _)); assumption) | ((with_reducible (change px_TK _ _ _)); refine px_TK_F (by assumption) rfl rfl rfl rfl ?_) | ((with_reducible (change rf_A _ (sx_uf _ _ _ _, _))); refine rf_A_uf ?_) | ((with_reducible (change rf_A _ (_, sx_ua _ _ _ _, _))); refine rf_A_ua rfl ?_) | ((with_reducible (change rf_A _ _)); assumption) | ((with_reducible (change rf_A _ _)); refine rf_A_F (by assumption) rfl ?_) | ((with_reducible (change px_RQ _ _ (sx_uf _ _ _ _, _))); refine px_RQ_uf ?_) | ((with_reducible (change px_RQ _ _ (_, sx_ua _ _ _ _, _))); refine px_RQ_ua rfl ?_) | ((with_reducible (change px_RQ _ _ _)); assumption) | ((with_reducible (change px_RQ _ _ _)); refine px_RQ_F (by assumption) rfl ?_) | fail)
  all_goals (first | trivial | omega | (dsimp only at *; omega) | (obtain ⟨zze, zz1, zz2, zz3, zz4⟩ := zzt (by omega) (by omega); subst_vars; omega) | (exact px_n1_0 (by omega)) | (exact px_n1_nv (by assumption) (by omega)) | (refine px_cf_x (by assumption) (by omega) (by omega) (fun zze zz1 => ?_); obtain ⟨zze', zz1', zz2, zz3, zz4⟩ := zzt (by omega) (by omega); rw [zz1] at zz1'; cases zz1'; subst_vars; rw [← zz2]; first | assumption | (apply_assumption; omega)) | (refine px_n1_up (by assumption) (by omega) (by first | omega | (simp only [sx_uf_if, sx_ua_if, sx_w_t, true_and, and_true, and_self, and_false, false_and, if_true, if_false, reduceIte] at *; omega)) (fun zze zz1 => ?_); obtain ⟨zze', zz1', zz2, zz3, zz4⟩ := zzt (by omega) (by omega); rw [zz1] at zz1'; cases zz1'; subst_vars; rw [← zz2]; first | assumption | (apply_assumption; omega)) | (simp only [sx_uf_if, sx_ua_if, sx_w_t, true_and, and_true, and_self, and_false, false_and, if_true, if_false, reduceIte] at *; omega) | (subst_vars; simp only [sx_uf_if, sx_ua_if, sx_w_t, true_and, and_true, and_self, and_false, false_and, if_true, if_false, reduceIte] at *; omega) | skip)

theorem w_q_constant_2 {CALL : sx_Ca} {b : Nat → Int} {n : Int} {m : Int} {C : List (Int × qx_T)} {sL : Nat} {sx : Nat → Int32} {Q : Nat → sx_L → sx_S → Prop} {R : Int → sx_S → Prop} (h_q_sn : ∀ (a0 a1 : Int) (s : sx_S) (K : Int → sx_S → Prop), cx_I s → (0 ≤ a0 ∧ a0 ≤ 241) → (0 ≤ a1 ∧ a1 ≤ 241) → (a0 < m ∧ a1 < m) → (px_TN b n m s) → (∀ z : Int, (z = 0 ∨ z = 1) → (z ≠ 0 → px_SN b n a0 a1) → (z = 0 → ¬ px_SN b n a0 a1) → K z s) → CALL 157 [.inr (.inl 66), .inl a0, .inl a1] s K) {s : sx_S} {a0 : Int} (hI : cx_I s) (p0 : (0 ≤ a0 ∧ a0 ≤ 241)) (p1 : (px_TN b n m s)) (p2 : (a0 < m ∧ m ≤ 242)) (p3 : (px_DL 95 96 42 m s C)) (hK : ∀ z : Int, (-1 ≤ z ∧ z ≤ 7) → (z = -1 → px_nv (px_SN b n) C a0) → (z ≠ -1 → (0 ≤ z ∧ z < s.1 66 42) ∧ ∃ x, px_cf (px_SN b n) C a0 z.toNat x) → R z s) {x1 x2 : Int} {mm : Nat} (hm : mm = 17179869184 + (2147483647 - x2).toNat) (i0 : (0 ≤ x1 ∧ x1 ≤ 241)) (i1 : (0 ≤ x2 ∧ x2 ≤ 8)) (i2 : (x1 = a0)) (i3 : (x2 ≤ s.1 66 42)) (i4 : (px_n1 (px_SN b n) C a0 x2)) (hQ2 : ∀ (x1 x2 : Int) (_ : True), (0 ≤ x1 ∧ x1 ≤ 241) → (0 ≤ x2 ∧ x2 ≤ 8) → (x1 = a0) → (x2 ≤ s.1 66 42) → (px_n1 (px_SN b n) C a0 x2) → (17179869184 + (2147483647 - x2).toNat < mm) → Q 2 [(0, .inr (.inl 66)), (1, .inl x1), (2, .inl x2)] s) : sx_wp true sL sx eX12_constant CALL [(2, [0, 1, 2])] Q R 400 2 [(0, .inr (.inl 66)), (1, .inl x1), (2, .inl x2)] [] s := by
  have zzl := (p3 trivial).1
  have zzt := px_DL_tok p3 (k := x2)
  repeat' (first | (with_reducible intro _) | (refine And.intro ?_ ?_) | (refine hK _ ?_ ?_ ?_) | (refine h_q_sn _ _ _ _ ?_ ?_ ?_ ?_ ?_ ?_) | (refine hQ2 _ _ trivial ?_ ?_ ?_ ?_ ?_ ?_))
  all_goals (try dsimp only)
  repeat' (first | (with_reducible assumption) | ((with_reducible (change cx_I (sx_uf _ _ _ _, _))); refine cx_I_uf rfl rfl ?_ ?_ ?_) | ((with_reducible (change cx_I (_, sx_ua _ _ _ _, _))); refine cx_I_ua rfl rfl ?_ ?_ ?_) | ((with_reducible (change cx_I (_, sx_ua _ 16 _ _, _))); refine cx_I_ari ?_ ?_ ?_) | ((with_reducible (change cx_I (sx_uf _ 11 6 _, _))); refine cx_I_ufA rfl ?_ ?_ ?_ ?_) | (with_reducible exact cx_F_refl _ _) | ((with_reducible (change cx_F _ _ (sx_uf _ _ _ _, _))); refine cx_F_uf rfl ?_) | ((with_reducible (change cx_F _ _ (_, sx_ua _ _ _ _, _))); refine cx_F_ua rfl ?_) | ((with_reducible (change cx_I (_, sx_cpy _ _ _ _ _ _, _))); refine cx_I_cpy rfl rfl rfl (by decide) ?_) | ((with_reducible (change cx_F _ _ (_, sx_cpy _ _ _ _ _ _, _))); refine cx_F_cpy rfl ?_) | ((with_reducible (change cx_F _ _ _)); refine cx_F_step (by assumption) rfl ?_) | ((with_reducible (change rf_f _ _ (sx_uf _ 66 _ _, _))); refine rf_f_uf rfl ?_) | ((with_reducible (change rf_f _ _ _)); exact (fun _ _ => rfl)) | ((with_reducible (change rf_f _ _ (_, sx_ua _ _ _ _, _))); refine rf_f_ua ?_) | ((with_reducible (change rf_f _ _ _)); assumption) | ((with_reducible (change rf_f _ _ _)); refine rf_f_step (by assumption) rfl ?_) | ((with_reducible (change rf_f _ _ _)); refine rf_f_F (by assumption) rfl ?_) | ((with_reducible (change px_g1 _ _ _ (_, sx_ua _ _ _ _, _))); refine px_g1_ua rfl (by omega) ?_) | ((with_reducible (change px_g1 _ _ _ _)); exact px_g1_refl _ _ _) | ((with_reducible (change px_g1 _ _ _ _)); assumption) | ((with_reducible (change sx_ua _ _ _ _ _ = _)); refine px_a_ua rfl ?_) | ((with_reducible (change px_RT _ _ _ (sx_uf _ _ _ _, _))); refine px_RT_uf ?_) | ((with_reducible (change px_RT _ _ _ (_, sx_ua _ 69 _ _, _))); refine px_RT_up (by assumption) (by assumption) (by assumption) (by assumption) (by assumption) (by omega) (px_bl_st (by assumption) (by omega)) (by omega)) | ((with_reducible (change px_RT _ _ _ (_, sx_ua _ _ _ _, _))); refine px_RT_ua rfl ?_) | ((with_reducible (change px_RT _ _ 0 _)); exact px_RT_0) | ((with_reducible (change px_RT _ _ _ _)); assumption) | ((with_reducible (change px_RT _ _ _ _)); refine px_RT_F (by assumption) rfl rfl rfl ?_) | ((with_reducible (change px_REx _ _ _)); exact px_REx_mk (by assumption) (by assumption) (by omega) (by omega)) | ((with_reducible (change (_ : sx_S).1 _ _ = _)); refine px_f_F (by assumption) rfl ?_) | ((with_reducible (change (_ : sx_S).2.1 _ = _)); refine px_a_F (by assumption) rfl ?_) | ((with_reducible (change sx_uf _ _ _ _ _ _ = _)); refine px_f_uf rfl ?_) | ((with_reducible (change px_DT _ _ _ (sx_uf _ _ _ _, _))); refine px_DT_uf ?_) | ((with_reducible (change px_DT _ _ _ _)); assumption) | ((with_reducible (change px_DT _ _ _ _)); refine px_DT_F (by assumption) rfl rfl rfl ?_) | ((with_reducible (change px_TK _ _ (sx_uf _ _ _ _, _))); refine px_TK_uf rfl ?_) | ((with_reducible (change px_TK _ _ _)); assumption) | ((with_reducible (change px_TK _ _ _)); refine px_TK_F (by assumption) rfl rfl rfl rfl ?_) | ((with_reducible (change rf_A _ (sx_uf _ _ _ _, _))); refine rf_A_uf ?_) | ((with_reducible (change rf_A _ (_, sx_ua _ _ _ _, _))); refine rf_A_ua rfl ?_) | ((with_reducible (change rf_A _ _)); assumption) | ((with_reducible (change rf_A _ _)); refine rf_A_F (by assumption) rfl ?_) | ((with_reducible (change px_RQ _ _ (sx_uf _ _ _ _, _))); refine px_RQ_uf ?_) | ((with_reducible (change px_RQ _ _ (_, sx_ua _ _ _ _, _))); refine px_RQ_ua rfl ?_) | ((with_reducible (change px_RQ _ _ _)); assumption) | ((with_reducible (change px_RQ _ _ _)); refine px_RQ_F (by assumption) rfl ?_) | fail)
  all_goals (first | trivial | omega | (dsimp only at *; omega) | (obtain ⟨zze, zz1, zz2, zz3, zz4⟩ := zzt (by omega) (by omega); subst_vars; omega) | (exact px_n1_0 (by omega)) | (exact px_n1_nv (by assumption) (by omega)) | (refine px_cf_x (by assumption) (by omega) (by omega) (fun zze zz1 => ?_); obtain ⟨zze', zz1', zz2, zz3, zz4⟩ := zzt (by omega) (by omega); rw [zz1] at zz1'; cases zz1'; subst_vars; rw [← zz2]; first | assumption | (apply_assumption; omega)) | (refine px_n1_up (by assumption) (by omega) (by first | omega | (simp only [sx_uf_if, sx_ua_if, sx_w_t, true_and, and_true, and_self, and_false, false_and, if_true, if_false, reduceIte] at *; omega)) (fun zze zz1 => ?_); obtain ⟨zze', zz1', zz2, zz3, zz4⟩ := zzt (by omega) (by omega); rw [zz1] at zz1'; cases zz1'; subst_vars; rw [← zz2]; first | assumption | (apply_assumption; omega)) | (simp only [sx_uf_if, sx_ua_if, sx_w_t, true_and, and_true, and_self, and_false, false_and, if_true, if_false, reduceIte] at *; omega) | (subst_vars; simp only [sx_uf_if, sx_ua_if, sx_w_t, true_and, and_true, and_self, and_false, false_and, if_true, if_false, reduceIte] at *; omega) | skip)

theorem c_q_constant {sL : Nat} {sx : Nat → Int32} (hsL : sL ≤ 3072) (d : Nat) (hd : 4 ≤ d) (b : Nat → Int) (n : Int) (m : Int) (C : List (Int × qx_T)) : ∀ (a0 : Int) (s : sx_S) (K : Int → sx_S → Prop), cx_I s → (0 ≤ a0 ∧ a0 ≤ 241) → (px_TN b n m s) → (a0 < m ∧ m ≤ 242) → (px_DL 95 96 42 m s C) → (∀ z : Int, (-1 ≤ z ∧ z ≤ 7) → (z = -1 → px_nv (px_SN b n) C a0) → (z ≠ -1 → (0 ≤ z ∧ z < s.1 66 42) ∧ ∃ x, px_cf (px_SN b n) C a0 z.toNat x) → K z s) → sx_C sL sx d 168 [.inr (.inl 66), .inl a0] s K := by
  intro a0 s K hI p0 p1 p2 p3 hK
  obtain ⟨d, rfl⟩ : ∃ e, d = e + 2 := ⟨d - 2, by omega⟩
  refine sx_methL (wr := true) (n := 400) (n' := 400) (stop := [(2, [0, 1, 2])]) (fun nn pc ls u => (pc = 2 ∧ ∃ (x1 x2 : Int), ls = [(0, .inr (.inl 66)), (1, .inl x1), (2, .inl x2)] ∧ u = s ∧ (0 ≤ x1 ∧ x1 ≤ 241) ∧ (0 ≤ x2 ∧ x2 ≤ 8) ∧ (x1 = a0) ∧ (x2 ≤ s.1 66 42) ∧ (px_n1 (px_SN b n) C a0 x2) ∧ nn = 17179869184 + (2147483647 - x2).toNat)) hsL (e := eX12_constant) rfl ?_ ?_
  · exact w_q_constant (c_q_sn hsL (d + 1) (by omega) b n m) hI p0 p1 p2 p3 hK (fun x1 x2 _ i0 i1 i2 i3 i4 => ⟨_, ⟨rfl, x1, x2, rfl, rfl, i0, i1, i2, i3, i4, rfl⟩⟩)
  · rintro nn pc ls u (⟨rfl, x1, x2, rfl, rfl, i0, i1, i2, i3, i4, rfl⟩)
    · exact w_q_constant_2 (c_q_sn hsL (d + 1) (by omega) b n m) hI p0 p1 p2 p3 hK rfl i0 i1 i2 i3 i4 (fun x1 x2 _ i0 i1 i2 i3 i4 hm => ⟨_, hm, ⟨rfl, x1, x2, rfl, rfl, i0, i1, i2, i3, i4, rfl⟩⟩)

theorem w_q_unknown {CALL : sx_Ca} {b : Nat → Int} {n : Int} {m : Int} {M : List (Int × qx_T)} {sL : Nat} {sx : Nat → Int32} {Q : Nat → sx_L → sx_S → Prop} {R : Int → sx_S → Prop} (h_q_sn : ∀ (a0 a1 : Int) (s : sx_S) (K : Int → sx_S → Prop), cx_I s → (0 ≤ a0 ∧ a0 ≤ 241) → (0 ≤ a1 ∧ a1 ≤ 241) → (a0 < m ∧ a1 < m) → (px_TN b n m s) → (∀ z : Int, (z = 0 ∨ z = 1) → (z ≠ 0 → px_SN b n a0 a1) → (z = 0 → ¬ px_SN b n a0 a1) → K z s) → CALL 157 [.inr (.inl 66), .inl a0, .inl a1] s K) {s : sx_S} {a0 : Int} (hI : cx_I s) (p0 : (0 ≤ a0 ∧ a0 ≤ 241)) (p1 : (px_TN b n m s)) (p2 : (a0 < m ∧ m ≤ 242)) (p3 : (px_DL 97 123 45 m s M)) (hK : ∀ z : Int, (-1 ≤ z ∧ z ≤ 4) → (z = -1 → px_nv (px_SN b n) M a0) → (z ≠ -1 → (0 ≤ z ∧ z < s.1 66 45) ∧ ∃ x, px_cf (px_SN b n) M a0 z.toNat x) → R z s) (hQ2 : ∀ (x1 x2 : Int) (_ : True), (0 ≤ x1 ∧ x1 ≤ 241) → (0 ≤ x2 ∧ x2 ≤ 5) → (x1 = a0) → (x2 ≤ s.1 66 45) → (px_n1 (px_SN b n) M a0 x2) → Q 2 [(0, .inr (.inl 66)), (1, .inl x1), (2, .inl x2)] s) : sx_wp true sL sx eX12_unknown CALL [(2, [0, 1, 2])] Q R 400 0 (sx_argsF 0 [.inr (.inl 66), .inl a0]) [] s := by
  have zzl := (p3 trivial).1
  repeat' (first | (with_reducible intro _) | (refine And.intro ?_ ?_) | (refine hK _ ?_ ?_ ?_) | (refine h_q_sn _ _ _ _ ?_ ?_ ?_ ?_ ?_ ?_) | (refine hQ2 _ _ trivial ?_ ?_ ?_ ?_ ?_))
  all_goals (try dsimp only)
  repeat' (first | (with_reducible assumption) | ((with_reducible (change cx_I (sx_uf _ _ _ _, _))); refine cx_I_uf rfl rfl ?_ ?_ ?_) | ((with_reducible (change cx_I (_, sx_ua _ _ _ _, _))); refine cx_I_ua rfl rfl ?_ ?_ ?_) | ((with_reducible (change cx_I (_, sx_ua _ 16 _ _, _))); refine cx_I_ari ?_ ?_ ?_) | ((with_reducible (change cx_I (sx_uf _ 11 6 _, _))); refine cx_I_ufA rfl ?_ ?_ ?_ ?_) | (with_reducible exact cx_F_refl _ _) | ((with_reducible (change cx_F _ _ (sx_uf _ _ _ _, _))); refine cx_F_uf rfl ?_) | ((with_reducible (change cx_F _ _ (_, sx_ua _ _ _ _, _))); refine cx_F_ua rfl ?_) | ((with_reducible (change cx_I (_, sx_cpy _ _ _ _ _ _, _))); refine cx_I_cpy rfl rfl rfl (by decide) ?_) | ((with_reducible (change cx_F _ _ (_, sx_cpy _ _ _ _ _ _, _))); refine cx_F_cpy rfl ?_) | ((with_reducible (change cx_F _ _ _)); refine cx_F_step (by assumption) rfl ?_) | ((with_reducible (change rf_f _ _ (sx_uf _ 66 _ _, _))); refine rf_f_uf rfl ?_) | ((with_reducible (change rf_f _ _ _)); exact (fun _ _ => rfl)) | ((with_reducible (change rf_f _ _ (_, sx_ua _ _ _ _, _))); refine rf_f_ua ?_) | ((with_reducible (change rf_f _ _ _)); assumption) | ((with_reducible (change rf_f _ _ _)); refine rf_f_step (by assumption) rfl ?_) | ((with_reducible (change rf_f _ _ _)); refine rf_f_F (by assumption) rfl ?_) | ((with_reducible (change px_g1 _ _ _ (_, sx_ua _ _ _ _, _))); refine px_g1_ua rfl (by omega) ?_) | ((with_reducible (change px_g1 _ _ _ _)); exact px_g1_refl _ _ _) | ((with_reducible (change px_g1 _ _ _ _)); assumption) | ((with_reducible (change sx_ua _ _ _ _ _ = _)); refine px_a_ua rfl ?_) | ((with_reducible (change px_RT _ _ _ (sx_uf _ _ _ _, _))); refine px_RT_uf ?_) | ((with_reducible (change px_RT _ _ _ (_, sx_ua _ 69 _ _, _))); refine px_RT_up (by assumption) (by assumption) (by assumption) (by assumption) (by assumption) (by omega) (px_bl_st (by assumption) (by omega)) (by omega)) | ((with_reducible (change px_RT _ _ _ (_, sx_ua _ _ _ _, _))); refine px_RT_ua rfl ?_) | ((with_reducible (change px_RT _ _ 0 _)); exact px_RT_0) | ((with_reducible (change px_RT _ _ _ _)); assumption) | ((with_reducible (change px_RT _ _ _ _)); refine px_RT_F (by assumption) rfl rfl rfl ?_) | ((with_reducible (change px_REx _ _ _)); exact px_REx_mk (by assumption) (by assumption) (by omega) (by omega)) | ((with_reducible (change (_ : sx_S).1 _ _ = _)); refine px_f_F (by assumption) rfl ?_) | ((with_reducible (change (_ : sx_S).2.1 _ = _)); refine px_a_F (by assumption) rfl ?_) | ((with_reducible (change sx_uf _ _ _ _ _ _ = _)); refine px_f_uf rfl ?_) | ((with_reducible (change px_DT _ _ _ (sx_uf _ _ _ _, _))); refine px_DT_uf ?_) | ((with_reducible (change px_DT _ _ _ _)); assumption) | ((with_reducible (change px_DT _ _ _ _)); refine px_DT_F (by assumption) rfl rfl rfl ?_) | ((with_reducible (change px_TK _ _ (sx_uf _ _ _ _, _))); refine px_TK_uf rfl ?_) | ((with_reducible (change px_TK _ _ _)); assumption) | ((with_reducible (change px_TK _ _ _)); refine px_TK_F (by assumption) rfl rfl rfl rfl ?_) | ((with_reducible (change rf_A _ (sx_uf _ _ _ _, _))); refine rf_A_uf ?_) | ((with_reducible (change rf_A _ (_, sx_ua _ _ _ _, _))); refine rf_A_ua rfl ?_) | ((with_reducible (change rf_A _ _)); assumption) | ((with_reducible (change rf_A _ _)); refine rf_A_F (by assumption) rfl ?_) | ((with_reducible (change px_RQ _ _ (sx_uf _ _ _ _, _))); refine px_RQ_uf ?_) | ((with_reducible (change px_RQ _ _ (_, sx_ua _ _ _ _, _))); refine px_RQ_ua rfl ?_) | ((with_reducible (change px_RQ _ _ _)); assumption) | ((with_reducible (change px_RQ _ _ _)); refine px_RQ_F (by assumption) rfl ?_) | fail)
  all_goals (first | trivial | omega | (dsimp only at *; omega) | (obtain ⟨zze, zz1, zz2, zz3, zz4⟩ := zzt (by omega) (by omega); subst_vars; omega) | (exact px_n1_0 (by omega)) | (exact px_n1_nv (by assumption) (by omega)) | (refine px_cf_x (by assumption) (by omega) (by omega) (fun zze zz1 => ?_); obtain ⟨zze', zz1', zz2, zz3, zz4⟩ := zzt (by omega) (by omega); rw [zz1] at zz1'; cases zz1'; subst_vars; rw [← zz2]; first | assumption | (apply_assumption; omega)) | (refine px_n1_up (by assumption) (by omega) (by first | omega | (simp only [sx_uf_if, sx_ua_if, sx_w_t, true_and, and_true, and_self, and_false, false_and, if_true, if_false, reduceIte] at *; omega)) (fun zze zz1 => ?_); obtain ⟨zze', zz1', zz2, zz3, zz4⟩ := zzt (by omega) (by omega); rw [zz1] at zz1'; cases zz1'; subst_vars; rw [← zz2]; first | assumption | (apply_assumption; omega)) | (simp only [sx_uf_if, sx_ua_if, sx_w_t, true_and, and_true, and_self, and_false, false_and, if_true, if_false, reduceIte] at *; omega) | (subst_vars; simp only [sx_uf_if, sx_ua_if, sx_w_t, true_and, and_true, and_self, and_false, false_and, if_true, if_false, reduceIte] at *; omega) | skip)

theorem w_q_unknown_2 {CALL : sx_Ca} {b : Nat → Int} {n : Int} {m : Int} {M : List (Int × qx_T)} {sL : Nat} {sx : Nat → Int32} {Q : Nat → sx_L → sx_S → Prop} {R : Int → sx_S → Prop} (h_q_sn : ∀ (a0 a1 : Int) (s : sx_S) (K : Int → sx_S → Prop), cx_I s → (0 ≤ a0 ∧ a0 ≤ 241) → (0 ≤ a1 ∧ a1 ≤ 241) → (a0 < m ∧ a1 < m) → (px_TN b n m s) → (∀ z : Int, (z = 0 ∨ z = 1) → (z ≠ 0 → px_SN b n a0 a1) → (z = 0 → ¬ px_SN b n a0 a1) → K z s) → CALL 157 [.inr (.inl 66), .inl a0, .inl a1] s K) {s : sx_S} {a0 : Int} (hI : cx_I s) (p0 : (0 ≤ a0 ∧ a0 ≤ 241)) (p1 : (px_TN b n m s)) (p2 : (a0 < m ∧ m ≤ 242)) (p3 : (px_DL 97 123 45 m s M)) (hK : ∀ z : Int, (-1 ≤ z ∧ z ≤ 4) → (z = -1 → px_nv (px_SN b n) M a0) → (z ≠ -1 → (0 ≤ z ∧ z < s.1 66 45) ∧ ∃ x, px_cf (px_SN b n) M a0 z.toNat x) → R z s) {x1 x2 : Int} {mm : Nat} (hm : mm = 17179869184 + (2147483647 - x2).toNat) (i0 : (0 ≤ x1 ∧ x1 ≤ 241)) (i1 : (0 ≤ x2 ∧ x2 ≤ 5)) (i2 : (x1 = a0)) (i3 : (x2 ≤ s.1 66 45)) (i4 : (px_n1 (px_SN b n) M a0 x2)) (hQ2 : ∀ (x1 x2 : Int) (_ : True), (0 ≤ x1 ∧ x1 ≤ 241) → (0 ≤ x2 ∧ x2 ≤ 5) → (x1 = a0) → (x2 ≤ s.1 66 45) → (px_n1 (px_SN b n) M a0 x2) → (17179869184 + (2147483647 - x2).toNat < mm) → Q 2 [(0, .inr (.inl 66)), (1, .inl x1), (2, .inl x2)] s) : sx_wp true sL sx eX12_unknown CALL [(2, [0, 1, 2])] Q R 400 2 [(0, .inr (.inl 66)), (1, .inl x1), (2, .inl x2)] [] s := by
  have zzl := (p3 trivial).1
  have zzt := px_DL_tok p3 (k := x2)
  repeat' (first | (with_reducible intro _) | (refine And.intro ?_ ?_) | (refine hK _ ?_ ?_ ?_) | (refine h_q_sn _ _ _ _ ?_ ?_ ?_ ?_ ?_ ?_) | (refine hQ2 _ _ trivial ?_ ?_ ?_ ?_ ?_ ?_))
  all_goals (try dsimp only)
  repeat' (first | (with_reducible assumption) | ((with_reducible (change cx_I (sx_uf _ _ _ _, _))); refine cx_I_uf rfl rfl ?_ ?_ ?_) | ((with_reducible (change cx_I (_, sx_ua _ _ _ _, _))); refine cx_I_ua rfl rfl ?_ ?_ ?_) | ((with_reducible (change cx_I (_, sx_ua _ 16 _ _, _))); refine cx_I_ari ?_ ?_ ?_) | ((with_reducible (change cx_I (sx_uf _ 11 6 _, _))); refine cx_I_ufA rfl ?_ ?_ ?_ ?_) | (with_reducible exact cx_F_refl _ _) | ((with_reducible (change cx_F _ _ (sx_uf _ _ _ _, _))); refine cx_F_uf rfl ?_) | ((with_reducible (change cx_F _ _ (_, sx_ua _ _ _ _, _))); refine cx_F_ua rfl ?_) | ((with_reducible (change cx_I (_, sx_cpy _ _ _ _ _ _, _))); refine cx_I_cpy rfl rfl rfl (by decide) ?_) | ((with_reducible (change cx_F _ _ (_, sx_cpy _ _ _ _ _ _, _))); refine cx_F_cpy rfl ?_) | ((with_reducible (change cx_F _ _ _)); refine cx_F_step (by assumption) rfl ?_) | ((with_reducible (change rf_f _ _ (sx_uf _ 66 _ _, _))); refine rf_f_uf rfl ?_) | ((with_reducible (change rf_f _ _ _)); exact (fun _ _ => rfl)) | ((with_reducible (change rf_f _ _ (_, sx_ua _ _ _ _, _))); refine rf_f_ua ?_) | ((with_reducible (change rf_f _ _ _)); assumption) | ((with_reducible (change rf_f _ _ _)); refine rf_f_step (by assumption) rfl ?_) | ((with_reducible (change rf_f _ _ _)); refine rf_f_F (by assumption) rfl ?_) | ((with_reducible (change px_g1 _ _ _ (_, sx_ua _ _ _ _, _))); refine px_g1_ua rfl (by omega) ?_) | ((with_reducible (change px_g1 _ _ _ _)); exact px_g1_refl _ _ _) | ((with_reducible (change px_g1 _ _ _ _)); assumption) | ((with_reducible (change sx_ua _ _ _ _ _ = _)); refine px_a_ua rfl ?_) | ((with_reducible (change px_RT _ _ _ (sx_uf _ _ _ _, _))); refine px_RT_uf ?_) | ((with_reducible (change px_RT _ _ _ (_, sx_ua _ 69 _ _, _))); refine px_RT_up (by assumption) (by assumption) (by assumption) (by assumption) (by assumption) (by omega) (px_bl_st (by assumption) (by omega)) (by omega)) | ((with_reducible (change px_RT _ _ _ (_, sx_ua _ _ _ _, _))); refine px_RT_ua rfl ?_) | ((with_reducible (change px_RT _ _ 0 _)); exact px_RT_0) | ((with_reducible (change px_RT _ _ _ _)); assumption) | ((with_reducible (change px_RT _ _ _ _)); refine px_RT_F (by assumption) rfl rfl rfl ?_) | ((with_reducible (change px_REx _ _ _)); exact px_REx_mk (by assumption) (by assumption) (by omega) (by omega)) | ((with_reducible (change (_ : sx_S).1 _ _ = _)); refine px_f_F (by assumption) rfl ?_) | ((with_reducible (change (_ : sx_S).2.1 _ = _)); refine px_a_F (by assumption) rfl ?_) | ((with_reducible (change sx_uf _ _ _ _ _ _ = _)); refine px_f_uf rfl ?_) | ((with_reducible (change px_DT _ _ _ (sx_uf _ _ _ _, _))); refine px_DT_uf ?_) | ((with_reducible (change px_DT _ _ _ _)); assumption) | ((with_reducible (change px_DT _ _ _ _)); refine px_DT_F (by assumption) rfl rfl rfl ?_) | ((with_reducible (change px_TK _ _ (sx_uf _ _ _ _, _))); refine px_TK_uf rfl ?_) | ((with_reducible (change px_TK _ _ _)); assumption) | ((with_reducible (change px_TK _ _ _)); refine px_TK_F (by assumption) rfl rfl rfl rfl ?_) | ((with_reducible (change rf_A _ (sx_uf _ _ _ _, _))); refine rf_A_uf ?_) | ((with_reducible (change rf_A _ (_, sx_ua _ _ _ _, _))); refine rf_A_ua rfl ?_) | ((with_reducible (change rf_A _ _)); assumption) | ((with_reducible (change rf_A _ _)); refine rf_A_F (by assumption) rfl ?_) | ((with_reducible (change px_RQ _ _ (sx_uf _ _ _ _, _))); refine px_RQ_uf ?_) | ((with_reducible (change px_RQ _ _ (_, sx_ua _ _ _ _, _))); refine px_RQ_ua rfl ?_) | ((with_reducible (change px_RQ _ _ _)); assumption) | ((with_reducible (change px_RQ _ _ _)); refine px_RQ_F (by assumption) rfl ?_) | fail)
  all_goals (first | trivial | omega | (dsimp only at *; omega) | (obtain ⟨zze, zz1, zz2, zz3, zz4⟩ := zzt (by omega) (by omega); subst_vars; omega) | (exact px_n1_0 (by omega)) | (exact px_n1_nv (by assumption) (by omega)) | (refine px_cf_x (by assumption) (by omega) (by omega) (fun zze zz1 => ?_); obtain ⟨zze', zz1', zz2, zz3, zz4⟩ := zzt (by omega) (by omega); rw [zz1] at zz1'; cases zz1'; subst_vars; rw [← zz2]; first | assumption | (apply_assumption; omega)) | (refine px_n1_up (by assumption) (by omega) (by first | omega | (simp only [sx_uf_if, sx_ua_if, sx_w_t, true_and, and_true, and_self, and_false, false_and, if_true, if_false, reduceIte] at *; omega)) (fun zze zz1 => ?_); obtain ⟨zze', zz1', zz2, zz3, zz4⟩ := zzt (by omega) (by omega); rw [zz1] at zz1'; cases zz1'; subst_vars; rw [← zz2]; first | assumption | (apply_assumption; omega)) | (simp only [sx_uf_if, sx_ua_if, sx_w_t, true_and, and_true, and_self, and_false, false_and, if_true, if_false, reduceIte] at *; omega) | (subst_vars; simp only [sx_uf_if, sx_ua_if, sx_w_t, true_and, and_true, and_self, and_false, false_and, if_true, if_false, reduceIte] at *; omega) | skip)

theorem c_q_unknown {sL : Nat} {sx : Nat → Int32} (hsL : sL ≤ 3072) (d : Nat) (hd : 4 ≤ d) (b : Nat → Int) (n : Int) (m : Int) (M : List (Int × qx_T)) : ∀ (a0 : Int) (s : sx_S) (K : Int → sx_S → Prop), cx_I s → (0 ≤ a0 ∧ a0 ≤ 241) → (px_TN b n m s) → (a0 < m ∧ m ≤ 242) → (px_DL 97 123 45 m s M) → (∀ z : Int, (-1 ≤ z ∧ z ≤ 4) → (z = -1 → px_nv (px_SN b n) M a0) → (z ≠ -1 → (0 ≤ z ∧ z < s.1 66 45) ∧ ∃ x, px_cf (px_SN b n) M a0 z.toNat x) → K z s) → sx_C sL sx d 169 [.inr (.inl 66), .inl a0] s K := by
  intro a0 s K hI p0 p1 p2 p3 hK
  obtain ⟨d, rfl⟩ : ∃ e, d = e + 2 := ⟨d - 2, by omega⟩
  refine sx_methL (wr := true) (n := 400) (n' := 400) (stop := [(2, [0, 1, 2])]) (fun nn pc ls u => (pc = 2 ∧ ∃ (x1 x2 : Int), ls = [(0, .inr (.inl 66)), (1, .inl x1), (2, .inl x2)] ∧ u = s ∧ (0 ≤ x1 ∧ x1 ≤ 241) ∧ (0 ≤ x2 ∧ x2 ≤ 5) ∧ (x1 = a0) ∧ (x2 ≤ s.1 66 45) ∧ (px_n1 (px_SN b n) M a0 x2) ∧ nn = 17179869184 + (2147483647 - x2).toNat)) hsL (e := eX12_unknown) rfl ?_ ?_
  · exact w_q_unknown (c_q_sn hsL (d + 1) (by omega) b n m) hI p0 p1 p2 p3 hK (fun x1 x2 _ i0 i1 i2 i3 i4 => ⟨_, ⟨rfl, x1, x2, rfl, rfl, i0, i1, i2, i3, i4, rfl⟩⟩)
  · rintro nn pc ls u (⟨rfl, x1, x2, rfl, rfl, i0, i1, i2, i3, i4, rfl⟩)
    · exact w_q_unknown_2 (c_q_sn hsL (d + 1) (by omega) b n m) hI p0 p1 p2 p3 hK rfl i0 i1 i2 i3 i4 (fun x1 x2 _ i0 i1 i2 i3 i4 hm => ⟨_, hm, ⟨rfl, x1, x2, rfl, rfl, i0, i1, i2, i3, i4, rfl⟩⟩)
end
section
/-! ===== what a name means to the reference, exactly ===== -/
/-- what is bound around -/
def px_EV (m : Int) (s : sx_S) (Γ : List (Int × qx_T)) : Prop := True → ((Γ.length : Int) = s.1 66 34 ∧ ∀ k : Nat, k < Γ.length → ∃ e, Γ[Γ.length - 1 - k]? = some e ∧ s.2.1 93 k = e.1 ∧ (0 ≤ e.1 ∧ e.1 < m) ∧ (0 ≤ s.2.1 94 k ∧ s.2.1 94 k < s.1 66 58) ∧ qx_is s e.2 (s.2.1 106 (s.2.1 94 k).toNat)) ∧ ∀ j k : Nat, j < k → k < Γ.length → s.2.1 94 j < s.2.1 94 k
def px_s1 (SN : Int → Int → Prop) (Γ : List (Int × qx_T)) (a j : Int) : Prop := ∀ k : Nat, j < (k : Int) → k < Γ.length → ∀ e, Γ[Γ.length - 1 - k]? = some e → ¬ SN e.1 a
theorem px_vr_at {SN : Int → Int → Prop} {a : Int} : ∀ {Γ : List (Int × qx_T)} {i : Nat} {e : Int × qx_T}, Γ[i]? = some e → SN e.1 a → (∀ j, j < i → ∀ e', Γ[j]? = some e' → ¬ SN e'.1 a) → px_vr SN Γ a (Γ.length - 1 - i) e.2
  | [], _, _, h, _, _ => by cases h
  | q :: Γ, 0, e, h, hs, _ => by
    cases h
    exact Or.inl ⟨hs, rfl, rfl⟩
  | q :: Γ, i + 1, e, h, hs, hn => by
    refine Or.inr ⟨hn 0 (Nat.succ_pos _) q rfl, ?_⟩
    have := px_vr_at (Γ := Γ) h hs (fun j hj e' he => hn (j + 1) (by omega) e' he)
    rw [show (q :: Γ).length - 1 - (i + 1) = Γ.length - 1 - i by rw [List.length_cons]; omega]
    exact this
theorem px_s1_nv {SN : Int → Int → Prop} {Γ : List (Int × qx_T)} {a j : Int} (h : px_s1 SN Γ a j) (hj : j < 0) : px_nv SN Γ a := fun e he => by
  obtain ⟨i, hi⟩ := List.mem_iff_getElem?.mp he
  have hl := (List.getElem?_eq_some_iff.mp hi).1
  refine h (Γ.length - 1 - i) (by omega) (by omega) e ?_
  rw [show Γ.length - 1 - (Γ.length - 1 - i) = i by omega]
  exact hi
theorem px_s1_0 {SN : Int → Int → Prop} {Γ : List (Int × qx_T)} {a j : Int} (hj : (Γ.length : Int) ≤ j + 1) : px_s1 SN Γ a j := fun k h1 h2 => by omega
theorem px_s1_up {SN : Int → Int → Prop} {Γ : List (Int × qx_T)} {a j j' : Int} (h : px_s1 SN Γ a j) (h0 : 0 ≤ j) (e : j' = j - 1) (hn : ∀ e, Γ[Γ.length - 1 - j.toNat]? = some e → ¬ SN e.1 a) : px_s1 SN Γ a j' := fun k h1 h2 e' he => by
  by_cases q : j < (k : Int)
  · exact h k q h2 e' he
  · have : k = j.toNat := by omega
    subst this
    exact hn e' he
theorem px_vr_x {SN : Int → Int → Prop} {Γ : List (Int × qx_T)} {a j : Int} {e : Int × qx_T} (h : px_s1 SN Γ a j) (h0 : 0 ≤ j) (hl : j < (Γ.length : Int)) (he : Γ[Γ.length - 1 - j.toNat]? = some e) (hs : SN e.1 a) : px_vr SN Γ a j.toNat e.2 := by
  have := px_vr_at he hs (fun i hi e' he' => h (Γ.length - 1 - i) (by omega) (by omega) e' (by rw [show Γ.length - 1 - (Γ.length - 1 - i) = i by omega]; exact he'))
  rw [show Γ.length - 1 - (Γ.length - 1 - j.toNat) = j.toNat by omega] at this
  exact this
theorem px_EV_at {m : Int} {s : sx_S} {Γ : List (Int × qx_T)} (h : px_EV m s Γ) {k : Int} (h0 : 0 ≤ k) (hk : k < s.1 66 34) : ∃ e, Γ[Γ.length - 1 - k.toNat]? = some e ∧ s.2.1 93 k.toNat = e.1 ∧ (0 ≤ e.1 ∧ e.1 < m) ∧ (0 ≤ s.2.1 94 k.toNat ∧ s.2.1 94 k.toNat < s.1 66 58) ∧ qx_is s e.2 (s.2.1 106 (s.2.1 94 k.toNat).toNat) := by
  obtain ⟨⟨h1, h2⟩, _⟩ := h trivial
  exact h2 k.toNat (by omega)
/-- what mean finds -/
def px_mq (b : Nat → Int) (n : Int) (C M Γ : List (Int × qx_T)) (s t : sx_S) (r z : Int) : Prop := True → (t.1 66 40 = 0 → ∃ o k u, px_hd (px_SN b n) C M Γ (s.2.1 75 r.toNat) o k u ∧ t.2.1 83 r.toNat = o ∧ (o = 2 → t.2.1 82 r.toNat = s.2.1 94 k) ∧ (o ≠ 2 → t.2.1 82 r.toNat = (k : Int)) ∧ qx_is t u z) ∧ (s.1 66 40 = 0 → t.1 66 40 ≠ 0 → ∀ o k u, ¬ px_hd (px_SN b n) C M Γ (s.2.1 75 r.toNat) o k u)
section PXQ
variable {b : Nat → Int} {n m : Int} {C M Γ : List (Int × qx_T)} {s t : sx_S} {r z v k a : Int} {B : (Nat → Nat → Int) × Nat}
theorem px_83 {o : Int} : (s.1, sx_ua (sx_ua s.2.1 83 r.toNat o) 82 r.toNat v, B).2.1 83 r.toNat = o := by
  dsimp only
  rw [sx_ua_ne (by decide), sx_ua_same]
  exact if_pos rfl
theorem px_82 {o : Int} : (s.1, sx_ua (sx_ua s.2.1 83 r.toNat o) 82 r.toNat v, B).2.1 82 r.toNat = v := by
  dsimp only
  rw [sx_ua_same]
  exact if_pos rfl
theorem px_is82 {o : Int} {x : qx_T} (h : qx_is s x z) : qx_is (s.1, sx_ua (sx_ua s.2.1 83 r.toNat o) 82 r.toNat v, B) x z := by
  unfold qx_is at h ⊢
  dsimp only
  rw [sx_ua_ne (by decide), sx_ua_ne (by decide), sx_ua_ne (by decide), sx_ua_ne (by decide)]
  exact h
theorem px_mq_v (hE : px_EV m s Γ) (hs1 : px_s1 (px_SN b n) Γ a k) (ha : a = s.2.1 75 r.toNat) (h0 : 0 ≤ k) (hk : k < s.1 66 34) (hs : px_SN b n (s.2.1 93 k.toNat) a) (hv : v = s.2.1 94 k.toNat) (hz : z = s.2.1 106 v.toNat) (h40 : s.1 66 40 = 0) : px_mq b n C M Γ s (s.1, sx_ua (sx_ua s.2.1 83 r.toNat 2) 82 r.toNat v, B) r z := fun _ => by
  obtain ⟨e, e1, e2, e3, e4, e5⟩ := px_EV_at hE h0 hk
  have hl := (hE trivial).1.1
  subst ha hv hz
  rw [e2] at hs
  exact ⟨fun _ => ⟨2, k.toNat, e.2, Or.inl ⟨rfl, px_vr_x hs1 h0 (by omega) e1 hs⟩, px_83, fun _ => px_82, fun q => absurd rfl q, px_is82 e5⟩, fun _ q => absurd h40 q⟩
theorem px_DL_cf {p q f : Nat} {L : List (Int × qx_T)} (hD : px_DL p q f m s L) {k : Nat} {x : qx_T} (h : px_cf (px_SN b n) L a k x) (hk : (k : Int) < s.1 66 f) : qx_is s x (s.2.1 q k) := by
  obtain ⟨h1, h2⟩ := hD trivial
  have key : ∀ {L : List (Int × qx_T)} {k : Nat} {x : qx_T}, px_cf (px_SN b n) L a k x → ∃ e, L[k]? = some e ∧ e.2 = x := by
    intro L
    induction L with
    | nil => exact fun h => h.elim
    | cons e L ih =>
      intro k x h
      rcases h with ⟨_, h2, h3⟩ | ⟨_, j, h2, h3⟩
      · subst h2
        exact ⟨e, rfl, h3.symm⟩
      · subst h2
        exact ih h3
  obtain ⟨e, e1, e2⟩ := key h
  obtain ⟨e', f1, f2, f3, f4⟩ := h2 k (by omega)
  rw [e1] at f1
  cases f1
  rw [← e2]
  exact f4
theorem px_mq_c (hD : px_DL 95 96 42 m s C) (hs1 : px_s1 (px_SN b n) Γ a k) (hk : k < 0) (ha : a = s.2.1 75 r.toNat) (hc : (0 ≤ v ∧ v < s.1 66 42) ∧ ∃ x, px_cf (px_SN b n) C a v.toNat x) (hz : z = s.2.1 96 v.toNat) (h40 : s.1 66 40 = 0) : px_mq b n C M Γ s (s.1, sx_ua (sx_ua s.2.1 83 r.toNat 1) 82 r.toNat v, B) r z := fun _ => by
  obtain ⟨⟨c0, c1⟩, x, c2⟩ := hc
  subst ha hz
  exact ⟨fun _ => ⟨1, v.toNat, x, Or.inr (Or.inl ⟨rfl, px_s1_nv hs1 hk, c2⟩), px_83, fun q => absurd q (by decide), fun _ => px_82.trans (by omega), px_is82 (px_DL_cf hD c2 (by omega))⟩, fun _ q => absurd h40 q⟩
theorem px_mq_m (hD : px_DL 97 123 45 m s M) (hs1 : px_s1 (px_SN b n) Γ a k) (hk : k < 0) (ha : a = s.2.1 75 r.toNat) (hn : px_nv (px_SN b n) C a) (hc : (0 ≤ v ∧ v < s.1 66 45) ∧ ∃ x, px_cf (px_SN b n) M a v.toNat x) (hz : z = s.2.1 123 v.toNat) (h40 : s.1 66 40 = 0) : px_mq b n C M Γ s (s.1, sx_ua (sx_ua s.2.1 83 r.toNat 3) 82 r.toNat v, B) r z := fun _ => by
  obtain ⟨⟨c0, c1⟩, x, c2⟩ := hc
  subst ha hz
  exact ⟨fun _ => ⟨3, v.toNat, x, Or.inr (Or.inr ⟨rfl, px_s1_nv hs1 hk, hn, c2⟩), px_83, fun q => absurd q (by decide), fun _ => px_82.trans (by omega), px_is82 (px_DL_cf hD c2 (by omega))⟩, fun _ q => absurd h40 q⟩
theorem px_mq_n (hs1 : px_s1 (px_SN b n) Γ a k) (hk : k < 0) (ha : a = s.2.1 75 r.toNat) (hc : px_nv (px_SN b n) C a) (hm : px_nv (px_SN b n) M a) (ht : t.1 66 40 ≠ 0) : px_mq b n C M Γ s t r z := fun _ => by
  subst ha
  refine ⟨fun q => absurd q ht, fun _ _ o k u h => ?_⟩
  rcases h with ⟨_, h⟩ | ⟨_, _, h⟩ | ⟨_, _, _, h⟩
  · exact px_vr_nv h (px_s1_nv hs1 hk)
  · exact px_cf_nv h hc
  · exact px_cf_nv h hm
end PXQ

theorem w_q_mean {CALL : sx_Ca} {b : Nat → Int} {n : Int} {m : Int} {C : List (Int × qx_T)} {M : List (Int × qx_T)} {Γ : List (Int × qx_T)} {sL : Nat} {sx : Nat → Int32} {Q : Nat → sx_L → sx_S → Prop} {R : Int → sx_S → Prop} (h_q_sn : ∀ (a0 a1 : Int) (s : sx_S) (K : Int → sx_S → Prop), cx_I s → (0 ≤ a0 ∧ a0 ≤ 241) → (0 ≤ a1 ∧ a1 ≤ 241) → (a0 < m ∧ a1 < m) → (px_TN b n m s) → (∀ z : Int, (z = 0 ∨ z = 1) → (z ≠ 0 → px_SN b n a0 a1) → (z = 0 → ¬ px_SN b n a0 a1) → K z s) → CALL 157 [.inr (.inl 66), .inl a0, .inl a1] s K) (h_q_constant : ∀ (a0 : Int) (s : sx_S) (K : Int → sx_S → Prop), cx_I s → (0 ≤ a0 ∧ a0 ≤ 241) → (px_TN b n m s) → (a0 < m ∧ m ≤ 242) → (px_DL 95 96 42 m s C) → (∀ z : Int, (-1 ≤ z ∧ z ≤ 7) → (z = -1 → px_nv (px_SN b n) C a0) → (z ≠ -1 → (0 ≤ z ∧ z < s.1 66 42) ∧ ∃ x, px_cf (px_SN b n) C a0 z.toNat x) → K z s) → CALL 168 [.inr (.inl 66), .inl a0] s K) (h_q_unknown : ∀ (a0 : Int) (s : sx_S) (K : Int → sx_S → Prop), cx_I s → (0 ≤ a0 ∧ a0 ≤ 241) → (px_TN b n m s) → (a0 < m ∧ m ≤ 242) → (px_DL 97 123 45 m s M) → (∀ z : Int, (-1 ≤ z ∧ z ≤ 4) → (z = -1 → px_nv (px_SN b n) M a0) → (z ≠ -1 → (0 ≤ z ∧ z < s.1 66 45) ∧ ∃ x, px_cf (px_SN b n) M a0 z.toNat x) → K z s) → CALL 169 [.inr (.inl 66), .inl a0] s K) (h_r_wrong : ∀ (a0 a1 : Int) (s : sx_S) (K : Int → sx_S → Prop), cx_I s → (1 ≤ a0 ∧ a0 ≤ 6) → (0 ≤ a1 ∧ a1 ≤ 241) → (∀ (z : Int) (t : sx_S), cx_I t → cx_F [(66, 66)] s t → (rf_f [40, 41] s t) → (t.1 66 40 ≠ 0) → ((s.1 66 40 ≠ 0 ∧ t.1 66 40 = s.1 66 40 ∧ t.1 66 41 = s.1 66 41) ∨ (s.1 66 40 = 0 ∧ t.1 66 40 = a0 ∧ t.1 66 41 = a1)) → K z t) → CALL 165 [.inr (.inl 66), .inl a0, .inl a1] s K) {s : sx_S} {a0 : Int} (hI : cx_I s) (p0 : (0 ≤ a0 ∧ a0 ≤ 599)) (p1 : (rf_CK s)) (p2 : (px_TN b n m s)) (p3 : (s.2.1 75 a0.toNat < m ∧ m ≤ 242)) (p4 : (px_DL 95 96 42 m s C)) (p5 : (px_DL 97 123 45 m s M)) (p6 : (px_EV m s Γ)) (p7 : (s.1 66 40 = 0)) (hK : ∀ (z : Int) (t : sx_S), cx_I t → cx_F [(66, 66), (82, 83)] s t → (0 ≤ z ∧ z ≤ 5999) → (rf_f [40, 41] s t) → (rf_ax a0 s t) → ((t.1 66 40 = s.1 66 40 ∧ t.1 66 41 = s.1 66 41) ∨ (t.1 66 40 ≠ 0 ∧ 0 ≤ t.1 66 41 ∧ t.1 66 41 ≤ 241)) → (t.1 66 40 = 0 → rf_mz t a0 z) → (px_mq b n C M Γ s t a0 z) → R z t) (hQ14 : ∀ (x1 x2 x3 : Int) (t : sx_S), cx_I t → cx_F [(66, 66), (82, 83)] s t → (0 ≤ x1 ∧ x1 ≤ 599) → (0 ≤ x2 ∧ x2 ≤ 241) → (-1 ≤ x3 ∧ x3 ≤ 59) → (x1 = a0) → (x3 < s.1 66 34) → (t = s) → (x2 = s.2.1 75 a0.toNat) → (px_s1 (px_SN b n) Γ x2 x3) → Q 14 [(0, .inr (.inl 66)), (1, .inl x1), (2, .inl x2), (3, .inl x3)] t) : sx_wp true sL sx eX12_mean CALL [(14, [0, 1, 2, 3])] Q R 400 0 (sx_argsF 0 [.inr (.inl 66), .inl a0]) [] s := by
  have zzl := (p6 trivial).1.1
  repeat' (first | (with_reducible intro _) | (refine And.intro ?_ ?_) | (refine hK _ _ ?_ ?_ ?_ ?_ ?_ ?_ ?_ ?_) | (refine h_q_sn _ _ _ _ ?_ ?_ ?_ ?_ ?_ ?_) | (refine h_q_constant _ _ _ ?_ ?_ ?_ ?_ ?_ ?_) | (refine h_q_unknown _ _ _ ?_ ?_ ?_ ?_ ?_ ?_) | (refine h_r_wrong _ _ _ _ ?_ ?_ ?_ ?_) | (refine hQ14 _ _ _ _ ?_ ?_ ?_ ?_ ?_ ?_ ?_ ?_ ?_ ?_))
  all_goals (try dsimp only)
  repeat' (first | (with_reducible assumption) | ((with_reducible (change cx_I (sx_uf _ _ _ _, _))); refine cx_I_uf rfl rfl ?_ ?_ ?_) | ((with_reducible (change cx_I (_, sx_ua _ _ _ _, _))); refine cx_I_ua rfl rfl ?_ ?_ ?_) | ((with_reducible (change cx_I (_, sx_ua _ 16 _ _, _))); refine cx_I_ari ?_ ?_ ?_) | ((with_reducible (change cx_I (sx_uf _ 11 6 _, _))); refine cx_I_ufA rfl ?_ ?_ ?_ ?_) | (with_reducible exact cx_F_refl _ _) | ((with_reducible (change cx_F _ _ (sx_uf _ _ _ _, _))); refine cx_F_uf rfl ?_) | ((with_reducible (change cx_F _ _ (_, sx_ua _ _ _ _, _))); refine cx_F_ua rfl ?_) | ((with_reducible (change cx_I (_, sx_cpy _ _ _ _ _ _, _))); refine cx_I_cpy rfl rfl rfl (by decide) ?_) | ((with_reducible (change cx_F _ _ (_, sx_cpy _ _ _ _ _ _, _))); refine cx_F_cpy rfl ?_) | ((with_reducible (change cx_F _ _ _)); refine cx_F_step (by assumption) rfl ?_) | ((with_reducible (change rf_f _ _ (sx_uf _ 66 _ _, _))); refine rf_f_uf rfl ?_) | ((with_reducible (change rf_f _ _ _)); exact (fun _ _ => rfl)) | ((with_reducible (change rf_f _ _ (_, sx_ua _ _ _ _, _))); refine rf_f_ua ?_) | ((with_reducible (change rf_f _ _ _)); assumption) | ((with_reducible (change rf_f _ _ _)); refine rf_f_step (by assumption) rfl ?_) | ((with_reducible (change rf_f _ _ _)); refine rf_f_F (by assumption) rfl ?_) | ((with_reducible (change px_g1 _ _ _ (_, sx_ua _ _ _ _, _))); refine px_g1_ua rfl (by omega) ?_) | ((with_reducible (change px_g1 _ _ _ _)); exact px_g1_refl _ _ _) | ((with_reducible (change px_g1 _ _ _ _)); assumption) | ((with_reducible (change sx_ua _ _ _ _ _ = _)); refine px_a_ua rfl ?_) | ((with_reducible (change px_RT _ _ _ (sx_uf _ _ _ _, _))); refine px_RT_uf ?_) | ((with_reducible (change px_RT _ _ _ (_, sx_ua _ 69 _ _, _))); refine px_RT_up (by assumption) (by assumption) (by assumption) (by assumption) (by assumption) (by omega) (px_bl_st (by assumption) (by omega)) (by omega)) | ((with_reducible (change px_RT _ _ _ (_, sx_ua _ _ _ _, _))); refine px_RT_ua rfl ?_) | ((with_reducible (change px_RT _ _ 0 _)); exact px_RT_0) | ((with_reducible (change px_RT _ _ _ _)); assumption) | ((with_reducible (change px_RT _ _ _ _)); refine px_RT_F (by assumption) rfl rfl rfl ?_) | ((with_reducible (change px_REx _ _ _)); exact px_REx_mk (by assumption) (by assumption) (by omega) (by omega)) | ((with_reducible (change (_ : sx_S).1 _ _ = _)); refine px_f_F (by assumption) rfl ?_) | ((with_reducible (change (_ : sx_S).2.1 _ = _)); refine px_a_F (by assumption) rfl ?_) | ((with_reducible (change sx_uf _ _ _ _ _ _ = _)); refine px_f_uf rfl ?_) | ((with_reducible (change px_DT _ _ _ (sx_uf _ _ _ _, _))); refine px_DT_uf ?_) | ((with_reducible (change px_DT _ _ _ _)); assumption) | ((with_reducible (change px_DT _ _ _ _)); refine px_DT_F (by assumption) rfl rfl rfl ?_) | ((with_reducible (change px_TK _ _ (sx_uf _ _ _ _, _))); refine px_TK_uf rfl ?_) | ((with_reducible (change px_TK _ _ _)); assumption) | ((with_reducible (change px_TK _ _ _)); refine px_TK_F (by assumption) rfl rfl rfl rfl ?_) | ((with_reducible (change rf_A _ (sx_uf _ _ _ _, _))); refine rf_A_uf ?_) | ((with_reducible (change rf_A _ (_, sx_ua _ _ _ _, _))); refine rf_A_ua rfl ?_) | ((with_reducible (change rf_A _ _)); assumption) | ((with_reducible (change rf_A _ _)); refine rf_A_F (by assumption) rfl ?_) | ((with_reducible (change px_RQ _ _ (sx_uf _ _ _ _, _))); refine px_RQ_uf ?_) | ((with_reducible (change px_RQ _ _ (_, sx_ua _ _ _ _, _))); refine px_RQ_ua rfl ?_) | ((with_reducible (change px_RQ _ _ _)); assumption) | ((with_reducible (change px_RQ _ _ _)); refine px_RQ_F (by assumption) rfl ?_) | ((with_reducible (change rf_ax _ _ _)); assumption) | ((with_reducible (change rf_ax _ _ _)); exact rf_ax_refl _ _) | ((with_reducible (change rf_ax _ _ (sx_uf _ _ _ _, _))); refine rf_ax_uf ?_) | ((with_reducible (change rf_ax _ _ (_, sx_ua _ _ _ _, _))); refine rf_ax_ua (by (first | omega | (dsimp only at *; omega) | (simp only [sx_uf_if, sx_ua_if, sx_w_t, true_and, and_true, and_self, and_false, false_and, if_true, if_false, reduceIte] at *; omega) | rfl)) (by (first | omega | (dsimp only at *; omega) | (simp only [sx_uf_if, sx_ua_if, sx_w_t, true_and, and_true, and_self, and_false, false_and, if_true, if_false, reduceIte] at *; omega) | rfl)) ?_) | ((with_reducible (change rf_ax _ _ _)); refine rf_ax_F (by assumption) rfl ?_) | fail)
  repeat' (first | (with_reducible assumption) | ((with_reducible (change cx_I (sx_uf _ _ _ _, _))); refine cx_I_uf rfl rfl ?_ ?_ ?_) | ((with_reducible (change cx_I (_, sx_ua _ _ _ _, _))); refine cx_I_ua rfl rfl ?_ ?_ ?_) | ((with_reducible (change cx_I (_, sx_ua _ 16 _ _, _))); refine cx_I_ari ?_ ?_ ?_) | ((with_reducible (change cx_I (sx_uf _ 11 6 _, _))); refine cx_I_ufA rfl ?_ ?_ ?_ ?_) | (with_reducible exact cx_F_refl _ _) | ((with_reducible (change cx_F _ _ (sx_uf _ _ _ _, _))); refine cx_F_uf rfl ?_) | ((with_reducible (change cx_F _ _ (_, sx_ua _ _ _ _, _))); refine cx_F_ua rfl ?_) | ((with_reducible (change cx_I (_, sx_cpy _ _ _ _ _ _, _))); refine cx_I_cpy rfl rfl rfl (by decide) ?_) | ((with_reducible (change cx_F _ _ (_, sx_cpy _ _ _ _ _ _, _))); refine cx_F_cpy rfl ?_) | ((with_reducible (change cx_F _ _ _)); refine cx_F_step (by assumption) rfl ?_) | ((with_reducible (change rf_f _ _ (sx_uf _ 66 _ _, _))); refine rf_f_uf rfl ?_) | ((with_reducible (change rf_f _ _ _)); exact (fun _ _ => rfl)) | ((with_reducible (change rf_f _ _ (_, sx_ua _ _ _ _, _))); refine rf_f_ua ?_) | ((with_reducible (change rf_f _ _ _)); assumption) | ((with_reducible (change rf_f _ _ _)); refine rf_f_step (by assumption) rfl ?_) | ((with_reducible (change rf_f _ _ _)); refine rf_f_F (by assumption) rfl ?_) | ((with_reducible (change px_g1 _ _ _ (_, sx_ua _ _ _ _, _))); refine px_g1_ua rfl (by omega) ?_) | ((with_reducible (change px_g1 _ _ _ _)); exact px_g1_refl _ _ _) | ((with_reducible (change px_g1 _ _ _ _)); assumption) | ((with_reducible (change sx_ua _ _ _ _ _ = _)); refine px_a_ua rfl ?_) | ((with_reducible (change px_RT _ _ _ (sx_uf _ _ _ _, _))); refine px_RT_uf ?_) | ((with_reducible (change px_RT _ _ _ (_, sx_ua _ 69 _ _, _))); refine px_RT_up (by assumption) (by assumption) (by assumption) (by assumption) (by assumption) (by omega) (px_bl_st (by assumption) (by omega)) (by omega)) | ((with_reducible (change px_RT _ _ _ (_, sx_ua _ _ _ _, _))); refine px_RT_ua rfl ?_) | ((with_reducible (change px_RT _ _ 0 _)); exact px_RT_0) | ((with_reducible (change px_RT _ _ _ _)); assumption) | ((with_reducible (change px_RT _ _ _ _)); refine px_RT_F (by assumption) rfl rfl rfl ?_) | ((with_reducible (change px_REx _ _ _)); exact px_REx_mk (by assumption) (by assumption) (by omega) (by omega)) | ((with_reducible (change (_ : sx_S).1 _ _ = _)); refine px_f_F (by assumption) rfl ?_) | ((with_reducible (change (_ : sx_S).2.1 _ = _)); refine px_a_F (by assumption) rfl ?_) | ((with_reducible (change sx_uf _ _ _ _ _ _ = _)); refine px_f_uf rfl ?_) | ((with_reducible (change px_DT _ _ _ (sx_uf _ _ _ _, _))); refine px_DT_uf ?_) | ((with_reducible (change px_DT _ _ _ _)); assumption) | ((with_reducible (change px_DT _ _ _ _)); refine px_DT_F (by assumption) rfl rfl rfl ?_) | ((with_reducible (change px_TK _ _ (sx_uf _ _ _ _, _))); refine px_TK_uf rfl ?_) | ((with_reducible (change px_TK _ _ _)); assumption) | ((with_reducible (change px_TK _ _ _)); refine px_TK_F (by assumption) rfl rfl rfl rfl ?_) | ((with_reducible (change rf_A _ (sx_uf _ _ _ _, _))); refine rf_A_uf ?_) | ((with_reducible (change rf_A _ (_, sx_ua _ _ _ _, _))); refine rf_A_ua rfl ?_) | ((with_reducible (change rf_A _ _)); assumption) | ((with_reducible (change rf_A _ _)); refine rf_A_F (by assumption) rfl ?_) | ((with_reducible (change px_RQ _ _ (sx_uf _ _ _ _, _))); refine px_RQ_uf ?_) | ((with_reducible (change px_RQ _ _ (_, sx_ua _ _ _ _, _))); refine px_RQ_ua rfl ?_) | ((with_reducible (change px_RQ _ _ _)); assumption) | ((with_reducible (change px_RQ _ _ _)); refine px_RQ_F (by assumption) rfl ?_) | fail)
  all_goals (first | trivial | omega | (dsimp only at *; omega) | (simp only [sx_uf_if, sx_ua_if, sx_w_t, true_and, and_true, and_self, and_false, false_and, if_true, if_false, reduceIte] at *; omega) | (subst_vars; omega) | (subst_vars; simp only [sx_uf_if, sx_ua_if, sx_w_t, true_and, and_true, and_self, and_false, false_and, if_true, if_false, reduceIte] at *; omega) | (exact rf_mz_v (k := x3) p1 (by (first | omega | (dsimp only at *; omega) | (simp only [sx_uf_if, sx_ua_if, sx_w_t, true_and, and_true, and_self, and_false, false_and, if_true, if_false, reduceIte] at *; omega) | (subst_vars; omega) | (subst_vars; simp only [sx_uf_if, sx_ua_if, sx_w_t, true_and, and_true, and_self, and_false, false_and, if_true, if_false, reduceIte] at *; omega))) (by (first | omega | (dsimp only at *; omega) | (simp only [sx_uf_if, sx_ua_if, sx_w_t, true_and, and_true, and_self, and_false, false_and, if_true, if_false, reduceIte] at *; omega) | (subst_vars; omega) | (subst_vars; simp only [sx_uf_if, sx_ua_if, sx_w_t, true_and, and_true, and_self, and_false, false_and, if_true, if_false, reduceIte] at *; omega))) (by first | assumption | (subst_vars; first | rfl | (simp only [sx_uf_if, sx_ua_if, sx_w_t, true_and, and_true, and_self, and_false, false_and, if_true, if_false, reduceIte]; done)) | (simp only [sx_uf_if, sx_ua_if, sx_w_t, true_and, and_true, and_self, and_false, false_and, if_true, if_false, reduceIte] at *; omega)) (by first | assumption | (subst_vars; first | rfl | (simp only [sx_uf_if, sx_ua_if, sx_w_t, true_and, and_true, and_self, and_false, false_and, if_true, if_false, reduceIte]; done)) | (simp only [sx_uf_if, sx_ua_if, sx_w_t, true_and, and_true, and_self, and_false, false_and, if_true, if_false, reduceIte] at *; omega))) | (exact rf_mz_c p1 (by (first | omega | (dsimp only at *; omega) | (simp only [sx_uf_if, sx_ua_if, sx_w_t, true_and, and_true, and_self, and_false, false_and, if_true, if_false, reduceIte] at *; omega) | (subst_vars; omega) | (subst_vars; simp only [sx_uf_if, sx_ua_if, sx_w_t, true_and, and_true, and_self, and_false, false_and, if_true, if_false, reduceIte] at *; omega))) (by (first | omega | (dsimp only at *; omega) | (simp only [sx_uf_if, sx_ua_if, sx_w_t, true_and, and_true, and_self, and_false, false_and, if_true, if_false, reduceIte] at *; omega) | (subst_vars; omega) | (subst_vars; simp only [sx_uf_if, sx_ua_if, sx_w_t, true_and, and_true, and_self, and_false, false_and, if_true, if_false, reduceIte] at *; omega))) (by first | assumption | (subst_vars; first | rfl | (simp only [sx_uf_if, sx_ua_if, sx_w_t, true_and, and_true, and_self, and_false, false_and, if_true, if_false, reduceIte]; done)) | (simp only [sx_uf_if, sx_ua_if, sx_w_t, true_and, and_true, and_self, and_false, false_and, if_true, if_false, reduceIte] at *; omega))) | (exact rf_mz_m p1 (by (first | omega | (dsimp only at *; omega) | (simp only [sx_uf_if, sx_ua_if, sx_w_t, true_and, and_true, and_self, and_false, false_and, if_true, if_false, reduceIte] at *; omega) | (subst_vars; omega) | (subst_vars; simp only [sx_uf_if, sx_ua_if, sx_w_t, true_and, and_true, and_self, and_false, false_and, if_true, if_false, reduceIte] at *; omega))) (by (first | omega | (dsimp only at *; omega) | (simp only [sx_uf_if, sx_ua_if, sx_w_t, true_and, and_true, and_self, and_false, false_and, if_true, if_false, reduceIte] at *; omega) | (subst_vars; omega) | (subst_vars; simp only [sx_uf_if, sx_ua_if, sx_w_t, true_and, and_true, and_self, and_false, false_and, if_true, if_false, reduceIte] at *; omega))) (by first | assumption | (subst_vars; first | rfl | (simp only [sx_uf_if, sx_ua_if, sx_w_t, true_and, and_true, and_self, and_false, false_and, if_true, if_false, reduceIte]; done)) | (simp only [sx_uf_if, sx_ua_if, sx_w_t, true_and, and_true, and_self, and_false, false_and, if_true, if_false, reduceIte] at *; omega))) | (exact px_s1_0 (by (first | omega | (dsimp only at *; omega) | (simp only [sx_uf_if, sx_ua_if, sx_w_t, true_and, and_true, and_self, and_false, false_and, if_true, if_false, reduceIte] at *; omega) | (subst_vars; omega) | (subst_vars; simp only [sx_uf_if, sx_ua_if, sx_w_t, true_and, and_true, and_self, and_false, false_and, if_true, if_false, reduceIte] at *; omega)))) | (obtain ⟨zze, zz1, zz2, zz3, zz4, zz5⟩ := zzt (by omega) (by omega); subst_vars; omega) | (exact px_mq_v (k := x3) p6 (by assumption) (by assumption) (by (first | omega | (dsimp only at *; omega) | (simp only [sx_uf_if, sx_ua_if, sx_w_t, true_and, and_true, and_self, and_false, false_and, if_true, if_false, reduceIte] at *; omega) | (subst_vars; omega) | (subst_vars; simp only [sx_uf_if, sx_ua_if, sx_w_t, true_and, and_true, and_self, and_false, false_and, if_true, if_false, reduceIte] at *; omega))) (by (first | omega | (dsimp only at *; omega) | (simp only [sx_uf_if, sx_ua_if, sx_w_t, true_and, and_true, and_self, and_false, false_and, if_true, if_false, reduceIte] at *; omega) | (subst_vars; omega) | (subst_vars; simp only [sx_uf_if, sx_ua_if, sx_w_t, true_and, and_true, and_self, and_false, false_and, if_true, if_false, reduceIte] at *; omega))) (by (subst_vars; first | assumption | (apply_assumption; omega))) (by first | assumption | (subst_vars; first | rfl | (simp only [sx_uf_if, sx_ua_if, sx_w_t, true_and, and_true, and_self, and_false, false_and, if_true, if_false, reduceIte]; done)) | (simp only [sx_uf_if, sx_ua_if, sx_w_t, true_and, and_true, and_self, and_false, false_and, if_true, if_false, reduceIte] at *; omega)) (by first | assumption | (subst_vars; first | rfl | (simp only [sx_uf_if, sx_ua_if, sx_w_t, true_and, and_true, and_self, and_false, false_and, if_true, if_false, reduceIte]; done)) | (simp only [sx_uf_if, sx_ua_if, sx_w_t, true_and, and_true, and_self, and_false, false_and, if_true, if_false, reduceIte] at *; omega)) (by (first | omega | (dsimp only at *; omega) | (simp only [sx_uf_if, sx_ua_if, sx_w_t, true_and, and_true, and_self, and_false, false_and, if_true, if_false, reduceIte] at *; omega) | (subst_vars; omega) | (subst_vars; simp only [sx_uf_if, sx_ua_if, sx_w_t, true_and, and_true, and_self, and_false, false_and, if_true, if_false, reduceIte] at *; omega)))) | (exact px_mq_c p4 (by assumption) (by (first | omega | (dsimp only at *; omega) | (simp only [sx_uf_if, sx_ua_if, sx_w_t, true_and, and_true, and_self, and_false, false_and, if_true, if_false, reduceIte] at *; omega) | (subst_vars; omega) | (subst_vars; simp only [sx_uf_if, sx_ua_if, sx_w_t, true_and, and_true, and_self, and_false, false_and, if_true, if_false, reduceIte] at *; omega))) (by assumption) (by (subst_vars; first | assumption | (apply_assumption; omega))) (by first | assumption | (subst_vars; first | rfl | (simp only [sx_uf_if, sx_ua_if, sx_w_t, true_and, and_true, and_self, and_false, false_and, if_true, if_false, reduceIte]; done)) | (simp only [sx_uf_if, sx_ua_if, sx_w_t, true_and, and_true, and_self, and_false, false_and, if_true, if_false, reduceIte] at *; omega)) (by (first | omega | (dsimp only at *; omega) | (simp only [sx_uf_if, sx_ua_if, sx_w_t, true_and, and_true, and_self, and_false, false_and, if_true, if_false, reduceIte] at *; omega) | (subst_vars; omega) | (subst_vars; simp only [sx_uf_if, sx_ua_if, sx_w_t, true_and, and_true, and_self, and_false, false_and, if_true, if_false, reduceIte] at *; omega)))) | (exact px_mq_m p5 (by assumption) (by (first | omega | (dsimp only at *; omega) | (simp only [sx_uf_if, sx_ua_if, sx_w_t, true_and, and_true, and_self, and_false, false_and, if_true, if_false, reduceIte] at *; omega) | (subst_vars; omega) | (subst_vars; simp only [sx_uf_if, sx_ua_if, sx_w_t, true_and, and_true, and_self, and_false, false_and, if_true, if_false, reduceIte] at *; omega))) (by assumption) (by (subst_vars; first | assumption | (apply_assumption; omega))) (by (subst_vars; first | assumption | (apply_assumption; omega))) (by first | assumption | (subst_vars; first | rfl | (simp only [sx_uf_if, sx_ua_if, sx_w_t, true_and, and_true, and_self, and_false, false_and, if_true, if_false, reduceIte]; done)) | (simp only [sx_uf_if, sx_ua_if, sx_w_t, true_and, and_true, and_self, and_false, false_and, if_true, if_false, reduceIte] at *; omega)) (by (first | omega | (dsimp only at *; omega) | (simp only [sx_uf_if, sx_ua_if, sx_w_t, true_and, and_true, and_self, and_false, false_and, if_true, if_false, reduceIte] at *; omega) | (subst_vars; omega) | (subst_vars; simp only [sx_uf_if, sx_ua_if, sx_w_t, true_and, and_true, and_self, and_false, false_and, if_true, if_false, reduceIte] at *; omega)))) | (exact px_mq_n (by assumption) (by (first | omega | (dsimp only at *; omega) | (simp only [sx_uf_if, sx_ua_if, sx_w_t, true_and, and_true, and_self, and_false, false_and, if_true, if_false, reduceIte] at *; omega) | (subst_vars; omega) | (subst_vars; simp only [sx_uf_if, sx_ua_if, sx_w_t, true_and, and_true, and_self, and_false, false_and, if_true, if_false, reduceIte] at *; omega))) (by assumption) (by (subst_vars; first | assumption | (apply_assumption; omega))) (by (subst_vars; first | assumption | (apply_assumption; omega))) (by (first | omega | (dsimp only at *; omega) | (simp only [sx_uf_if, sx_ua_if, sx_w_t, true_and, and_true, and_self, and_false, false_and, if_true, if_false, reduceIte] at *; omega) | (subst_vars; omega) | (subst_vars; simp only [sx_uf_if, sx_ua_if, sx_w_t, true_and, and_true, and_self, and_false, false_and, if_true, if_false, reduceIte] at *; omega)))) | (refine px_s1_up (by assumption) (by (first | omega | (dsimp only at *; omega) | (simp only [sx_uf_if, sx_ua_if, sx_w_t, true_and, and_true, and_self, and_false, false_and, if_true, if_false, reduceIte] at *; omega) | (subst_vars; omega) | (subst_vars; simp only [sx_uf_if, sx_ua_if, sx_w_t, true_and, and_true, and_self, and_false, false_and, if_true, if_false, reduceIte] at *; omega))) (by (first | omega | (dsimp only at *; omega) | (simp only [sx_uf_if, sx_ua_if, sx_w_t, true_and, and_true, and_self, and_false, false_and, if_true, if_false, reduceIte] at *; omega) | (subst_vars; omega) | (subst_vars; simp only [sx_uf_if, sx_ua_if, sx_w_t, true_and, and_true, and_self, and_false, false_and, if_true, if_false, reduceIte] at *; omega))) (fun zze zz1 => ?_); obtain ⟨zze', zz1', zz2, zz3, zz4, zz5⟩ := zzt (by omega) (by omega); rw [zz1] at zz1'; cases zz1'; rw [← zz2]; subst_vars; first | assumption | (apply_assumption; omega)) | skip)

theorem w_q_mean_14 {CALL : sx_Ca} {b : Nat → Int} {n : Int} {m : Int} {C : List (Int × qx_T)} {M : List (Int × qx_T)} {Γ : List (Int × qx_T)} {sL : Nat} {sx : Nat → Int32} {Q : Nat → sx_L → sx_S → Prop} {R : Int → sx_S → Prop} (h_q_sn : ∀ (a0 a1 : Int) (s : sx_S) (K : Int → sx_S → Prop), cx_I s → (0 ≤ a0 ∧ a0 ≤ 241) → (0 ≤ a1 ∧ a1 ≤ 241) → (a0 < m ∧ a1 < m) → (px_TN b n m s) → (∀ z : Int, (z = 0 ∨ z = 1) → (z ≠ 0 → px_SN b n a0 a1) → (z = 0 → ¬ px_SN b n a0 a1) → K z s) → CALL 157 [.inr (.inl 66), .inl a0, .inl a1] s K) (h_q_constant : ∀ (a0 : Int) (s : sx_S) (K : Int → sx_S → Prop), cx_I s → (0 ≤ a0 ∧ a0 ≤ 241) → (px_TN b n m s) → (a0 < m ∧ m ≤ 242) → (px_DL 95 96 42 m s C) → (∀ z : Int, (-1 ≤ z ∧ z ≤ 7) → (z = -1 → px_nv (px_SN b n) C a0) → (z ≠ -1 → (0 ≤ z ∧ z < s.1 66 42) ∧ ∃ x, px_cf (px_SN b n) C a0 z.toNat x) → K z s) → CALL 168 [.inr (.inl 66), .inl a0] s K) (h_q_unknown : ∀ (a0 : Int) (s : sx_S) (K : Int → sx_S → Prop), cx_I s → (0 ≤ a0 ∧ a0 ≤ 241) → (px_TN b n m s) → (a0 < m ∧ m ≤ 242) → (px_DL 97 123 45 m s M) → (∀ z : Int, (-1 ≤ z ∧ z ≤ 4) → (z = -1 → px_nv (px_SN b n) M a0) → (z ≠ -1 → (0 ≤ z ∧ z < s.1 66 45) ∧ ∃ x, px_cf (px_SN b n) M a0 z.toNat x) → K z s) → CALL 169 [.inr (.inl 66), .inl a0] s K) (h_r_wrong : ∀ (a0 a1 : Int) (s : sx_S) (K : Int → sx_S → Prop), cx_I s → (1 ≤ a0 ∧ a0 ≤ 6) → (0 ≤ a1 ∧ a1 ≤ 241) → (∀ (z : Int) (t : sx_S), cx_I t → cx_F [(66, 66)] s t → (rf_f [40, 41] s t) → (t.1 66 40 ≠ 0) → ((s.1 66 40 ≠ 0 ∧ t.1 66 40 = s.1 66 40 ∧ t.1 66 41 = s.1 66 41) ∨ (s.1 66 40 = 0 ∧ t.1 66 40 = a0 ∧ t.1 66 41 = a1)) → K z t) → CALL 165 [.inr (.inl 66), .inl a0, .inl a1] s K) {s : sx_S} {a0 : Int} (hI : cx_I s) (p0 : (0 ≤ a0 ∧ a0 ≤ 599)) (p1 : (rf_CK s)) (p2 : (px_TN b n m s)) (p3 : (s.2.1 75 a0.toNat < m ∧ m ≤ 242)) (p4 : (px_DL 95 96 42 m s C)) (p5 : (px_DL 97 123 45 m s M)) (p6 : (px_EV m s Γ)) (p7 : (s.1 66 40 = 0)) (hK : ∀ (z : Int) (t : sx_S), cx_I t → cx_F [(66, 66), (82, 83)] s t → (0 ≤ z ∧ z ≤ 5999) → (rf_f [40, 41] s t) → (rf_ax a0 s t) → ((t.1 66 40 = s.1 66 40 ∧ t.1 66 41 = s.1 66 41) ∨ (t.1 66 40 ≠ 0 ∧ 0 ≤ t.1 66 41 ∧ t.1 66 41 ≤ 241)) → (t.1 66 40 = 0 → rf_mz t a0 z) → (px_mq b n C M Γ s t a0 z) → R z t) {t : sx_S} (hJ : cx_I t) (hF : cx_F [(66, 66), (82, 83)] s t) {x1 x2 x3 : Int} {mm : Nat} (hm : mm = 17179869184 + (x3 + 2147483648).toNat) (i0 : (0 ≤ x1 ∧ x1 ≤ 599)) (i1 : (0 ≤ x2 ∧ x2 ≤ 241)) (i2 : (-1 ≤ x3 ∧ x3 ≤ 59)) (i3 : (x1 = a0)) (i4 : (x3 < s.1 66 34)) (i5 : (t = s)) (i6 : (x2 = s.2.1 75 a0.toNat)) (i7 : (px_s1 (px_SN b n) Γ x2 x3)) (hQ14 : ∀ (x1 x2 x3 : Int) (t : sx_S), cx_I t → cx_F [(66, 66), (82, 83)] s t → (0 ≤ x1 ∧ x1 ≤ 599) → (0 ≤ x2 ∧ x2 ≤ 241) → (-1 ≤ x3 ∧ x3 ≤ 59) → (x1 = a0) → (x3 < s.1 66 34) → (t = s) → (x2 = s.2.1 75 a0.toNat) → (px_s1 (px_SN b n) Γ x2 x3) → (17179869184 + (x3 + 2147483648).toNat < mm) → Q 14 [(0, .inr (.inl 66)), (1, .inl x1), (2, .inl x2), (3, .inl x3)] t) : sx_wp true sL sx eX12_mean CALL [(14, [0, 1, 2, 3])] Q R 400 14 [(0, .inr (.inl 66)), (1, .inl x1), (2, .inl x2), (3, .inl x3)] [] t := by
  have zzl := (p6 trivial).1.1
  have zzt := px_EV_at p6 (k := x3)
  subst i5 i3
  repeat' (first | (with_reducible intro _) | (refine And.intro ?_ ?_) | (refine hK _ _ ?_ ?_ ?_ ?_ ?_ ?_ ?_ ?_) | (refine h_q_sn _ _ _ _ ?_ ?_ ?_ ?_ ?_ ?_) | (refine h_q_constant _ _ _ ?_ ?_ ?_ ?_ ?_ ?_) | (refine h_q_unknown _ _ _ ?_ ?_ ?_ ?_ ?_ ?_) | (refine h_r_wrong _ _ _ _ ?_ ?_ ?_ ?_) | (refine hQ14 _ _ _ _ ?_ ?_ ?_ ?_ ?_ ?_ ?_ ?_ ?_ ?_ ?_))
  all_goals (try dsimp only)
  repeat' (first | (with_reducible assumption) | ((with_reducible (change cx_I (sx_uf _ _ _ _, _))); refine cx_I_uf rfl rfl ?_ ?_ ?_) | ((with_reducible (change cx_I (_, sx_ua _ _ _ _, _))); refine cx_I_ua rfl rfl ?_ ?_ ?_) | ((with_reducible (change cx_I (_, sx_ua _ 16 _ _, _))); refine cx_I_ari ?_ ?_ ?_) | ((with_reducible (change cx_I (sx_uf _ 11 6 _, _))); refine cx_I_ufA rfl ?_ ?_ ?_ ?_) | (with_reducible exact cx_F_refl _ _) | ((with_reducible (change cx_F _ _ (sx_uf _ _ _ _, _))); refine cx_F_uf rfl ?_) | ((with_reducible (change cx_F _ _ (_, sx_ua _ _ _ _, _))); refine cx_F_ua rfl ?_) | ((with_reducible (change cx_I (_, sx_cpy _ _ _ _ _ _, _))); refine cx_I_cpy rfl rfl rfl (by decide) ?_) | ((with_reducible (change cx_F _ _ (_, sx_cpy _ _ _ _ _ _, _))); refine cx_F_cpy rfl ?_) | ((with_reducible (change cx_F _ _ _)); refine cx_F_step (by assumption) rfl ?_) | ((with_reducible (change rf_f _ _ (sx_uf _ 66 _ _, _))); refine rf_f_uf rfl ?_) | ((with_reducible (change rf_f _ _ _)); exact (fun _ _ => rfl)) | ((with_reducible (change rf_f _ _ (_, sx_ua _ _ _ _, _))); refine rf_f_ua ?_) | ((with_reducible (change rf_f _ _ _)); assumption) | ((with_reducible (change rf_f _ _ _)); refine rf_f_step (by assumption) rfl ?_) | ((with_reducible (change rf_f _ _ _)); refine rf_f_F (by assumption) rfl ?_) | ((with_reducible (change px_g1 _ _ _ (_, sx_ua _ _ _ _, _))); refine px_g1_ua rfl (by omega) ?_) | ((with_reducible (change px_g1 _ _ _ _)); exact px_g1_refl _ _ _) | ((with_reducible (change px_g1 _ _ _ _)); assumption) | ((with_reducible (change sx_ua _ _ _ _ _ = _)); refine px_a_ua rfl ?_) | ((with_reducible (change px_RT _ _ _ (sx_uf _ _ _ _, _))); refine px_RT_uf ?_) | ((with_reducible (change px_RT _ _ _ (_, sx_ua _ 69 _ _, _))); refine px_RT_up (by assumption) (by assumption) (by assumption) (by assumption) (by assumption) (by omega) (px_bl_st (by assumption) (by omega)) (by omega)) | ((with_reducible (change px_RT _ _ _ (_, sx_ua _ _ _ _, _))); refine px_RT_ua rfl ?_) | ((with_reducible (change px_RT _ _ 0 _)); exact px_RT_0) | ((with_reducible (change px_RT _ _ _ _)); assumption) | ((with_reducible (change px_RT _ _ _ _)); refine px_RT_F (by assumption) rfl rfl rfl ?_) | ((with_reducible (change px_REx _ _ _)); exact px_REx_mk (by assumption) (by assumption) (by omega) (by omega)) | ((with_reducible (change (_ : sx_S).1 _ _ = _)); refine px_f_F (by assumption) rfl ?_) | ((with_reducible (change (_ : sx_S).2.1 _ = _)); refine px_a_F (by assumption) rfl ?_) | ((with_reducible (change sx_uf _ _ _ _ _ _ = _)); refine px_f_uf rfl ?_) | ((with_reducible (change px_DT _ _ _ (sx_uf _ _ _ _, _))); refine px_DT_uf ?_) | ((with_reducible (change px_DT _ _ _ _)); assumption) | ((with_reducible (change px_DT _ _ _ _)); refine px_DT_F (by assumption) rfl rfl rfl ?_) | ((with_reducible (change px_TK _ _ (sx_uf _ _ _ _, _))); refine px_TK_uf rfl ?_) | ((with_reducible (change px_TK _ _ _)); assumption) | ((with_reducible (change px_TK _ _ _)); refine px_TK_F (by assumption) rfl rfl rfl rfl ?_) | ((with_reducible (change rf_A _ (sx_uf _ _ _ _, _))); refine rf_A_uf ?_) | ((with_reducible (change rf_A _ (_, sx_ua _ _ _ _, _))); refine rf_A_ua rfl ?_) | ((with_reducible (change rf_A _ _)); assumption) | ((with_reducible (change rf_A _ _)); refine rf_A_F (by assumption) rfl ?_) | ((with_reducible (change px_RQ _ _ (sx_uf _ _ _ _, _))); refine px_RQ_uf ?_) | ((with_reducible (change px_RQ _ _ (_, sx_ua _ _ _ _, _))); refine px_RQ_ua rfl ?_) | ((with_reducible (change px_RQ _ _ _)); assumption) | ((with_reducible (change px_RQ _ _ _)); refine px_RQ_F (by assumption) rfl ?_) | ((with_reducible (change rf_ax _ _ _)); assumption) | ((with_reducible (change rf_ax _ _ _)); exact rf_ax_refl _ _) | ((with_reducible (change rf_ax _ _ (sx_uf _ _ _ _, _))); refine rf_ax_uf ?_) | ((with_reducible (change rf_ax _ _ (_, sx_ua _ _ _ _, _))); refine rf_ax_ua (by (first | omega | (dsimp only at *; omega) | (simp only [sx_uf_if, sx_ua_if, sx_w_t, true_and, and_true, and_self, and_false, false_and, if_true, if_false, reduceIte] at *; omega) | rfl)) (by (first | omega | (dsimp only at *; omega) | (simp only [sx_uf_if, sx_ua_if, sx_w_t, true_and, and_true, and_self, and_false, false_and, if_true, if_false, reduceIte] at *; omega) | rfl)) ?_) | ((with_reducible (change rf_ax _ _ _)); refine rf_ax_F (by assumption) rfl ?_) | fail)
  repeat' (first | (with_reducible assumption) | ((with_reducible (change cx_I (sx_uf _ _ _ _, _))); refine cx_I_uf rfl rfl ?_ ?_ ?_) | ((with_reducible (change cx_I (_, sx_ua _ _ _ _, _))); refine cx_I_ua rfl rfl ?_ ?_ ?_) | ((with_reducible (change cx_I (_, sx_ua _ 16 _ _, _))); refine cx_I_ari ?_ ?_ ?_) | ((with_reducible (change cx_I (sx_uf _ 11 6 _, _))); refine cx_I_ufA rfl ?_ ?_ ?_ ?_) | (with_reducible exact cx_F_refl _ _) | ((with_reducible (change cx_F _ _ (sx_uf _ _ _ _, _))); refine cx_F_uf rfl ?_) | ((with_reducible (change cx_F _ _ (_, sx_ua _ _ _ _, _))); refine cx_F_ua rfl ?_) | ((with_reducible (change cx_I (_, sx_cpy _ _ _ _ _ _, _))); refine cx_I_cpy rfl rfl rfl (by decide) ?_) | ((with_reducible (change cx_F _ _ (_, sx_cpy _ _ _ _ _ _, _))); refine cx_F_cpy rfl ?_) | ((with_reducible (change cx_F _ _ _)); refine cx_F_step (by assumption) rfl ?_) | ((with_reducible (change rf_f _ _ (sx_uf _ 66 _ _, _))); refine rf_f_uf rfl ?_) | ((with_reducible (change rf_f _ _ _)); exact (fun _ _ => rfl)) | ((with_reducible (change rf_f _ _ (_, sx_ua _ _ _ _, _))); refine rf_f_ua ?_) | ((with_reducible (change rf_f _ _ _)); assumption) | ((with_reducible (change rf_f _ _ _)); refine rf_f_step (by assumption) rfl ?_) | ((with_reducible (change rf_f _ _ _)); refine rf_f_F (by assumption) rfl ?_) | ((with_reducible (change px_g1 _ _ _ (_, sx_ua _ _ _ _, _))); refine px_g1_ua rfl (by omega) ?_) | ((with_reducible (change px_g1 _ _ _ _)); exact px_g1_refl _ _ _) | ((with_reducible (change px_g1 _ _ _ _)); assumption) | ((with_reducible (change sx_ua _ _ _ _ _ = _)); refine px_a_ua rfl ?_) | ((with_reducible (change px_RT _ _ _ (sx_uf _ _ _ _, _))); refine px_RT_uf ?_) | ((with_reducible (change px_RT _ _ _ (_, sx_ua _ 69 _ _, _))); refine px_RT_up (by assumption) (by assumption) (by assumption) (by assumption) (by assumption) (by omega) (px_bl_st (by assumption) (by omega)) (by omega)) | ((with_reducible (change px_RT _ _ _ (_, sx_ua _ _ _ _, _))); refine px_RT_ua rfl ?_) | ((with_reducible (change px_RT _ _ 0 _)); exact px_RT_0) | ((with_reducible (change px_RT _ _ _ _)); assumption) | ((with_reducible (change px_RT _ _ _ _)); refine px_RT_F (by assumption) rfl rfl rfl ?_) | ((with_reducible (change px_REx _ _ _)); exact px_REx_mk (by assumption) (by assumption) (by omega) (by omega)) | ((with_reducible (change (_ : sx_S).1 _ _ = _)); refine px_f_F (by assumption) rfl ?_) | ((with_reducible (change (_ : sx_S).2.1 _ = _)); refine px_a_F (by assumption) rfl ?_) | ((with_reducible (change sx_uf _ _ _ _ _ _ = _)); refine px_f_uf rfl ?_) | ((with_reducible (change px_DT _ _ _ (sx_uf _ _ _ _, _))); refine px_DT_uf ?_) | ((with_reducible (change px_DT _ _ _ _)); assumption) | ((with_reducible (change px_DT _ _ _ _)); refine px_DT_F (by assumption) rfl rfl rfl ?_) | ((with_reducible (change px_TK _ _ (sx_uf _ _ _ _, _))); refine px_TK_uf rfl ?_) | ((with_reducible (change px_TK _ _ _)); assumption) | ((with_reducible (change px_TK _ _ _)); refine px_TK_F (by assumption) rfl rfl rfl rfl ?_) | ((with_reducible (change rf_A _ (sx_uf _ _ _ _, _))); refine rf_A_uf ?_) | ((with_reducible (change rf_A _ (_, sx_ua _ _ _ _, _))); refine rf_A_ua rfl ?_) | ((with_reducible (change rf_A _ _)); assumption) | ((with_reducible (change rf_A _ _)); refine rf_A_F (by assumption) rfl ?_) | ((with_reducible (change px_RQ _ _ (sx_uf _ _ _ _, _))); refine px_RQ_uf ?_) | ((with_reducible (change px_RQ _ _ (_, sx_ua _ _ _ _, _))); refine px_RQ_ua rfl ?_) | ((with_reducible (change px_RQ _ _ _)); assumption) | ((with_reducible (change px_RQ _ _ _)); refine px_RQ_F (by assumption) rfl ?_) | fail)
  all_goals (first | trivial | omega | (dsimp only at *; omega) | (simp only [sx_uf_if, sx_ua_if, sx_w_t, true_and, and_true, and_self, and_false, false_and, if_true, if_false, reduceIte] at *; omega) | (subst_vars; omega) | (subst_vars; simp only [sx_uf_if, sx_ua_if, sx_w_t, true_and, and_true, and_self, and_false, false_and, if_true, if_false, reduceIte] at *; omega) | (exact rf_mz_v (k := x3) p1 (by (first | omega | (dsimp only at *; omega) | (simp only [sx_uf_if, sx_ua_if, sx_w_t, true_and, and_true, and_self, and_false, false_and, if_true, if_false, reduceIte] at *; omega) | (subst_vars; omega) | (subst_vars; simp only [sx_uf_if, sx_ua_if, sx_w_t, true_and, and_true, and_self, and_false, false_and, if_true, if_false, reduceIte] at *; omega))) (by (first | omega | (dsimp only at *; omega) | (simp only [sx_uf_if, sx_ua_if, sx_w_t, true_and, and_true, and_self, and_false, false_and, if_true, if_false, reduceIte] at *; omega) | (subst_vars; omega) | (subst_vars; simp only [sx_uf_if, sx_ua_if, sx_w_t, true_and, and_true, and_self, and_false, false_and, if_true, if_false, reduceIte] at *; omega))) (by first | assumption | (subst_vars; first | rfl | (simp only [sx_uf_if, sx_ua_if, sx_w_t, true_and, and_true, and_self, and_false, false_and, if_true, if_false, reduceIte]; done)) | (simp only [sx_uf_if, sx_ua_if, sx_w_t, true_and, and_true, and_self, and_false, false_and, if_true, if_false, reduceIte] at *; omega)) (by first | assumption | (subst_vars; first | rfl | (simp only [sx_uf_if, sx_ua_if, sx_w_t, true_and, and_true, and_self, and_false, false_and, if_true, if_false, reduceIte]; done)) | (simp only [sx_uf_if, sx_ua_if, sx_w_t, true_and, and_true, and_self, and_false, false_and, if_true, if_false, reduceIte] at *; omega))) | (exact rf_mz_c p1 (by (first | omega | (dsimp only at *; omega) | (simp only [sx_uf_if, sx_ua_if, sx_w_t, true_and, and_true, and_self, and_false, false_and, if_true, if_false, reduceIte] at *; omega) | (subst_vars; omega) | (subst_vars; simp only [sx_uf_if, sx_ua_if, sx_w_t, true_and, and_true, and_self, and_false, false_and, if_true, if_false, reduceIte] at *; omega))) (by (first | omega | (dsimp only at *; omega) | (simp only [sx_uf_if, sx_ua_if, sx_w_t, true_and, and_true, and_self, and_false, false_and, if_true, if_false, reduceIte] at *; omega) | (subst_vars; omega) | (subst_vars; simp only [sx_uf_if, sx_ua_if, sx_w_t, true_and, and_true, and_self, and_false, false_and, if_true, if_false, reduceIte] at *; omega))) (by first | assumption | (subst_vars; first | rfl | (simp only [sx_uf_if, sx_ua_if, sx_w_t, true_and, and_true, and_self, and_false, false_and, if_true, if_false, reduceIte]; done)) | (simp only [sx_uf_if, sx_ua_if, sx_w_t, true_and, and_true, and_self, and_false, false_and, if_true, if_false, reduceIte] at *; omega))) | (exact rf_mz_m p1 (by (first | omega | (dsimp only at *; omega) | (simp only [sx_uf_if, sx_ua_if, sx_w_t, true_and, and_true, and_self, and_false, false_and, if_true, if_false, reduceIte] at *; omega) | (subst_vars; omega) | (subst_vars; simp only [sx_uf_if, sx_ua_if, sx_w_t, true_and, and_true, and_self, and_false, false_and, if_true, if_false, reduceIte] at *; omega))) (by (first | omega | (dsimp only at *; omega) | (simp only [sx_uf_if, sx_ua_if, sx_w_t, true_and, and_true, and_self, and_false, false_and, if_true, if_false, reduceIte] at *; omega) | (subst_vars; omega) | (subst_vars; simp only [sx_uf_if, sx_ua_if, sx_w_t, true_and, and_true, and_self, and_false, false_and, if_true, if_false, reduceIte] at *; omega))) (by first | assumption | (subst_vars; first | rfl | (simp only [sx_uf_if, sx_ua_if, sx_w_t, true_and, and_true, and_self, and_false, false_and, if_true, if_false, reduceIte]; done)) | (simp only [sx_uf_if, sx_ua_if, sx_w_t, true_and, and_true, and_self, and_false, false_and, if_true, if_false, reduceIte] at *; omega))) | (exact px_s1_0 (by (first | omega | (dsimp only at *; omega) | (simp only [sx_uf_if, sx_ua_if, sx_w_t, true_and, and_true, and_self, and_false, false_and, if_true, if_false, reduceIte] at *; omega) | (subst_vars; omega) | (subst_vars; simp only [sx_uf_if, sx_ua_if, sx_w_t, true_and, and_true, and_self, and_false, false_and, if_true, if_false, reduceIte] at *; omega)))) | (obtain ⟨zze, zz1, zz2, zz3, zz4, zz5⟩ := zzt (by omega) (by omega); subst_vars; omega) | (exact px_mq_v (k := x3) p6 (by assumption) (by assumption) (by (first | omega | (dsimp only at *; omega) | (simp only [sx_uf_if, sx_ua_if, sx_w_t, true_and, and_true, and_self, and_false, false_and, if_true, if_false, reduceIte] at *; omega) | (subst_vars; omega) | (subst_vars; simp only [sx_uf_if, sx_ua_if, sx_w_t, true_and, and_true, and_self, and_false, false_and, if_true, if_false, reduceIte] at *; omega))) (by (first | omega | (dsimp only at *; omega) | (simp only [sx_uf_if, sx_ua_if, sx_w_t, true_and, and_true, and_self, and_false, false_and, if_true, if_false, reduceIte] at *; omega) | (subst_vars; omega) | (subst_vars; simp only [sx_uf_if, sx_ua_if, sx_w_t, true_and, and_true, and_self, and_false, false_and, if_true, if_false, reduceIte] at *; omega))) (by (subst_vars; first | assumption | (apply_assumption; omega))) (by first | assumption | (subst_vars; first | rfl | (simp only [sx_uf_if, sx_ua_if, sx_w_t, true_and, and_true, and_self, and_false, false_and, if_true, if_false, reduceIte]; done)) | (simp only [sx_uf_if, sx_ua_if, sx_w_t, true_and, and_true, and_self, and_false, false_and, if_true, if_false, reduceIte] at *; omega)) (by first | assumption | (subst_vars; first | rfl | (simp only [sx_uf_if, sx_ua_if, sx_w_t, true_and, and_true, and_self, and_false, false_and, if_true, if_false, reduceIte]; done)) | (simp only [sx_uf_if, sx_ua_if, sx_w_t, true_and, and_true, and_self, and_false, false_and, if_true, if_false, reduceIte] at *; omega)) (by (first | omega | (dsimp only at *; omega) | (simp only [sx_uf_if, sx_ua_if, sx_w_t, true_and, and_true, and_self, and_false, false_and, if_true, if_false, reduceIte] at *; omega) | (subst_vars; omega) | (subst_vars; simp only [sx_uf_if, sx_ua_if, sx_w_t, true_and, and_true, and_self, and_false, false_and, if_true, if_false, reduceIte] at *; omega)))) | (exact px_mq_c p4 (by assumption) (by (first | omega | (dsimp only at *; omega) | (simp only [sx_uf_if, sx_ua_if, sx_w_t, true_and, and_true, and_self, and_false, false_and, if_true, if_false, reduceIte] at *; omega) | (subst_vars; omega) | (subst_vars; simp only [sx_uf_if, sx_ua_if, sx_w_t, true_and, and_true, and_self, and_false, false_and, if_true, if_false, reduceIte] at *; omega))) (by assumption) (by (subst_vars; first | assumption | (apply_assumption; omega))) (by first | assumption | (subst_vars; first | rfl | (simp only [sx_uf_if, sx_ua_if, sx_w_t, true_and, and_true, and_self, and_false, false_and, if_true, if_false, reduceIte]; done)) | (simp only [sx_uf_if, sx_ua_if, sx_w_t, true_and, and_true, and_self, and_false, false_and, if_true, if_false, reduceIte] at *; omega)) (by (first | omega | (dsimp only at *; omega) | (simp only [sx_uf_if, sx_ua_if, sx_w_t, true_and, and_true, and_self, and_false, false_and, if_true, if_false, reduceIte] at *; omega) | (subst_vars; omega) | (subst_vars; simp only [sx_uf_if, sx_ua_if, sx_w_t, true_and, and_true, and_self, and_false, false_and, if_true, if_false, reduceIte] at *; omega)))) | (exact px_mq_m p5 (by assumption) (by (first | omega | (dsimp only at *; omega) | (simp only [sx_uf_if, sx_ua_if, sx_w_t, true_and, and_true, and_self, and_false, false_and, if_true, if_false, reduceIte] at *; omega) | (subst_vars; omega) | (subst_vars; simp only [sx_uf_if, sx_ua_if, sx_w_t, true_and, and_true, and_self, and_false, false_and, if_true, if_false, reduceIte] at *; omega))) (by assumption) (by (subst_vars; first | assumption | (apply_assumption; omega))) (by (subst_vars; first | assumption | (apply_assumption; omega))) (by first | assumption | (subst_vars; first | rfl | (simp only [sx_uf_if, sx_ua_if, sx_w_t, true_and, and_true, and_self, and_false, false_and, if_true, if_false, reduceIte]; done)) | (simp only [sx_uf_if, sx_ua_if, sx_w_t, true_and, and_true, and_self, and_false, false_and, if_true, if_false, reduceIte] at *; omega)) (by (first | omega | (dsimp only at *; omega) | (simp only [sx_uf_if, sx_ua_if, sx_w_t, true_and, and_true, and_self, and_false, false_and, if_true, if_false, reduceIte] at *; omega) | (subst_vars; omega) | (subst_vars; simp only [sx_uf_if, sx_ua_if, sx_w_t, true_and, and_true, and_self, and_false, false_and, if_true, if_false, reduceIte] at *; omega)))) | (exact px_mq_n (by assumption) (by (first | omega | (dsimp only at *; omega) | (simp only [sx_uf_if, sx_ua_if, sx_w_t, true_and, and_true, and_self, and_false, false_and, if_true, if_false, reduceIte] at *; omega) | (subst_vars; omega) | (subst_vars; simp only [sx_uf_if, sx_ua_if, sx_w_t, true_and, and_true, and_self, and_false, false_and, if_true, if_false, reduceIte] at *; omega))) (by assumption) (by (subst_vars; first | assumption | (apply_assumption; omega))) (by (subst_vars; first | assumption | (apply_assumption; omega))) (by (first | omega | (dsimp only at *; omega) | (simp only [sx_uf_if, sx_ua_if, sx_w_t, true_and, and_true, and_self, and_false, false_and, if_true, if_false, reduceIte] at *; omega) | (subst_vars; omega) | (subst_vars; simp only [sx_uf_if, sx_ua_if, sx_w_t, true_and, and_true, and_self, and_false, false_and, if_true, if_false, reduceIte] at *; omega)))) | (refine px_s1_up (by assumption) (by (first | omega | (dsimp only at *; omega) | (simp only [sx_uf_if, sx_ua_if, sx_w_t, true_and, and_true, and_self, and_false, false_and, if_true, if_false, reduceIte] at *; omega) | (subst_vars; omega) | (subst_vars; simp only [sx_uf_if, sx_ua_if, sx_w_t, true_and, and_true, and_self, and_false, false_and, if_true, if_false, reduceIte] at *; omega))) (by (first | omega | (dsimp only at *; omega) | (simp only [sx_uf_if, sx_ua_if, sx_w_t, true_and, and_true, and_self, and_false, false_and, if_true, if_false, reduceIte] at *; omega) | (subst_vars; omega) | (subst_vars; simp only [sx_uf_if, sx_ua_if, sx_w_t, true_and, and_true, and_self, and_false, false_and, if_true, if_false, reduceIte] at *; omega))) (fun zze zz1 => ?_); obtain ⟨zze', zz1', zz2, zz3, zz4, zz5⟩ := zzt (by omega) (by omega); rw [zz1] at zz1'; cases zz1'; rw [← zz2]; subst_vars; first | assumption | (apply_assumption; omega)) | skip)

theorem c_q_mean {sL : Nat} {sx : Nat → Int32} (hsL : sL ≤ 3072) (d : Nat) (hd : 5 ≤ d) (b : Nat → Int) (n : Int) (m : Int) (C : List (Int × qx_T)) (M : List (Int × qx_T)) (Γ : List (Int × qx_T)) : ∀ (a0 : Int) (s : sx_S) (K : Int → sx_S → Prop), cx_I s → (0 ≤ a0 ∧ a0 ≤ 599) → (rf_CK s) → (px_TN b n m s) → (s.2.1 75 a0.toNat < m ∧ m ≤ 242) → (px_DL 95 96 42 m s C) → (px_DL 97 123 45 m s M) → (px_EV m s Γ) → (s.1 66 40 = 0) → (∀ (z : Int) (t : sx_S), cx_I t → cx_F [(66, 66), (82, 83)] s t → (0 ≤ z ∧ z ≤ 5999) → (rf_f [40, 41] s t) → (rf_ax a0 s t) → ((t.1 66 40 = s.1 66 40 ∧ t.1 66 41 = s.1 66 41) ∨ (t.1 66 40 ≠ 0 ∧ 0 ≤ t.1 66 41 ∧ t.1 66 41 ≤ 241)) → (t.1 66 40 = 0 → rf_mz t a0 z) → (px_mq b n C M Γ s t a0 z) → K z t) → sx_C sL sx d 170 [.inr (.inl 66), .inl a0] s K := by
  intro a0 s K hI p0 p1 p2 p3 p4 p5 p6 p7 hK
  obtain ⟨d, rfl⟩ : ∃ e, d = e + 2 := ⟨d - 2, by omega⟩
  refine sx_methL (wr := true) (n := 400) (n' := 400) (stop := [(14, [0, 1, 2, 3])]) (fun nn pc ls u => (pc = 14 ∧ ∃ (x1 x2 x3 : Int), ls = [(0, .inr (.inl 66)), (1, .inl x1), (2, .inl x2), (3, .inl x3)] ∧ cx_I u ∧ cx_F [(66, 66), (82, 83)] s u ∧ (0 ≤ x1 ∧ x1 ≤ 599) ∧ (0 ≤ x2 ∧ x2 ≤ 241) ∧ (-1 ≤ x3 ∧ x3 ≤ 59) ∧ (x1 = a0) ∧ (x3 < s.1 66 34) ∧ (u = s) ∧ (x2 = s.2.1 75 a0.toNat) ∧ (px_s1 (px_SN b n) Γ x2 x3) ∧ nn = 17179869184 + (x3 + 2147483648).toNat)) hsL (e := eX12_mean) rfl ?_ ?_
  · exact w_q_mean (c_q_sn hsL (d + 1) (by omega) b n m) (c_q_constant hsL (d + 1) (by omega) b n m C) (c_q_unknown hsL (d + 1) (by omega) b n m M) (c_r_wrong hsL (d + 1) (by omega)) hI p0 p1 p2 p3 p4 p5 p6 p7 hK (fun x1 x2 x3 u j1 j2 i0 i1 i2 i3 i4 i5 i6 i7 => ⟨_, ⟨rfl, x1, x2, x3, rfl, j1, j2, i0, i1, i2, i3, i4, i5, i6, i7, rfl⟩⟩)
  · rintro nn pc ls u (⟨rfl, x1, x2, x3, rfl, j1, j2, i0, i1, i2, i3, i4, i5, i6, i7, rfl⟩)
    · exact w_q_mean_14 (c_q_sn hsL (d + 1) (by omega) b n m) (c_q_constant hsL (d + 1) (by omega) b n m C) (c_q_unknown hsL (d + 1) (by omega) b n m M) (c_r_wrong hsL (d + 1) (by omega)) hI p0 p1 p2 p3 p4 p5 p6 p7 hK j1 j2 rfl i0 i1 i2 i3 i4 i5 i6 i7 (fun x1 x2 x3 u j1 j2 i0 i1 i2 i3 i4 i5 i6 i7 hm => ⟨_, hm, ⟨rfl, x1, x2, x3, rfl, j1, j2, i0, i1, i2, i3, i4, i5, i6, i7, rfl⟩⟩)
end
section
/-! ===== the reference: distinct, exactly ===== -/
theorem rf_lf2_fun : ∀ {n : rf_N}, (∀ {us : List Int} {v v' : Int}, (rf_lf2 n).1 us v → (rf_lf2 n).1 us v' → v = v') ∧ (∀ {us us' : List Int}, (rf_lf2 n).2 us → (rf_lf2 n).2 us' → us = us')
  | .leaf => ⟨fun h _ => h.elim, fun h g => h.trans g.symm⟩
  | .inner j k u f x => by
    have hf := rf_lf2_fun (n := f)
    have hx := rf_lf2_fun (n := x)
    have h1 : ∀ {us : List Int} {v v' : Int}, (rf_lf2 (.inner j k u f x)).1 us v → (rf_lf2 (.inner j k u f x)).1 us v' → v = v' := by
      intro us v v' h g
      rcases h with ⟨h1, h2⟩ | ⟨h1, h2, _⟩ <;> rcases g with ⟨g1, g2⟩ | ⟨g1, g2, _⟩
      · exact hf.1 h2 g2
      · omega
      · omega
      · exact h2.symm.trans g2
    refine ⟨h1, ?_⟩
    intro us us' h g
    obtain ⟨w, r, a1, a2, a3⟩ := rf_lf2_c.mp h
    obtain ⟨w', r', b1, b2, b3⟩ := rf_lf2_c.mp g
    rw [a1, b1, h1 a2 b2, hx.2 a3 b3]
/-- a variable found has a number -/
theorem rf_lf_pos {s : sx_S} {P : Nat → rf_T → Prop} : ∀ {n : rf_N} {A : rf_T} {us : List Int} {v : Int}, (rf_gt (rf_RH s) P n).1 A → (rf_lf2 n).1 us v → 0 ≤ v
  | .leaf, _, _, _, h, _ => h.elim
  | .inner j k u f x, A, us, v, h, g => by
    rcases h with ⟨h1, A', B', _, _, h4⟩ | ⟨h1, w, h2, _⟩ <;> rcases g with ⟨g1, g2⟩ | ⟨g1, g2, _⟩
    · exact rf_lf_pos h4 g2
    · omega
    · exact absurd g1 h1
    · rcases h2.2 with ⟨q, _⟩ | ⟨q, _⟩ | ⟨q, q2⟩ | ⟨q, _⟩
      · exact absurd q h1
      · omega
      · rw [← g2]
        exact q2.1.1
      · omega
theorem rf_lf2_split {b : rf_N} : ∀ {a : rf_N} {vs : List Int}, (rf_lf2 (rf_snoc a b)).2 vs → ∃ va vb, vs = va ++ vb ∧ (rf_lf2 a).2 va ∧ (rf_lf2 b).2 vb
  | .leaf, vs, h => ⟨[], vs, rfl, rfl, h⟩
  | .inner j k u f x, vs, h => by
    obtain ⟨w, r, a1, a2, a3⟩ := rf_lf2_c.mp h
    obtain ⟨va, vb, b1, b2, b3⟩ := rf_lf2_split a3
    exact ⟨w :: va, vb, by rw [a1, b1]; rfl, rf_lf2_c.mpr ⟨w, va, rfl, a2, b2⟩, b3⟩

theorem w_q_distinct_47 {CALL : sx_Ca} {sL : Nat} {sx : Nat → Int32} {Q : Nat → sx_L → sx_S → Prop} {R : Int → sx_S → Prop} (h_wrong : ∀ (a0 a1 : Int) (s : sx_S) (K : Int → sx_S → Prop), cx_I s → (1 ≤ a0 ∧ a0 ≤ 6) → (0 ≤ a1 ∧ a1 ≤ 241) → (∀ (z : Int) (t : sx_S), cx_I t → cx_F [(66, 66)] s t → (rf_f [40, 41] s t) → (t.1 66 40 ≠ 0) → ((s.1 66 40 ≠ 0 ∧ t.1 66 40 = s.1 66 40 ∧ t.1 66 41 = s.1 66 41) ∨ (s.1 66 40 = 0 ∧ t.1 66 40 = a0 ∧ t.1 66 41 = a1)) → K z t) → CALL 165 [.inr (.inl 66), .inl a0, .inl a1] s K) {s : sx_S} {r x2 x3 x4 : Int} {PB : Int → sx_S → Prop} {PV : Int → sx_S → Int → Prop} (hI : cx_I s) (q : 0 ≤ r ∧ r ≤ 599) (q2 : 0 ≤ x2 ∧ x2 ≤ 599) (q3 : -2147483648 ≤ x3 ∧ x3 ≤ 2147483647) (q4 : 0 ≤ x4 ∧ x4 ≤ 599) (hE : x4 = x2 → ∀ u : Int, u = s.2.1 81 x2.toNat → Q 7 [(0, .inr (.inl 66)), (1, .inl r), (2, .inl u)] s) (hB : x4 ≠ x2 → ∀ K : Int → sx_S → Prop, (∀ z t, PB z t → K z t) → CALL 182 [.inr (.inl 66), .inl x4] s K) (hV : ∀ z t, PB z t → ∀ K : Int → sx_S → Prop, (∀ w, PV z t w → K w t) → CALL 183 [.inr (.inl 66), .inl z] t K) (hIB : ∀ z t, PB z t → cx_I t) (hVr : ∀ z t w, PV z t w → -2147483648 ≤ w ∧ w ≤ 2147483647) (hW : ∀ z t w, PB z t → PV z t w → w = x3 → ∀ t', cx_I t' → cx_F [(66, 66)] t t' → rf_f [40, 41] t t' → t'.1 66 40 ≠ 0 → ((t.1 66 40 ≠ 0 ∧ t'.1 66 40 = t.1 66 40 ∧ t'.1 66 41 = t.1 66 41) ∨ (t.1 66 40 = 0 ∧ t'.1 66 40 = 5 ∧ t'.1 66 41 = t.2.1 75 r.toNat)) → ∀ u : Int, u = t'.2.1 81 x4.toNat → Q 47 [(0, .inr (.inl 66)), (1, .inl r), (2, .inl x2), (3, .inl x3), (4, .inl u)] t') (hQ : ∀ z t w, PB z t → PV z t w → w ≠ x3 → ∀ u : Int, u = t.2.1 81 x4.toNat → Q 47 [(0, .inr (.inl 66)), (1, .inl r), (2, .inl x2), (3, .inl x3), (4, .inl u)] t) : sx_wp true sL sx eX12_distinct CALL [(7, [0, 1, 2]), (47, [0, 1, 2, 3, 4])] Q R 400 47 [(0, .inr (.inl 66)), (1, .inl r), (2, .inl x2), (3, .inl x3), (4, .inl x4)] [] s := by
  repeat' (first | (with_reducible intro _) | (refine And.intro ?_ ?_) | (refine hE ?_ _ ?_) | (refine hQ _ _ _ (by assumption) (by assumption) ?_ _ ?_) | (refine hB ?_ _ ?_) | (refine hV _ _ (by assumption) _ ?_) | (refine h_wrong _ _ _ _ ?_ ?_ ?_ ?_) | (refine hW _ _ _ (by assumption) (by assumption) (by omega) _ (by assumption) (by assumption) (by assumption) (by assumption) ?_ _ ?_))
  all_goals (try dsimp only)
  all_goals (first | trivial | assumption | omega | (exact hIB _ _ (by assumption)) | (exact (hVr _ _ _ (by assumption)).1) | (exact (hVr _ _ _ (by assumption)).2) | (dsimp only at *; omega) | skip)

theorem c_q_distinct {sL : Nat} {sx : Nat → Int32} (hsL : sL ≤ 3072) (Z d : Nat) (hZ : Z ≤ 1000) (hd : 10 * Z + 40 ≤ d) : ∀ (fm : rf_N) (U x : rf_T) (Γ : List Int) (r : Int) (s : sx_S) (K : Int → sx_S → Prop), cx_I s → (0 ≤ r ∧ r ≤ 599) → rf_ym s fm (s.2.1 80 r.toNat) → (rf_idx fm).Nodup → (rf_gt (rf_RH s) (rf_RP s) fm).2 U x → rf_at U ≤ 5 → (rf_gd fm).2 → (rf_sc rf_G1 fm).2 Γ → (rf_ht fm).2 ≤ Z → (2 ≤ s.1 66 9 ∧ s.1 66 9 ≤ 6000) → rf_RB s (4 * (rf_idx fm).length) → s.1 66 40 = 0 → (∀ (z : Int) (t : sx_S), cx_I t → rf_FC s t [] → rf_f [40, 41, 50, 56, 58] s t → rf_CB s t (4 * (rf_idx fm).length) → (t.1 66 40 = 0 → ∃ vs, (rf_lf2 fm).2 vs ∧ vs.Nodup) → (t.1 66 40 = 0 ∨ (0 ≤ t.1 66 41 ∧ t.1 66 41 ≤ 241)) → (t.1 66 40 ≠ 0 → ¬ (∃ vs, (rf_lf2 fm).2 vs ∧ vs.Nodup)) → K z t) → sx_C sL sx d 172 [.inr (.inl 66), .inl r] s K := by
  intro fm U x Γ r s K hI hr hy hnd hty hU hgd hsc hht h9 hRB h40 hK
  obtain ⟨d, rfl⟩ : ∃ e, d = e + 2 := ⟨d - 2, by omega⟩
  have hro : rf_ro5 s Γ Z x fm := ⟨⟨U, hty⟩, hgd, hsc, hht⟩
  have hxp := rf_at_pos x
  have hlen := rf_gt_len hty
  have hrs : ∀ {u : sx_S} {g : rf_N} {i : Int}, cx_I u → rf_ym u g i → -1 ≤ i ∧ i ≤ 599 := fun {u} {g} {i} hu hg => by
    have h1 := rf_nd_rng hg
    have h2 := hu.fld 66 12 (by decide) rfl
    omega
  refine sx_methL (wr := true) (n := 400) (n' := 400) (stop := [(7, [0, 1, 2]), (47, [0, 1, 2, 3, 4])]) (fun n pc ls u => (pc = 7 ∧ ∃ (x2 : Int) (g D : rf_N) (vd : List Int), ls = [(0, .inr (.inl 66)), (1, .inl r), (2, .inl x2)] ∧ (cx_I u ∧ rf_FC s u [] ∧ rf_f [40, 41, 50, 56, 58] s u) ∧ fm = rf_snoc D g ∧ rf_ym u g x2 ∧ (rf_lf2 D).2 vd ∧ (u.1 66 40 = 0 → vd.Nodup) ∧ rf_CB s u (rf_len D * (rf_idx fm).length) ∧ (u.1 66 40 = 0 ∨ (0 ≤ u.1 66 41 ∧ u.1 66 41 ≤ 241)) ∧ (u.1 66 40 ≠ 0 → ¬ (∃ vs, (rf_lf2 fm).2 vs ∧ vs.Nodup)) ∧ n = 100 * rf_len g + 50) ∨ (pc = 47 ∧ ∃ (x2 x3 x4 : Int) (g D dq Dp : rf_N) (vd vp vr : List Int) (c : Nat), ls = [(0, .inr (.inl 66)), (1, .inl r), (2, .inl x2), (3, .inl x3), (4, .inl x4)] ∧ (cx_I u ∧ rf_FC s u [] ∧ rf_f [40, 41, 50, 56, 58] s u) ∧ (fm = rf_snoc D g ∧ D = rf_snoc Dp dq ∧ g ≠ .leaf) ∧ rf_ym u g x2 ∧ rf_ym u (rf_snoc dq g) x4 ∧ (rf_lf2 D).2 vd ∧ (u.1 66 40 = 0 → vd.Nodup) ∧ rf_lf g x3 ∧ (-2147483648 ≤ x3 ∧ x3 ≤ 2147483647) ∧ (vd = vp ++ vr ∧ (rf_lf2 dq).2 vr ∧ (u.1 66 40 = 0 → x3 ∉ vp)) ∧ rf_CB s u c ∧ c + (rf_idx (rf_snoc dq g)).length ≤ rf_len D * (rf_idx fm).length + rf_s1 g + (rf_idx fm).length ∧ (u.1 66 40 = 0 ∨ (0 ≤ u.1 66 41 ∧ u.1 66 41 ≤ 241)) ∧ (u.1 66 40 ≠ 0 → ¬ (∃ vs, (rf_lf2 fm).2 vs ∧ vs.Nodup)) ∧ n = 100 * rf_len g + rf_len dq)) hsL (e := eX12_distinct) rfl ?_ ?_
  · refine w_distinct hI hr (fun u hu => ⟨_, Or.inl ⟨rfl, u, fm, .leaf, [], rfl, ⟨hI, rf_FC_refl _ _, rf_f_refl _ _⟩, rfl, by rw [hu]; exact hy, rfl, fun _ => List.nodup_nil, ⟨by omega, by omega, by omega, by omega⟩, Or.inl h40, fun q => absurd h40 q, rfl⟩⟩)
  · have s40 : ∀ {u t : sx_S}, rf_f [40, 41, 50, 56, 58] s u → rf_FB u t → rf_f [40, 41, 50, 56, 58] s t := fun h1 h2 => rf_f_step h2.2.1 rfl h1
    rintro n pc ls u (⟨rfl, x2, g, D, vd, rfl, ⟨g1, g2, g3⟩, hfm, hyg, hvd, hnv, hcb, h41, hnp, rfl⟩ | ⟨rfl, x2, x3, x4, g, D, dq, Dp, vd, vp, vr, c, rfl, ⟨g1, g2, g3⟩, ⟨hfm, hD, hgn⟩, hyg, hyq, hvd, hnv, hlf, h3, ⟨hv1, hv2, hv3⟩, hcb, hc, h41, hnp, rfl⟩)
    · have e9 := g3 9 rfl
      have hl2 := rf_len_snoc g D
      rw [← hfm] at hl2
      have hr2 := hrs g1 hyg
      have hmul : (rf_len D) * (rf_idx fm).length ≤ 4 * (rf_idx fm).length := Nat.mul_le_mul_right _ (by omega)
      cases g with
      | leaf =>
        have e2 : x2 = -1 := hyg
        refine w_distinct_7 (PB := fun _ _ => False) (PV := fun _ _ _ => False) (c_r_wrong hsL (d + 1) (by omega)) hr hr2 (fun _ => ?_) (fun q => absurd e2 q) (fun _ _ q => q.elim) (fun _ _ q => q.elim) (fun _ _ _ q => q.elim) (fun _ _ q => q.elim) (fun _ _ _ q => q.elim)
        refine hK 0 u g1 g2 g3 ⟨?_, ?_, ?_, ?_⟩ (fun q => ⟨vd, by rw [hfm, rf_snoc_leaf]; exact hvd, hnv q⟩) h41 hnp
        · have := hcb.1
          omega
        · have := hcb.2.1
          omega
        · have := hcb.2.2.1
          omega
        · have := hcb.2.2.2
          omega
      | inner gj gk gu gf gx =>
        have elg : rf_len (.inner gj gk gu gf gx) = rf_len gx + 1 := rfl
        have hrg := rf_ro5_part (a := D) (b := .inner gj gk gu gf gx) (by rw [← hfm]; exact hro)
        have hsl := rf_idx_slen (.inner gj gk gu gf gx) D
        rw [← hfm] at hsl
        have hs1 := rf_s1_le (f := .inner gj gk gu gf gx)
        have hm2 : (rf_len D + 1) * (rf_idx fm).length ≤ 4 * (rf_idx fm).length := Nat.mul_le_mul_right _ (by omega)
        rw [Nat.add_mul, Nat.one_mul] at hm2
        obtain ⟨A, hB, hV⟩ := rf_bv hsL (d := d + 1) hZ (by omega) g1 g2 hrg hyg (by omega) (rf_RB_CB hRB hcb (by omega))
        have hy2 := hyg.1
        refine w_distinct_7 (c_r_wrong hsL (d + 1) (by omega)) hr hr2 (fun q => ?_) (fun _ => hB) hV (fun z t q => q.1) (fun z t w q => q.1) ?_ ?_
        · exfalso
          omega
        · rintro z t ⟨q1, q2, q3, _⟩ ⟨_, _, zz3⟩ t' p1 p2 p3 p4 p5
          have zzn : ¬ (∃ vs, (rf_lf2 fm).2 vs ∧ vs.Nodup) := by
            rintro ⟨vs, v1, v2⟩
            rw [hfm] at v1
            obtain ⟨va, vb, v3, v4, v5⟩ := rf_lf2_split v1
            obtain ⟨zw, vb2, v6, v7, v8⟩ := rf_lf2_c.mp v5
            obtain ⟨⟨zw2, A2, B2, v9, v10, v11⟩, _⟩ := hrg
            have v12 := rf_lf_pos (n := .inner gj gk gu gf gx) (s := s) (P := rf_RP s) (A := A2) v10 v7
            have v13 := zz3 _ v7
            omega
          have h75 := q1.arr 75 (by decide) rfl r.toNat
          refine hK 0 t' p1 (rf_FC_trans (rf_FC_W p2 p3) (rf_FC_trans (rf_FC_FB q2) g2 (fun _ z => z) (fun _ z => z)) (fun _ z => z) (fun _ z => z)) (rf_f_step p3 rfl (s40 g3 q2)) (rf_CB_same (rf_CB_trans q3 hcb (by omega)) (p3 50 rfl) (p3 56 rfl) (p3 58 rfl) (p2 0).2) (fun q => absurd q p4) (Or.inr ?_) (fun _ => zzn)
          rcases p5 with ⟨z1, z2, z3⟩ | ⟨z1, z2, z3⟩
          · have := q2.2.1 40 rfl
            have := q2.2.1 41 rfl
            omega
          · omega
        · rintro z t w ⟨q1, q2, q3, _⟩ ⟨w1, w2, w3⟩ hw1 v hv
          have hFs := rf_FC_trans (T := []) (rf_FC_FB q2) g2 (fun _ z => z) (fun _ z => z)
          have e40 := q2.2.1 40 rfl
          have e41 := q2.2.1 41 rfl
          refine ⟨_, ?_, Or.inr ⟨rfl, x2, w, v, .inner gj gk gu gf gx, D, D, .leaf, vd, [], vd, rf_len D * (rf_idx fm).length + rf_s1 (.inner gj gk gu gf gx), rfl, ⟨q1, hFs, s40 g3 q2⟩, ⟨hfm, rfl, fun q => by cases q⟩, rf_ym_up q2 hyg, ?_, hvd, fun q => hnv (by omega), w2 hw1, w1, ⟨rfl, hvd, fun _ => List.not_mem_nil⟩, rf_CB_trans q3 hcb (Nat.le_refl _), ?_, by omega, fun q => hnp (by omega), rfl⟩⟩
          · omega
          · rw [← hfm, hv, (hFs.same 80 rfl).2]
            exact rf_ym_C hFs (fun _ _ => List.not_mem_nil) hy
          · rw [← hfm]
            omega
    · have e9 := g3 9 rfl
      have hl2 := rf_len_snoc g D
      rw [← hfm] at hl2
      have hr2 := hrs g1 hyg
      have hr4 := hrs g1 hyq
      cases g with
      | leaf => exact absurd rfl hgn
      | inner gj gk gu gf gx =>
      have elg : rf_len (.inner gj gk gu gf gx) = rf_len gx + 1 := rfl
      have hs1 := rf_s1_le (f := .inner gj gk gu gf gx)
      have hm2 : (rf_len D + 1) * (rf_idx fm).length ≤ 4 * (rf_idx fm).length := Nat.mul_le_mul_right _ (by omega)
      rw [Nat.add_mul, Nat.one_mul] at hm2
      have hy2 := hyg
      obtain ⟨⟨y0, y1⟩, ⟨y2, y3⟩, y4, y5⟩ := hy2
      have hfq : fm = rf_snoc Dp (rf_snoc dq (.inner gj gk gu gf gx)) := by
        rw [hfm, hD, rf_snoc_assoc]
      cases dq with
      | leaf =>
        have e42 : x4 = x2 := by
          have h1 : x4 = (gj : Int) := hyq.1.1
          omega
        refine w_q_distinct_47 (PB := fun _ _ => False) (PV := fun _ _ _ => False) (c_r_wrong hsL (d + 1) (by omega)) g1 hr ⟨by omega, by omega⟩ h3 ⟨by omega, by omega⟩ (fun _ v hv => ?_) (fun q => absurd e42 q) (fun _ _ q => q.elim) (fun _ _ q => q.elim) (fun _ _ _ q => q.elim) (fun _ _ _ q => q.elim) (fun _ _ _ q => q.elim)
        have er : vr = [] := hv2
        subst er
        rw [List.append_nil] at hv1
        refine ⟨_, ?_, Or.inl ⟨rfl, v, gx, rf_snoc D (.inner gj gk gu gf .leaf), vd ++ [x3], rfl, ⟨g1, g2, g3⟩, ?_, ?_, rf_lf2_snoc1.mpr ⟨vd, x3, rfl, hvd, hlf⟩, fun q => ?_, ?_, h41, hnp, rfl⟩⟩
        · omega
        · rw [hfm, rf_snoc_assoc]
          rfl
        · rw [hv, show x2.toNat = gj by omega]
          exact y5
        · refine List.nodup_append.mpr ⟨hnv q, by simp, fun a ha b hb z => ?_⟩
          have eb : b = x3 := by simpa using hb
          rw [hv1] at ha
          exact hv3 q (by rw [← eb, ← z]; exact ha)
        · rw [rf_len_snoc]
          have e1 : rf_len (.inner gj gk gu gf .leaf) = 1 := rfl
          have hcc : c ≤ (rf_len D + 1) * (rf_idx fm).length := by
            rw [Nat.add_mul, Nat.one_mul]
            have h1 : (rf_idx (rf_snoc .leaf (.inner gj gk gu gf gx))).length = (rf_idx (.inner gj gk gu gf gx)).length := rfl
            omega
          rw [e1]
          obtain ⟨c1, c2, c3, c4⟩ := hcb
          exact ⟨by omega, by omega, by omega, by omega⟩
      | inner qj qk qu qf qx =>
        have hyq2 := hyq
        obtain ⟨⟨z0, z1⟩, ⟨z2, z3⟩, z4, z5⟩ := hyq2
        have hndq := rf_nodup_part (a := Dp) (b := rf_snoc (.inner qj qk qu qf qx) (.inner gj gk gu gf gx)) (by rw [← hfq]; exact hnd)
        have hne : x4 ≠ x2 := fun q => by
          have h1 : qj ∉ rf_idx qf ++ rf_idx (rf_snoc qx (.inner gj gk gu gf gx)) := (List.nodup_cons.mp hndq).1
          refine h1 (List.mem_append_right _ ((rf_idx_snoc _ _ _).mpr (Or.inr ?_)))
          have : qj = gj := by omega
          rw [this]
          exact List.mem_cons_self
        obtain ⟨w0, vr2, er, lf0, hv2b⟩ := hv2
        have hrq := rf_ro5_part (a := Dp) (b := rf_snoc (.inner qj qk qu qf qx) (.inner gj gk gu gf gx)) (by rw [← hfq]; exact hro)
        have hsq : (rf_idx (rf_snoc (.inner qj qk qu qf qx) (.inner gj gk gu gf gx))).length = rf_s1 (.inner qj qk qu qf (rf_snoc qx (.inner gj gk gu gf gx))) + (rf_idx (rf_snoc qx (.inner gj gk gu gf gx))).length := rf_s1_idx
        have hslq := rf_idx_slen (.inner gj gk gu gf gx) qx
        obtain ⟨A, hB, hV⟩ := rf_bv hsL (d := d + 1) hZ (by omega) g1 g2 hrq hyq (by omega) (rf_RB_CB (b := rf_s1 (.inner qj qk qu qf (rf_snoc qx (.inner gj gk gu gf gx)))) hRB hcb (by omega))
        have elq : rf_len (.inner qj qk qu qf qx) = rf_len qx + 1 := rfl
        have goal : ∀ (t : sx_S) (v : Int), cx_I t → rf_FC s t [] → rf_f [40, 41, 50, 56, 58] s t → rf_CB s t (c + rf_s1 (.inner qj qk qu qf (rf_snoc qx (.inner gj gk gu gf gx)))) → (t.1 66 40 = 0 → u.1 66 40 = 0 ∧ x3 ≠ w0) → (t.1 66 40 = 0 ∨ (0 ≤ t.1 66 41 ∧ t.1 66 41 ≤ 241)) → (t.1 66 40 ≠ 0 → ¬ (∃ vs, (rf_lf2 fm).2 vs ∧ vs.Nodup)) → v = s.2.1 81 qj → ∃ n', n' < 100 * rf_len (.inner gj gk gu gf gx) + rf_len (.inner qj qk qu qf qx) ∧ (fun (n pc : Nat) (ls : sx_L) (u : sx_S) => (pc = 7 ∧ ∃ (x2 : Int) (g D : rf_N) (vd : List Int), ls = [(0, .inr (.inl 66)), (1, .inl r), (2, .inl x2)] ∧ (cx_I u ∧ rf_FC s u [] ∧ rf_f [40, 41, 50, 56, 58] s u) ∧ fm = rf_snoc D g ∧ rf_ym u g x2 ∧ (rf_lf2 D).2 vd ∧ (u.1 66 40 = 0 → vd.Nodup) ∧ rf_CB s u (rf_len D * (rf_idx fm).length) ∧ (u.1 66 40 = 0 ∨ (0 ≤ u.1 66 41 ∧ u.1 66 41 ≤ 241)) ∧ (u.1 66 40 ≠ 0 → ¬ (∃ vs, (rf_lf2 fm).2 vs ∧ vs.Nodup)) ∧ n = 100 * rf_len g + 50) ∨ (pc = 47 ∧ ∃ (x2 x3 x4 : Int) (g D dq Dp : rf_N) (vd vp vr : List Int) (c : Nat), ls = [(0, .inr (.inl 66)), (1, .inl r), (2, .inl x2), (3, .inl x3), (4, .inl x4)] ∧ (cx_I u ∧ rf_FC s u [] ∧ rf_f [40, 41, 50, 56, 58] s u) ∧ (fm = rf_snoc D g ∧ D = rf_snoc Dp dq ∧ g ≠ .leaf) ∧ rf_ym u g x2 ∧ rf_ym u (rf_snoc dq g) x4 ∧ (rf_lf2 D).2 vd ∧ (u.1 66 40 = 0 → vd.Nodup) ∧ rf_lf g x3 ∧ (-2147483648 ≤ x3 ∧ x3 ≤ 2147483647) ∧ (vd = vp ++ vr ∧ (rf_lf2 dq).2 vr ∧ (u.1 66 40 = 0 → x3 ∉ vp)) ∧ rf_CB s u c ∧ c + (rf_idx (rf_snoc dq g)).length ≤ rf_len D * (rf_idx fm).length + rf_s1 g + (rf_idx fm).length ∧ (u.1 66 40 = 0 ∨ (0 ≤ u.1 66 41 ∧ u.1 66 41 ≤ 241)) ∧ (u.1 66 40 ≠ 0 → ¬ (∃ vs, (rf_lf2 fm).2 vs ∧ vs.Nodup)) ∧ n = 100 * rf_len g + rf_len dq)) n' 47 [(0, .inr (.inl 66)), (1, .inl r), (2, .inl x2), (3, .inl x3), (4, .inl v)] t := fun t v i1 i2 i3 i4 i5 i6 i8 i7 => ⟨100 * rf_len (.inner gj gk gu gf gx) + rf_len qx, by omega, Or.inr ⟨rfl, x2, x3, v, .inner gj gk gu gf gx, D, qx, rf_snoc Dp (.inner qj qk qu qf .leaf), vd, vp ++ [w0], vr2, c + rf_s1 (.inner qj qk qu qf (rf_snoc qx (.inner gj gk gu gf gx))), rfl, ⟨i1, i2, i3⟩, ⟨hfm, by rw [hD, rf_snoc_assoc]; rfl, hgn⟩, rf_ym_CC g2 i2 hyg, by rw [i7, ← (g2.same 81 rfl).2]; exact rf_ym_CC g2 i2 (n := rf_snoc qx (.inner gj gk gu gf gx)) (i := u.2.1 81 qj) z5, hvd, fun q => hnv (i5 q).1, hlf, h3, ⟨by rw [hv1, er, List.append_assoc]; rfl, hv2b, fun q z => (List.mem_append.mp z).elim (hv3 (i5 q).1) (fun z2 => (i5 q).2 (by simpa using z2))⟩, i4, by omega, i6, i8, rfl⟩⟩
        refine w_q_distinct_47 (c_r_wrong hsL (d + 1) (by omega)) g1 hr ⟨by omega, by omega⟩ h3 ⟨by omega, by omega⟩ (fun q => absurd q hne) (fun _ => hB) hV (fun z t q => q.1) (fun z t w q => q.1) ?_ ?_
        · rintro z t w ⟨q1, q2, q3, _⟩ ⟨_, _, zz3⟩ zz4 t' p1 p2 p3 p4 p5 v hv
          have zzn : ¬ (∃ vs, (rf_lf2 fm).2 vs ∧ vs.Nodup) := by
            rintro ⟨vs, v1, v2⟩
            rw [hfm] at v1
            obtain ⟨va, vb, v3, v4, v5⟩ := rf_lf2_split v1
            obtain ⟨zw, vb2, v6, v7, v8⟩ := rf_lf2_c.mp v5
            have v9 : zw = x3 := rf_lf2_fun.1 v7 hlf
            have v10 : va = vd := rf_lf2_fun.2 v4 hvd
            have v11 : w = w0 := zz3 _ lf0
            rw [v3] at v2
            refine (List.nodup_append.mp v2).2.2 w0 ?_ w0 ?_ rfl
            · rw [v10, hv1, er]
              exact List.mem_append_right _ List.mem_cons_self
            · rw [v6, v9, ← zz4, v11]
              exact List.mem_cons_self
          have h75 := q1.arr 75 (by decide) rfl r.toNat
          have e40 := q2.2.1 40 rfl
          have e41 := q2.2.1 41 rfl
          have hFt := rf_FC_trans (T := []) (rf_FC_W p2 p3) (rf_FC_trans (T := []) (rf_FC_FB q2) g2 (fun _ z => z) (fun _ z => z)) (fun _ z => z) (fun _ z => z)
          refine goal t' v p1 hFt (rf_f_step p3 rfl (s40 g3 q2)) (rf_CB_same (rf_CB_trans q3 hcb (Nat.le_refl _)) (p3 50 rfl) (p3 56 rfl) (p3 58 rfl) (p2 0).2) (fun q => absurd q p4) (Or.inr ?_) (fun _ => zzn) ?_
          · rcases p5 with ⟨z1, z2, z3⟩ | ⟨z1, z2, z3⟩
            · omega
            · omega
          · rw [hv, (hFt.same 81 rfl).2, show x4.toNat = qj by omega]
        · rintro z t w ⟨q1, q2, q3, _⟩ ⟨w1, w2, w3⟩ hw1 v hv
          have e40 := q2.2.1 40 rfl
          have e41 := q2.2.1 41 rfl
          have hFt := rf_FC_trans (T := []) (rf_FC_FB q2) g2 (fun _ z => z) (fun _ z => z)
          have ew := w3 w0 lf0
          refine goal t v q1 hFt (s40 g3 q2) (rf_CB_trans q3 hcb (Nat.le_refl _)) (fun q => ⟨by omega, by omega⟩) (by omega) (fun q => hnp (by omega)) ?_
          rw [hv, (hFt.same 81 rfl).2, show x4.toNat = qj by omega]
end
section
/-! ===== patterns: variables by their numbers and by what is bound outside of them ===== -/
def px_id (ρ : List Int) (l : Nat) : Int := (ρ[ρ.length - 1 - l]?).getD (-1)
def px_so : List Int → Prop
  | [] => True
  | w :: ρ => (∀ x ∈ ρ, x < w) ∧ px_so ρ
theorem px_id_cons {w : Int} {ρ : List Int} {l : Nat} (h : l < ρ.length) : px_id (w :: ρ) l = px_id ρ l := by
  unfold px_id
  rw [List.length_cons, show ρ.length + 1 - 1 - l = (ρ.length - 1 - l) + 1 by omega, List.getElem?_cons_succ]
theorem px_id_top {w : Int} {ρ : List Int} : px_id (w :: ρ) ρ.length = w := by
  unfold px_id
  rw [List.length_cons, show ρ.length + 1 - 1 - ρ.length = 0 by omega]
  rfl
theorem px_id_mem {ρ : List Int} {l : Nat} (h : l < ρ.length) : px_id ρ l ∈ ρ := by
  unfold px_id
  rw [List.getElem?_eq_getElem (show ρ.length - 1 - l < ρ.length by omega)]
  exact List.getElem_mem _
theorem px_id_inj : ∀ {ρ : List Int} {l l' : Nat}, px_so ρ → l < ρ.length → l' < ρ.length → px_id ρ l = px_id ρ l' → l = l'
  | [], l, _, _, h, _, _ => absurd h (Nat.not_lt_zero _)
  | w :: ρ, l, l', hs, h, h', e => by
    rw [List.length_cons] at h h'
    by_cases a : l < ρ.length <;> by_cases b : l' < ρ.length
    · rw [px_id_cons a, px_id_cons b] at e
      exact px_id_inj hs.2 a b e
    · have eb : l' = ρ.length := by omega
      subst eb
      rw [px_id_cons a, px_id_top] at e
      have := hs.1 _ (px_id_mem a)
      omega
    · have ea : l = ρ.length := by omega
      subst ea
      rw [px_id_cons b, px_id_top] at e
      have := hs.1 _ (px_id_mem b)
      omega
    · omega
theorem px_map_inj {ρ : List Int} (hs : px_so ρ) : ∀ {a b : List Nat}, (∀ l ∈ a, l < ρ.length) → (∀ l ∈ b, l < ρ.length) → a.map (px_id ρ) = b.map (px_id ρ) → a = b
  | [], [], _, _, _ => rfl
  | [], _ :: _, _, _, h => by cases h
  | _ :: _, [], _, _, h => by cases h
  | x :: a, y :: b, ha, hb, h => by
    rw [List.map_cons, List.map_cons] at h
    injection h with h1 h2
    rw [px_id_inj hs (ha x List.mem_cons_self) (hb y List.mem_cons_self) h1, px_map_inj hs (fun l q => ha l (List.mem_cons_of_mem _ q)) (fun l q => hb l (List.mem_cons_of_mem _ q)) h2]
theorem px_map_mem {ρ : List Int} (hs : px_so ρ) {a : List Nat} {l : Nat} (ha : ∀ l ∈ a, l < ρ.length) (hl : l < ρ.length) : px_id ρ l ∈ a.map (px_id ρ) ↔ l ∈ a := by
  constructor
  · intro h
    obtain ⟨x, h1, h2⟩ := List.mem_map.mp h
    rw [← px_id_inj hs (ha x h1) hl h2]
    exact h1
  · exact fun h => List.mem_map.mpr ⟨l, h, rfl⟩
theorem px_map_nd {ρ : List Int} (hs : px_so ρ) : ∀ {a : List Nat}, (∀ l ∈ a, l < ρ.length) → ((a.map (px_id ρ)).Nodup ↔ a.Nodup)
  | [], _ => ⟨fun _ => List.nodup_nil, fun _ => List.nodup_nil⟩
  | x :: a, ha => by
    have ih := px_map_nd hs (a := a) (fun l q => ha l (List.mem_cons_of_mem _ q))
    rw [List.map_cons, List.nodup_cons, List.nodup_cons, ih, px_map_mem hs (fun l q => ha l (List.mem_cons_of_mem _ q)) (ha x List.mem_cons_self)]
theorem px_pv_no {SN : Int → Int → Prop} : ∀ {n : px_N} {Γ : List (Int × qx_T)} {us : List Nat} {v : Nat}, (px_pv SN n).1 Γ us v → v ∉ us
  | .leaf, _, _, _, h => h.elim
  | .inner g q _ f x, Γ, us, v, h => by
    rcases h with ⟨_, h⟩ | ⟨_, _, h, _⟩
    · exact fun z => px_pv_no h (List.mem_append_left _ z)
    · exact h
theorem px_pv_c {SN : Int → Int → Prop} {g : Nat} {q : Int × qx_T} {u0 : Unit} {f x : px_N} {Γ : List (Int × qx_T)} {us : List Nat} : (px_pv SN (.inner g q u0 f x)).2 Γ us ↔ ∃ u us', us = u :: us' ∧ (px_pv SN (.inner g q u0 f x)).1 Γ [] u ∧ (px_pv SN x).2 Γ us' := Iff.rfl
theorem px_pv_lt {SN : Int → Int → Prop} : ∀ {n : px_N}, (∀ {Γ : List (Int × qx_T)} {us : List Nat} {v : Nat}, (px_pv SN n).1 Γ us v → v < Γ.length) ∧ (∀ {Γ : List (Int × qx_T)} {vs : List Nat}, (px_pv SN n).2 Γ vs → ∀ v ∈ vs, v < Γ.length)
  | .leaf => ⟨fun h => h.elim, fun h v hv => by
    rw [show _ = [] from h] at hv
    exact absurd hv List.not_mem_nil⟩
  | .inner g q u0 f x => by
    have h1 : ∀ {Γ : List (Int × qx_T)} {us : List Nat} {v : Nat}, (px_pv SN (.inner g q u0 f x)).1 Γ us v → v < Γ.length := by
      intro Γ us v h
      rcases h with ⟨_, h⟩ | ⟨_, ⟨y, h⟩, _⟩
      · have a := (px_pv_lt (n := f)).1 h
        have b := px_pv_no h
        rw [List.length_cons] at a
        have c : v ≠ Γ.length := fun e => b (List.mem_append_right _ (by rw [e]; exact List.mem_cons_self))
        omega
      · exact px_vr_lt h
    refine ⟨h1, ?_⟩
    intro Γ vs h v hv
    obtain ⟨w, r, e, a, b⟩ := px_pv_c.mp h
    rw [e] at hv
    rcases List.mem_cons.mp hv with rfl | hv
    · exact h1 a
    · exact (px_pv_lt (n := x)).2 b v hv
theorem px_wt_snoc {SN : Int → Int → Prop} {C M Γ : List (Int × qx_T)} {p : px_N} {y : qx_T} : ∀ {n : px_N} {u : qx_T}, (px_wt SN C M (px_snoc n p)).2 Γ u y ↔ ∃ w, (px_wt SN C M n).2 Γ u w ∧ (px_wt SN C M p).2 Γ w y
  | .leaf, u => ⟨fun h => ⟨u, rfl, h⟩, fun ⟨w, h1, h2⟩ => by
    have e : u = w := h1
    rw [e]
    exact h2⟩
  | .inner g q u0 f x, u => by
    constructor
    · rintro ⟨A, B, h1, h2, h3⟩
      obtain ⟨w, h4, h5⟩ := px_wt_snoc.mp h3
      exact ⟨w, ⟨A, B, h1, h2, h4⟩, h5⟩
    · rintro ⟨w, ⟨A, B, h1, h2, h4⟩, h5⟩
      exact ⟨A, B, h1, h2, px_wt_snoc.mpr ⟨w, h4, h5⟩⟩
end
section
/-! ===== the reference: check, exactly: what holds on the way ===== -/
def px_E (b : Nat → Int) (n m : Int) (C M : List (Int × qx_T)) (s : sx_S) : Prop := True → px_TN b n m s ∧ px_DL 95 96 42 m s C ∧ px_DL 97 123 45 m s M
def px_tb (m : Int) : px_N → Prop
  | .leaf => True
  | .inner _ q _ f x => (0 ≤ q.1 ∧ q.1 < m) ∧ px_tb m f ∧ px_tb m x
theorem px_tb_snoc {m : Int} {b : px_N} : ∀ {a : px_N}, px_tb m (px_snoc a b) → px_tb m a ∧ px_tb m b
  | .leaf, h => ⟨trivial, h⟩
  | .inner _ _ _ _ _, h => ⟨⟨h.1, h.2.1, (px_tb_snoc h.2.2).1⟩, (px_tb_snoc h.2.2).2⟩
section PXC
variable {b : Nat → Int} {n m : Int} {C M Γ : List (Int × qx_T)} {ρ : List Int} {s t u : sx_S} {a o v z x2 x4 : Int} {D N FM X : rf_N} {D' g' f' x' n' : px_N} {q : Int × qx_T} {u0 u1 : Unit} {j : Nat}
/-- what a NAME with ARGs wants, once its head is known -/
theorem px_wt_row {g : Nat} (hg : g ≠ 0) {i : Nat} {U W y : qx_T} {p' : px_N} (hh : px_hd (px_SN b n) C M Γ q.1 o i U) (hD : (px_wt (px_SN b n) C M D').2 Γ U W) (hf : f' = px_snoc D' p') (h : (px_wt (px_SN b n) C M (.inner g q u0 f' x')).1 Γ y) : (px_wt (px_SN b n) C M p').2 Γ W y := by
  rcases h with ⟨h, _⟩ | ⟨_, o', i', U', h1, h2, _⟩
  · exact absurd h hg
  · obtain ⟨_, _, rfl⟩ := px_hd_fun hh h1
    rw [hf] at h2
    obtain ⟨w, h3, h4⟩ := px_wt_snoc.mp h2
    rw [px_wt_fun.2 hD h3]
    exact h4
end PXC
/-- what was bound and declared stays -/
theorem px_E_up {b : Nat → Int} {n m : Int} {C M : List (Int × qx_T)} {s t : sx_S} (h : px_E b n m C M s) (xu : rf_xu s t) (ha : ∀ p, (p = 68 ∨ p = 69 ∨ p = 70 ∨ p = 71 ∨ p = 95 ∨ p = 97 ∨ p = 96 ∨ p = 123) → t.2.1 p = s.2.1 p) (h3 : t.1 66 3 = s.1 66 3) : px_E b n m C M t := by
  intro _
  obtain ⟨a, c, d⟩ := h trivial
  have e42 := (xu.2 0).1.2.2.2.1
  have e45 := (xu.2 0).1.2.2.2.2
  refine ⟨fun _ => ?_, fun _ => ?_, fun _ => ?_⟩
  · obtain ⟨a1, a2, a3⟩ := a trivial
    refine ⟨(ha 68 (by decide)).trans a1, h3.trans a2, fun k hk => ?_⟩
    rw [ha 69 (by decide), ha 70 (by decide), ha 71 (by decide)]
    exact a3 k hk
  · obtain ⟨c1, c2⟩ := c trivial
    refine ⟨by rw [e42]; exact c1, fun k hk => ?_⟩
    obtain ⟨e, d1, d2, d3, d4⟩ := c2 k hk
    rw [ha 95 (by decide), ha 96 (by decide)]
    exact ⟨e, d1, d2, d3, qx_is_up d4 xu.1⟩
  · obtain ⟨c1, c2⟩ := d trivial
    refine ⟨by rw [e45]; exact c1, fun k hk => ?_⟩
    obtain ⟨e, d1, d2, d3, d4⟩ := c2 k hk
    rw [ha 97 (by decide), ha 123 (by decide)]
    exact ⟨e, d1, d2, d3, qx_is_up d4 xu.1⟩
theorem px_E_FC {b : Nat → Int} {n m : Int} {C M : List (Int × qx_T)} {s t : sx_S} {S : List Nat} (h : px_E b n m C M s) (hF : rf_FC s t S) : px_E b n m C M t := px_E_up h hF.2.2.1 (fun p hp => by
  rcases hp with rfl | rfl | rfl | rfl | rfl | rfl | rfl | rfl
  · exact (hF.same 68 rfl).2
  · exact (hF.same 69 rfl).2
  · exact (hF.same 70 rfl).2
  · exact (hF.same 71 rfl).2
  · exact (hF.same 95 rfl).2
  · exact (hF.same 97 rfl).2
  · exact (hF.same 96 rfl).2
  · exact (hF.same 123 rfl).2) (hF.2.1 3 rfl)
theorem px_E_F0 {b : Nat → Int} {n m m' : Int} {C M : List (Int × qx_T)} {s t : sx_S} {S : List Nat} (h : px_E b n m C M s) (hF : rf_F0 m' s t S) : px_E b n m C M t := px_E_up h hF.2.2.1 (fun p hp => by
  rcases hp with rfl | rfl | rfl | rfl | rfl | rfl | rfl | rfl
  · exact (hF.same 68 rfl).2
  · exact (hF.same 69 rfl).2
  · exact (hF.same 70 rfl).2
  · exact (hF.same 71 rfl).2
  · exact (hF.same 95 rfl).2
  · exact (hF.same 97 rfl).2
  · exact (hF.same 96 rfl).2
  · exact (hF.same 123 rfl).2) (hF.2.1 3 rfl)
theorem px_is_F0 {m' : Int} {s t : sx_S} {S : List Nat} (hF : rf_F0 m' s t S) {N : rf_N} {n' : px_N} (h : px_is s N n') : px_is t N n' := px_is_up hF.2.2.1.1 (fun j _ => ⟨by rw [(hF.same 76 rfl).2], by rw [(hF.same 78 rfl).2]⟩) h
theorem px_EV_0 {m : Int} {s t : sx_S} {Γ : List (Int × qx_T)} (h : px_EV m s Γ) (h34 : t.1 66 34 = s.1 66 34) (xu : rf_xu s t) (ag : rf_ag 93 94 (s.1 66 34) s t) : px_EV m t Γ := by
  intro _
  obtain ⟨⟨h1, h2⟩, h3⟩ := h trivial
  refine ⟨⟨by rw [h34]; exact h1, fun k hk => ?_⟩, fun i k hik hk => ?_⟩
  · obtain ⟨e, e1, e2, e3, e4, e5⟩ := h2 k hk
    rw [ag 93 k (by omega) (by omega) (by omega), ag 94 k (by omega) (by omega) (by omega)]
    have e6 := (xu.2 (s.2.1 94 k).toNat).2.1 (by omega)
    have e7 := (xu.2 0).1.1
    refine ⟨e, e1, e2, e3, ⟨e4.1, by omega⟩, ?_⟩
    rw [e6]
    exact qx_is_up e5 xu.1
  · rw [ag 94 i (by omega) (by omega) (by omega), ag 94 k (by omega) (by omega) (by omega)]
    exact h3 i k hik hk
/-- one more bound -/
theorem px_EV_1 {m : Int} {s p : sx_S} {S : List Nat} {Γ : List (Int × qx_T)} {q : Int × qx_T} {z1 : Int} (h : px_EV m s Γ) (f3 : rf_F0 (s.1 66 34) s p S) (e34 : p.1 66 34 = s.1 66 34 + 1) (a93 : p.2.1 93 (s.1 66 34).toNat = q.1) (a94 : p.2.1 94 (s.1 66 34).toNat = z1) (hz : s.1 66 58 ≤ z1) (hz2 : z1 < p.1 66 58) (hz0 : 0 ≤ z1) (ht : 0 ≤ q.1 ∧ q.1 < m) (hty : qx_is p q.2 (p.2.1 106 z1.toNat)) : px_EV m p (q :: Γ) := by
  intro _
  obtain ⟨⟨h1, h2⟩, h3⟩ := h trivial
  have xu := f3.2.2.1
  have ag := f3.2.2.2.1
  have hl : (s.1 66 34).toNat = Γ.length := by omega
  refine ⟨⟨by rw [List.length_cons, e34]; push_cast; omega, fun k hk => ?_⟩, fun i k hik hk => ?_⟩
  · rw [List.length_cons] at hk ⊢
    by_cases hk2 : k < Γ.length
    · obtain ⟨e, e1, e2, e3, e4, e5⟩ := h2 k hk2
      rw [ag 93 k (by omega) (by omega) (by omega), ag 94 k (by omega) (by omega) (by omega)]
      have e6 := (xu.2 (s.2.1 94 k).toNat).2.1 (by omega)
      have e7 := (xu.2 0).1.1
      refine ⟨e, ?_, e2, e3, ⟨e4.1, by omega⟩, ?_⟩
      · rw [show Γ.length + 1 - 1 - k = (Γ.length - 1 - k) + 1 by omega, List.getElem?_cons_succ]
        exact e1
      · rw [e6]
        exact qx_is_up e5 xu.1
    · have ek : k = Γ.length := by omega
      subst ek
      rw [hl] at a93 a94
      refine ⟨q, by rw [show Γ.length + 1 - 1 - Γ.length = 0 by omega]; rfl, a93, ht, by rw [a94]; exact ⟨hz0, hz2⟩, by rw [a94]; exact hty⟩
  · rw [List.length_cons] at hk
    rw [ag 94 i (by omega) (by omega) (by omega)]
    by_cases hk2 : k < Γ.length
    · rw [ag 94 k (by omega) (by omega) (by omega)]
      exact h3 i k hik hk2
    · have ek : k = Γ.length := by omega
      subst ek
      rw [hl] at a94
      rw [a94]
      obtain ⟨e, _, _, _, e4, _⟩ := h2 i (by omega)
      omega
theorem px_ga_len (s : sx_S) : ∀ k : Nat, (rf_ga s k).length = k
  | 0 => rfl
  | k + 1 => by
    show (rf_ga s k).length + 1 = _
    rw [px_ga_len s k]
theorem px_ga_id {s : sx_S} : ∀ {n k : Nat}, k < n → px_id (rf_ga s n) k = s.2.1 94 k
  | 0, k, h => absurd h (Nat.not_lt_zero _)
  | n + 1, k, h => by
    show px_id (s.2.1 94 n :: rf_ga s n) k = _
    by_cases hk : k < n
    · rw [px_id_cons (by rw [px_ga_len]; exact hk)]
      exact px_ga_id hk
    · have e : k = (rf_ga s n).length := by
        rw [px_ga_len]
        omega
      rw [e, px_id_top, px_ga_len]
theorem px_ga_so {s : sx_S} : ∀ {n : Nat}, (∀ j k : Nat, j < k → k < n → s.2.1 94 j < s.2.1 94 k) → px_so (rf_ga s n)
  | 0, _ => trivial
  | n + 1, h => by
    refine ⟨fun x hx => ?_, px_ga_so (fun j k a b => h j k a (by omega))⟩
    obtain ⟨i, hi, e⟩ := List.getElem_of_mem hx
    rw [px_ga_len] at hi
    have e2 : px_id (rf_ga s n) (n - 1 - i) = x := by
      unfold px_id
      rw [px_ga_len, show n - 1 - (n - 1 - i) = i by omega, List.getElem?_eq_getElem (by rw [px_ga_len]; exact hi), e]
      rfl
    rw [← e2, px_ga_id (by omega)]
    exact h _ _ (by omega) (by omega)
theorem px_EV_so {m : Int} {s : sx_S} {Γ : List (Int × qx_T)} (h : px_EV m s Γ) : px_so (rf_ga s (s.1 66 34).toNat) ∧ (rf_ga s (s.1 66 34).toNat).length = Γ.length ∧ ∀ k, k < Γ.length → s.2.1 94 k = px_id (rf_ga s (s.1 66 34).toNat) k := by
  obtain ⟨⟨h1, h2⟩, h3⟩ := h trivial
  have e : (s.1 66 34).toNat = Γ.length := by omega
  rw [e]
  exact ⟨px_ga_so h3, px_ga_len _ _, fun k hk => (px_ga_id hk).symm⟩
theorem px_EV_lt {m : Int} {s : sx_S} {Γ : List (Int × qx_T)} (h : px_EV m s Γ) : ∀ x ∈ rf_ga s (s.1 66 34).toNat, x < s.1 66 58 := by
  obtain ⟨⟨h1, h2⟩, h3⟩ := h trivial
  intro x hx
  have e : (s.1 66 34).toNat = Γ.length := by omega
  rw [e] at hx
  obtain ⟨i, hi, e2⟩ := List.getElem_of_mem hx
  rw [px_ga_len] at hi
  have e3 : px_id (rf_ga s Γ.length) (Γ.length - 1 - i) = x := by
    unfold px_id
    rw [px_ga_len, show Γ.length - 1 - (Γ.length - 1 - i) = i by omega, List.getElem?_eq_getElem (by rw [px_ga_len]; exact hi), e2]
    rfl
  rw [← e3, px_ga_id (by omega)]
  obtain ⟨_, _, _, _, e4, _⟩ := h2 (Γ.length - 1 - i) (by omega)
  exact e4.2
end
