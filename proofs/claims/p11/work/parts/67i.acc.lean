/-! ===== the desk's checker: a whole text ===== -/
theorem px_IT_nk {K : Nat → Int} {a c : Int} {q : (Int × Int × qx_T) × (px_N × px_N)} (h : px_IT K a q c) (h0 : 0 ≤ a) : px_nk K a c := by
  rcases h with ⟨a1, a2, a3, x, e, a4, a5, a6, a7⟩ | ⟨a1, t, e, u, g, a2, a3, a4, a5, a6, a7⟩
  · rw [show a + 2 = a + 1 + 1 by omega] at a3
    rw [show a + 3 = a + 1 + 1 + 1 by omega] at a4
    subst a6
    exact px_nk_t (px_nk_1 (by omega)) (px_nk_t (px_nk_1 (by omega)) (px_nk_t (px_nk_1 (by omega)) (px_nk_t (px_TY_k a4) (px_nk_1 (by omega)))))
  · have l1 := px_TM_le a2
    have l2 := px_TM_le a4
    subst a6
    exact px_nk_t (px_nk_1 (by omega)) (px_nk_t (px_TM_rd (m := e) a2 (by omega) (Int.le_refl _)).1 (px_nk_t (px_nk_1 (by omega)) (px_nk_t (px_TM_rd (m := g) a4 (by omega) (Int.le_refl _)).1 (px_nk_1 (by omega)))))

theorem c_dz_tyc {sL : Nat} {sx : Nat → Int32} (hsL : sL ≤ 3072) (d : Nat) (hd : 2 ≤ d) : ∀ (s : sx_S) (R : Int → sx_S → Prop), cx_I s → R 0 (sx_uf s.1 8 2 2, s.2) → sx_C sL sx d 115 [.inr (.inl 8)] s R := by
  intro s R hI hK
  obtain ⟨d, rfl⟩ : ∃ e, d = e + 2 := ⟨d - 2, by omega⟩
  refine sx_meth (wr := true) (n := 400) hsL (e := eX9_clear) rfl ?_
  repeat' (first | (with_reducible (rintro _ rfl)) | (with_reducible intro _) | (refine And.intro ?_ ?_) | (fail))
  all_goals (try dsimp only at *)
  all_goals (first | trivial | assumption | omega | (exfalso; omega) | skip)

theorem c_dz_tec {sL : Nat} {sx : Nat → Int32} (hsL : sL ≤ 3072) (d : Nat) (hd : 2 ≤ d) : ∀ (s : sx_S) (R : Int → sx_S → Prop), cx_I s → R 0 (sx_uf (sx_uf s.1 11 6 0) 11 8 0, s.2) → sx_C sL sx d 85 [.inr (.inl 11)] s R := by
  intro s R hI hK
  obtain ⟨d, rfl⟩ : ∃ e, d = e + 2 := ⟨d - 2, by omega⟩
  refine sx_meth (wr := true) (n := 400) hsL (e := eX7_clear) rfl ?_
  repeat' (first | (with_reducible (rintro _ rfl)) | (with_reducible intro _) | (refine And.intro ?_ ?_) | (fail))
  all_goals (try dsimp only at *)
  all_goals (first | trivial | assumption | omega | (exfalso; omega) | skip)

theorem c_dz_ncC {sL : Nat} {sx : Nat → Int32} (hsL : sL ≤ 3072) (d : Nat) (hd : 2 ≤ d) : ∀ (s : sx_S) (R : Int → sx_S → Prop), cx_I s → R 0 (sx_uf s.1 19 2 0, s.2) → sx_C sL sx d 50 [.inr (.inl 19)] s R := by
  intro s R hI hK
  obtain ⟨d, rfl⟩ : ∃ e, d = e + 2 := ⟨d - 2, by omega⟩
  refine sx_meth (wr := true) (n := 400) hsL (e := eX4_clear) rfl ?_
  repeat' (first | (with_reducible (rintro _ rfl)) | (with_reducible intro _) | (refine And.intro ?_ ?_) | (fail))
  all_goals (try dsimp only at *)
  all_goals (first | trivial | assumption | omega | (exfalso; omega) | skip)

theorem c_dz_ncM {sL : Nat} {sx : Nat → Int32} (hsL : sL ≤ 3072) (d : Nat) (hd : 2 ≤ d) : ∀ (s : sx_S) (R : Int → sx_S → Prop), cx_I s → R 0 (sx_uf s.1 22 2 0, s.2) → sx_C sL sx d 50 [.inr (.inl 22)] s R := by
  intro s R hI hK
  obtain ⟨d, rfl⟩ : ∃ e, d = e + 2 := ⟨d - 2, by omega⟩
  refine sx_meth (wr := true) (n := 400) hsL (e := eX4_clear) rfl ?_
  repeat' (first | (with_reducible (rintro _ rfl)) | (with_reducible intro _) | (refine And.intro ?_ ?_) | (fail))
  all_goals (try dsimp only at *)
  all_goals (first | trivial | assumption | omega | (exfalso; omega) | skip)

theorem w_dz_totM {CALL : sx_Ca} {sL : Nat} {sx : Nat → Int32} {Q : Nat → sx_L → sx_S → Prop} {R : Int → sx_S → Prop} {s : sx_S} (hI : cx_I s) (hK : ∀ z : Int, (z = s.1 22 2) → R z s) : sx_wp true sL sx eX4_total CALL [] Q R 400 0 (sx_argsF 0 [.inr (.inl 22)]) [] s := by
  repeat' (first | (with_reducible (rintro _ rfl)) | (with_reducible intro _) | (refine And.intro ?_ ?_) | (refine hK _ ?_))
  all_goals (try dsimp only)
  repeat' (first | (with_reducible assumption) | ((with_reducible (change cx_I (sx_uf _ _ _ _, _))); refine cx_I_uf rfl rfl ?_ ?_ ?_) | ((with_reducible (change cx_I (_, sx_ua _ _ _ _, _))); refine cx_I_ua rfl rfl ?_ ?_ ?_) | ((with_reducible (change cx_I (_, sx_ua _ 16 _ _, _))); refine cx_I_ari ?_ ?_ ?_) | ((with_reducible (change cx_I (sx_uf _ 11 6 _, _))); refine cx_I_ufA rfl ?_ ?_ ?_ ?_) | (with_reducible exact cx_F_refl _ _) | ((with_reducible (change cx_F _ _ (sx_uf _ _ _ _, _))); refine cx_F_uf rfl ?_) | ((with_reducible (change cx_F _ _ (_, sx_ua _ _ _ _, _))); refine cx_F_ua rfl ?_) | ((with_reducible (change cx_I (_, sx_cpy _ _ _ _ _ _, _))); refine cx_I_cpy rfl rfl rfl (by decide) ?_) | ((with_reducible (change cx_F _ _ (_, sx_cpy _ _ _ _ _ _, _))); refine cx_F_cpy rfl ?_) | ((with_reducible (change cx_F _ _ _)); refine cx_F_step (by assumption) rfl ?_) | fail)
  all_goals (try dsimp only at *)
  all_goals (first | trivial | omega | rfl | (intros; omega) | (intros; rfl) | skip)

theorem c_dz_totM {sL : Nat} {sx : Nat → Int32} (hsL : sL ≤ 3072) (d : Nat) (hd : 2 ≤ d) : ∀ (s : sx_S) (K : Int → sx_S → Prop), cx_I s → (∀ z : Int, (z = s.1 22 2) → K z s) → sx_C sL sx d 52 [.inr (.inl 22)] s K := by
  intro  s K hI  hK
  obtain ⟨d, rfl⟩ : ∃ e, d = e + 2 := ⟨d - 2, by omega⟩
  exact sx_meth (wr := true) (n := 400) hsL (e := eX4_total) rfl (w_dz_totM (Q := fun _ _ _ => False)  hI  hK)

theorem w_dz_ntw {CALL : sx_Ca} {sL : Nat} {sx : Nat → Int32} {Q : Nat → sx_L → sx_S → Prop} {R : Int → sx_S → Prop} {s : sx_S} {a0 : Int} (hI : cx_I s) (p0 : (-2147483648 ≤ a0 ∧ a0 ≤ 2147483647)) (hK : ∀ z : Int, (-2147483648 ≤ z ∧ z ≤ 2147483647) → R z s) : sx_wp true sL sx eX4_type CALL [] Q R 400 0 (sx_argsF 0 [.inr (.inl 22), .inl a0]) [] s := by
  repeat' (first | (with_reducible intro _) | (refine And.intro ?_ ?_) | (refine hK _ ?_))
  all_goals (try dsimp only)
  repeat' (first | (with_reducible assumption) | ((with_reducible (change cx_I (sx_uf _ _ _ _, _))); refine cx_I_uf rfl rfl ?_ ?_ ?_) | ((with_reducible (change cx_I (_, sx_ua _ _ _ _, _))); refine cx_I_ua rfl rfl ?_ ?_ ?_) | ((with_reducible (change cx_I (_, sx_ua _ 16 _ _, _))); refine cx_I_ari ?_ ?_ ?_) | ((with_reducible (change cx_I (sx_uf _ 11 6 _, _))); refine cx_I_ufA rfl ?_ ?_ ?_ ?_) | (with_reducible exact cx_F_refl _ _) | ((with_reducible (change cx_F _ _ (sx_uf _ _ _ _, _))); refine cx_F_uf rfl ?_) | ((with_reducible (change cx_F _ _ (_, sx_ua _ _ _ _, _))); refine cx_F_ua rfl ?_) | ((with_reducible (change cx_I (_, sx_cpy _ _ _ _ _ _, _))); refine cx_I_cpy rfl rfl rfl (by decide) ?_) | ((with_reducible (change cx_F _ _ (_, sx_cpy _ _ _ _ _ _, _))); refine cx_F_cpy rfl ?_) | ((with_reducible (change cx_F _ _ _)); refine cx_F_step (by assumption) rfl ?_) | fail)
  all_goals (first | trivial | omega | (dsimp only at *; omega) | (simp only [sx_uf_if, sx_ua_if, sx_w_t, true_and, and_true, and_self, and_false, false_and, if_true, if_false, reduceIte] at *; omega) | (subst_vars; rfl) | (subst_vars; decide))

theorem c_dz_ntw {sL : Nat} {sx : Nat → Int32} (hsL : sL ≤ 3072) (d : Nat) (hd : 2 ≤ d) : ∀ (a0 : Int) (s : sx_S) (K : Int → sx_S → Prop), cx_I s → (-2147483648 ≤ a0 ∧ a0 ≤ 2147483647) → (∀ z : Int, (-2147483648 ≤ z ∧ z ≤ 2147483647) → K z s) → sx_C sL sx d 56 [.inr (.inl 22), .inl a0] s K := by
  intro a0 s K hI p0 hK
  obtain ⟨d, rfl⟩ : ∃ e, d = e + 2 := ⟨d - 2, by omega⟩
  exact sx_meth (wr := true) (n := 400) hsL (e := eX4_type) rfl (w_dz_ntw (Q := fun _ _ _ => False)  hI p0 hK)

theorem w_ac {CALL : sx_Ca} {sL : Nat} {sx : Nat → Int32} {Q : Nat → sx_L → sx_S → Prop} {R : Int → sx_S → Prop} {s : sx_S} {Z1 Z2 Z3 Z4 : sx_S → Prop} (h1 : ∀ K : Int → sx_S → Prop, (∀ u, Z1 u → K 0 u) → CALL 115 [.inr (.inl 8)] s K) (h2 : ∀ t, Z1 t → ∀ K : Int → sx_S → Prop, (∀ u, Z2 u → K 0 u) → CALL 85 [.inr (.inl 11)] t K) (h3 : ∀ t, Z2 t → ∀ K : Int → sx_S → Prop, (∀ u, Z3 u → K 0 u) → CALL 50 [.inr (.inl 19)] t K) (h4 : ∀ t, Z3 t → ∀ K : Int → sx_S → Prop, (∀ u, Z4 u → K 0 u) → CALL 50 [.inr (.inl 22)] t K) (hQ : ∀ u, Z4 u → Q 47 [(0, .inr (.inl 18)), (1, .inl 1), (2, .inl 0)] (sx_uf (sx_uf (sx_uf u.1 18 9 0) 18 10 0) 18 11 0, u.2)) : sx_wp true sL sx eX1_accepts CALL [(47, [0, 1, 2]), (134, [0, 1, 2])] Q R 400 0 (sx_argsF 0 [.inr (.inl 18)]) [] s := by
  repeat' (first | (with_reducible (rintro _ rfl)) | (with_reducible intro _) | (refine And.intro ?_ ?_) | (refine h1 _ ?_) | (refine h2 _ ?_ _ ?_) | (refine h3 _ ?_ _ ?_) | (refine h4 _ ?_ _ ?_))
  all_goals (try dsimp only at *)
  all_goals (first | trivial | assumption | omega | (exact hQ _ (by assumption)) | skip)
theorem w_ac_47 {CALL : sx_Ca} {sL : Nat} {sx : Nat → Int32} {Q : Nat → sx_L → sx_S → Prop} {R : Int → sx_S → Prop} {b : Nat → Int} {n : Int} (h_kd : ∀ (t0 : Int) (s : sx_S) (K : Int → sx_S → Prop), cx_I s → (0 ≤ t0 ∧ t0 ≤ 1000) → (px_TK b n s) → (px_lv b n t0.toNat) → (∀ z : Int, (z = px_K b n t0.toNat) → K z s) → CALL 101 [.inr (.inl 2), .inl t0] s K) {s : sx_S} {x1 x2 : Int} {Z : Int → sx_S → Prop} (hI : cx_I s) (hT : x1 = 1 → px_TK b n s ∧ px_lv b n (s.1 18 11).toNat ∧ 0 ≤ s.1 18 11 ∧ s.1 18 11 ≤ 900) (q1 : x1 = 0 ∨ x1 = 1) (q2 : 0 ≤ x2 ∧ x2 ≤ 240) (h24 : x1 = 1 → px_K b n (s.1 18 11).toNat ≠ 0 → x2 < 240) (h_eq : x1 = 1 → px_K b n (s.1 18 11).toNat = 5 → ∀ K : Int → sx_S → Prop, (∀ z t, Z z t → K z t) → CALL 23 [.inr (.inl 18)] s K) (h_dC : x1 = 1 → px_K b n (s.1 18 11).toNat = 3 → ∀ K : Int → sx_S → Prop, (∀ z t, Z z t → K z t) → CALL 22 [.inr (.inl 18), .inr (.inl 19)] s K) (h_dM : x1 = 1 → px_K b n (s.1 18 11).toNat ≠ 0 → px_K b n (s.1 18 11).toNat ≠ 5 → px_K b n (s.1 18 11).toNat ≠ 3 → ∀ K : Int → sx_S → Prop, (∀ z t, Z z t → K z t) → CALL 22 [.inr (.inl 18), .inr (.inl 22)] s K) (hQ : x2 < 240 → ∀ z t, Z z t → Q 47 [(0, .inr (.inl 18)), (1, .inl z), (2, .inl (x2 + 1))] t) (hE : x1 = 0 ∨ px_K b n (s.1 18 11).toNat = 0 → Q 134 [(0, .inr (.inl 18)), (1, .inl x1), (2, .inl 0)] s) : sx_wp true sL sx eX1_accepts CALL [(47, [0, 1, 2]), (134, [0, 1, 2])] Q R 400 47 [(0, .inr (.inl 18)), (1, .inl x1), (2, .inl x2)] [] s := by
  have zzy : sx_w true (x2 + 1) = x2 + 1 := px_wid (by omega) (by omega)
  rw [← zzy] at hQ
  rcases q1 with q1 | q1
  · have hE' := hE (Or.inl q1)
    subst q1
    clear h_eq h_dC h_dM hQ hE hT h24
    repeat' (first | (with_reducible (rintro _ rfl)) | (with_reducible intro _) | (refine And.intro ?_ ?_) | (fail))
    all_goals (try dsimp only at *)
    all_goals (first | trivial | assumption | omega | (exfalso; omega) | skip)
  · obtain ⟨hT1, hT2, hT3⟩ := hT q1
    have zzr := px_K_r b n (s.1 18 11).toNat
    have zzk : ∀ K : Int → sx_S → Prop, K (px_K b n (s.1 18 11).toNat) s → CALL 101 [.inr (.inl 2), .inl (s.1 18 11)] s K := fun K hK => h_kd _ _ _ hI (by omega) hT1 hT2 (fun z z1 => by rw [z1]; exact hK)
    have h24' := h24 q1
    have h_eq' := h_eq q1
    have h_dC' := h_dC q1
    have h_dM' := h_dM q1
    have hE' := fun q => hE (Or.inr q)
    subst q1
    clear hT h_kd h_eq h_dC h_dM hE h24 hT1 hT2
    generalize px_K b n (s.1 18 11).toNat = k at *
    by_cases k0 : k = 0
    · have hE'' := hE' k0
      clear h_eq' h_dC' h_dM' hQ
      repeat' (first | (with_reducible (rintro _ rfl)) | (with_reducible intro _) | (refine And.intro ?_ ?_) | (refine zzk _ ?_))
      all_goals (try dsimp only at *)
      all_goals (first | trivial | assumption | omega | (exfalso; omega) | skip)
    · have h24'' := h24' k0
      have hQ' := hQ h24''
      by_cases k5 : k = 5
      · have h_eq'' := h_eq' k5
        clear h_dC' h_dM' hQ
        repeat' (first | (with_reducible (rintro _ rfl)) | (with_reducible intro _) | (refine And.intro ?_ ?_) | (refine zzk _ ?_) | (refine h_eq'' _ ?_))
        all_goals (try dsimp only at *)
        all_goals (first | trivial | assumption | omega | (exfalso; omega) | (exact hQ' _ _ (by assumption)) | skip)
      · by_cases k3 : k = 3
        · have h_dC'' := h_dC' k3
          clear h_eq' h_dM' hQ
          repeat' (first | (with_reducible (rintro _ rfl)) | (with_reducible intro _) | (refine And.intro ?_ ?_) | (refine zzk _ ?_) | (refine h_dC'' _ ?_))
          all_goals (try dsimp only at *)
          all_goals (first | trivial | assumption | omega | (exfalso; omega) | (exact hQ' _ _ (by assumption)) | skip)
        · have h_dM'' := h_dM' k0 k5 k3
          clear h_eq' h_dC' hQ
          repeat' (first | (with_reducible (rintro _ rfl)) | (with_reducible intro _) | (refine And.intro ?_ ?_) | (refine zzk _ ?_) | (refine h_dM'' _ ?_))
          all_goals (try dsimp only at *)
          all_goals (first | trivial | assumption | omega | (exfalso; omega) | (exact hQ' _ _ (by assumption)) | skip)
theorem w_ac_134 {CALL : sx_Ca} {sL : Nat} {sx : Nat → Int32} {Q : Nat → sx_L → sx_S → Prop} {R : Int → sx_S → Prop} (h_nw : ∀ (a0 a1 : Int) (s : sx_S) (K : Int → sx_S → Prop), cx_I s → (-2147483648 ≤ a0 ∧ a0 ≤ 2147483647) → (-2147483648 ≤ a1 ∧ a1 ≤ 2147483647) → (∀ (z : Int) (t : sx_S), cx_I t → (t.1 18 10 = s.1 18 10 ∧ t.1 19 2 = s.1 19 2 ∧ t.1 22 2 = s.1 22 2) → (-1 ≤ z ∧ z ≤ 1023) → K z t) → CALL 88 [.inr (.inl 11), .inl a0, .inl a1] s K) (h_cw : ∀ (a0 a1 : Int) (s : sx_S) (K : Int → sx_S → Prop), cx_I s → (-1 ≤ a0 ∧ a0 ≤ 1023) → (-2147483648 ≤ a1 ∧ a1 ≤ 2147483647) → (∀ (z : Int) (t : sx_S), cx_I t → (t.1 18 10 = s.1 18 10 ∧ t.1 19 2 = s.1 19 2 ∧ t.1 22 2 = s.1 22 2) → (-1 ≤ z ∧ z ≤ 1023) → K z t) → CALL 97 [.inr (.inl 11), .inl a0, .inl a1, .inl 0] s K) (h_dz_ntw : ∀ (a0 : Int) (s : sx_S) (K : Int → sx_S → Prop), cx_I s → (-2147483648 ≤ a0 ∧ a0 ≤ 2147483647) → (∀ z : Int, (-2147483648 ≤ z ∧ z ≤ 2147483647) → K z s) → CALL 56 [.inr (.inl 22), .inl a0] s K) (h_dz_totM : ∀ (s : sx_S) (K : Int → sx_S → Prop), cx_I s → (∀ z : Int, (z = s.1 22 2) → K z s) → CALL 52 [.inr (.inl 22)] s K) {s : sx_S} {x1 x2 : Int} (hI : cx_I s) (q1 : x1 = 0 ∨ x1 = 1) (q2 : 0 ≤ x2 ∧ x2 ≤ 5) (hK : R x1 s) (hQ : x2 < 5 → ∀ t, cx_I t → (t.1 18 10 = s.1 18 10 ∧ t.1 19 2 = s.1 19 2 ∧ t.1 22 2 = s.1 22 2) → Q 134 [(0, .inr (.inl 18)), (1, .inl x1), (2, .inl (x2 + 1))] t) : sx_wp true sL sx eX1_accepts CALL [(47, [0, 1, 2]), (134, [0, 1, 2])] Q R 400 134 [(0, .inr (.inl 18)), (1, .inl x1), (2, .inl x2)] [] s := by
  have zzy : sx_w true (x2 + 1) = x2 + 1 := px_wid (by omega) (by omega)
  rw [← zzy] at hQ
  have hm := hI.fld 22 2 (by decide) rfl
  by_cases h5 : x2 < 5
  · have hQ' := hQ h5
    repeat' (first | (with_reducible (rintro _ rfl)) | (with_reducible intro _) | (refine And.intro ?_ ?_) | (refine h_nw _ _ _ _ ?_ ?_ ?_ ?_) | (refine h_cw _ _ _ _ ?_ ?_ ?_ ?_) | (refine h_dz_ntw _ _ _ ?_ ?_ ?_) | (refine h_dz_totM _ _ ?_ ?_))
    all_goals (try dsimp only at *)
    all_goals (first | trivial | assumption | omega | (exfalso; omega) | (refine hQ' _ ?_ ?_ <;> first | (refine cx_I_ua rfl rfl ?_ ?_ ?_ <;> first | assumption | omega) | (dsimp only; omega)) | skip)
  · clear hQ
    repeat' (first | (with_reducible (rintro _ rfl)) | (with_reducible intro _) | (refine And.intro ?_ ?_) | (refine h_nw _ _ _ _ ?_ ?_ ?_ ?_) | (refine h_cw _ _ _ _ ?_ ?_ ?_ ?_) | (refine h_dz_ntw _ _ _ ?_ ?_ ?_) | (refine h_dz_totM _ _ ?_ ?_))
    all_goals (try dsimp only at *)
    all_goals (first | trivial | assumption | omega | (exfalso; omega) | skip)

/-- the equations, each with what was declared before it -/
def vl_eq : List vl_I → List (Int × qx_T) → List (Int × qx_T) → List ((List (Int × qx_T) × List (Int × qx_T)) × (px_N × px_N))
  | [], _, _ => []
  | q :: r, C, M => if q.1.1 = 3 then vl_eq r (C ++ [q.1.2]) M else if q.1.1 = 4 then vl_eq r C (M ++ [q.1.2]) else ((C, M), q.2) :: vl_eq r C M
/-- all constants -/
def vl_kf : List vl_I → List (Int × qx_T) → List (Int × qx_T)
  | [], C => C
  | q :: r, C => if q.1.1 = 3 then vl_kf r (C ++ [q.1.2]) else vl_kf r C
/-- their trees -/
def dl_pr (b : Nat → Int) (n : Int) (E : List ((List (Int × qx_T) × List (Int × qx_T)) × (px_N × px_N))) (u : sx_S) : Prop := True → ∀ (k : Nat) p, E[k]? = some p → ∃ (L R : rf_N) (x : qx_T), (L ≠ .leaf ∧ dz_T 0 u L (u.2.1 26 (2 * k))) ∧ (R ≠ .leaf ∧ dz_T 0 u R (u.2.1 26 (2 * k + 1))) ∧ dl_mt b n p.1.1 p.1.2 0 u L p.2.1 [] [] x ∧ dl_mt b n p.1.1 p.1.2 0 u R p.2.2 [] [] x
theorem dl_mt_tu {b : Nat → Int} {n : Int} {C M : List (Int × qx_T)} {lo : Int} {u t : sx_S} {W : rf_N} {nn : px_N} {Γ : List (Int × qx_T)} {ρ : List Int} {x : qx_T} (h8 : u.1 11 8 ≤ t.1 11 8 ∧ ∀ j : Nat, (j : Int) < u.1 11 8 → t.2.1 17 j = u.2.1 17 j) (hu : dx_tu u t) (h : dl_mt b n C M lo u W nn Γ ρ x) : dl_mt b n C M lo t W nn Γ ρ x := fun _ => by
  obtain ⟨a1, a2, a3⟩ := h trivial
  refine ⟨dl_nb_mono (Int.le_refl _) h8.1 a1, a2, fun AR hA => (vl_tm_mono (fun v T ⟨h1, h2, h3⟩ => ⟨h1, by have := h8.1; omega, ?_⟩)).1 (a3 AR hA)⟩
  rw [h8.2 v.toNat (by omega)]
  exact dx_is_up h3 hu
theorem dl_pr_mono {b : Nat → Int} {n : Int} {E : List ((List (Int × qx_T) × List (Int × qx_T)) × (px_N × px_N))} {u t : sx_S} (hf : dz_fr (fun j => (j : Int) < u.1 11 6) u t) (h8 : u.1 11 8 ≤ t.1 11 8 ∧ ∀ j : Nat, (j : Int) < u.1 11 8 → t.2.1 17 j = u.2.1 17 j) (hu : dx_tu u t) (h26 : ∀ j : Nat, j < 2 * E.length → t.2.1 26 j = u.2.1 26 j) (h : dl_pr b n E u) : dl_pr b n E t := fun _ k p hk => by
  have hl : k < E.length := (List.getElem?_eq_some_iff.mp hk).1
  obtain ⟨L, R, x, ⟨a1, a2⟩, ⟨a3, a4⟩, a5, a6⟩ := h trivial k p hk
  rw [h26 _ (by omega), h26 _ (by omega)]
  exact ⟨L, R, x, ⟨a1, dz_T_fr a2 hf (dz_T_lt a2)⟩, ⟨a3, dz_T_fr a4 hf (dz_T_lt a4)⟩, dl_mt_tu h8 hu a5, dl_mt_tu h8 hu a6⟩
theorem dl_pr_F {b : Nat → Int} {n : Int} {E : List ((List (Int × qx_T) × List (Int × qx_T)) × (px_N × px_N))} {u t : sx_S} (hF : cx_F [(8, 10), (18, 24)] u t) (hu : dx_tu u t) (h : dl_pr b n E u) : dl_pr b n E t := dl_pr_mono (fun _ => ⟨by rw [(hF.same 11 rfl).1]; exact Int.le_refl _, fun j _ => by rw [(hF.same 12 rfl).2, (hF.same 13 rfl).2, (hF.same 14 rfl).2, (hF.same 15 rfl).2, (hF.same 16 rfl).2]; exact ⟨rfl, rfl, rfl, rfl, rfl⟩⟩) ⟨by rw [(hF.same 11 rfl).1]; exact Int.le_refl _, fun j _ => by rw [(hF.same 17 rfl).2]⟩ hu (fun j _ => by rw [(hF.same 26 rfl).2]) h
theorem dl_pr_EQ {b : Nat → Int} {n : Int} {C M : List (Int × qx_T)} {t1 t2 : px_N} {E : List ((List (Int × qx_T) × List (Int × qx_T)) × (px_N × px_N))} {u t : sx_S} (h10 : u.1 18 10 = (E.length : Int)) (h60 : 0 ≤ u.1 11 6) (h80 : 0 ≤ u.1 11 8) (hq : dl_EQ b n C M t1 t2 u t) (h : dl_pr b n E u) : dl_pr b n (E ++ [((C, M), (t1, t2))]) t := fun _ k p hk => by
  obtain ⟨⟨L, R, x, ⟨a1, a2⟩, ⟨a3, a4⟩, a5, a6⟩, b1, b2, b3, b4⟩ := hq trivial
  by_cases q : k < E.length
  · rw [List.getElem?_append_left q] at hk
    exact dl_pr_mono b1 b2 b3 (fun j hj => b4 j (by omega) (by omega)) h trivial k p hk
  · rw [List.getElem?_append_right (by omega)] at hk
    have e0 : k - E.length = 0 := by
      apply Classical.byContradiction
      intro z
      rw [List.getElem?_eq_none (by rw [List.length_singleton]; omega)] at hk
      cases hk
    rw [e0] at hk
    have ep : ((C, M), (t1, t2)) = p := by simpa using hk
    have ek : k = E.length := by omega
    rw [← ep, ek]
    rw [h10, show (2 * (E.length : Int)).toNat = 2 * E.length by omega] at a2
    rw [h10, show (2 * (E.length : Int) + 1).toNat = 2 * E.length + 1 by omega] at a4
    exact ⟨L, R, x, ⟨a1, dz_T_lo a2 h60⟩, ⟨a3, dz_T_lo a4 h60⟩, dl_mt_lo h80 a5, dl_mt_lo h80 a6⟩
/-- an item of the text -/
def dl_AI (b : Nat → Int) (n : Int) (l : List ((Int × Int × qx_T) × (px_N × px_N))) (x2 : Int) (u : sx_S) : Prop := True → (∃ (C M : List (Int × qx_T)) (e : Nat) (l' : List ((Int × Int × qx_T) × (px_N × px_N))), dz_E b n C M u ∧ u.1 18 9 = 0 ∧ px_TX (px_K b n) l' (u.1 18 11) ∧ px_lv b n (u.1 18 11).toNat ∧ (px_ck (px_SN b n) l [] [] 0 ↔ px_ck (px_SN b n) l' C M e) ∧ (C.length + px_c3 3 l' = px_c3 3 l ∧ M.length + px_c3 4 l' = px_c3 4 l ∧ e + px_c3 5 l' = px_c3 5 l) ∧ (∃ E, vl_eq l [] [] = E ++ vl_eq l' C M ∧ E.length = e ∧ dl_pr b n E u ∧ vl_mf l [] = vl_mf l' M ∧ vl_kf l [] = vl_kf l' C) ∧ (u.1 18 10 = (e : Int) ∧ 0 ≤ u.1 18 11 ∧ u.1 11 6 + 20 * (M.length : Int) ≤ 4 * u.1 18 11 ∧ u.1 11 8 ≤ 2 * u.1 18 11 ∧ u.1 8 2 ≤ 2 + u.1 18 11)) ∧ x2 ≤ u.1 18 11
