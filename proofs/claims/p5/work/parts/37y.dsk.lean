/-! ===== the desk's checker: a whole text ===== -/
theorem px_IT_nk {K : Nat → Int} {a c : Int} {q : (Int × Int × qx_T) × (px_N × px_N)} (h : px_IT K a q c) (h0 : 0 ≤ a) : px_nk K a c := by
  rcases h with ⟨a1, a2, a3, x, e, a4, a5, a6, a7⟩ | ⟨a1, t, e, u, g, a2, a3, a4, a5, a6, a7⟩
  · rw [show a + 2 = a + 1 + 1 by omega] at a3
    rw [show a + 3 = a + 1 + 1 + 1 by omega] at a4
    subst a6
    exact px_nk_t (px_nk_1 (by omega)) (px_nk_t (px_nk_1 (by omega)) (px_nk_t (px_nk_1 (by omega)) (px_nk_t (px_TY_k a4) (px_nk_1 (by omega)))))
  · have l1 := px_TM_le a2
    have l2 := px_TM_le a4
    subst a6
    exact px_nk_t (px_nk_1 (by omega)) (px_nk_t (px_TM_rd (m := e) a2 (by omega) (Int.le_refl _)).1 (px_nk_t (px_nk_1 (by omega)) (px_nk_t (px_TM_rd (m := g) a4 (by omega) (Int.le_refl _)).1 (px_nk_1 (by omega)))))

theorem c_dz_tyc {sL : Nat} {sx : Nat → Int32} (hsL : sL ≤ 3072) (d : Nat) (hd : 2 ≤ d) : ∀ (s : sx_S) (R : Int → sx_S → Prop), cx_I s → R 0 (sx_uf s.1 8 2 2, s.2) → sx_C sL sx d 115 [.inr (.inl 8)] s R := by
  intro s R hI hK
  obtain ⟨d, rfl⟩ : ∃ e, d = e + 2 := ⟨d - 2, by omega⟩
  refine sx_meth (wr := true) (n := 400) hsL (e := eX9_clear) rfl ?_
  repeat' (first | (with_reducible (rintro _ rfl)) | (with_reducible intro _) | (refine And.intro ?_ ?_) | (fail))
  all_goals (try dsimp only at *)
  all_goals (first | trivial | assumption | omega | (exfalso; omega) | skip)

theorem c_dz_tec {sL : Nat} {sx : Nat → Int32} (hsL : sL ≤ 3072) (d : Nat) (hd : 2 ≤ d) : ∀ (s : sx_S) (R : Int → sx_S → Prop), cx_I s → R 0 (sx_uf (sx_uf s.1 11 6 0) 11 8 0, s.2) → sx_C sL sx d 85 [.inr (.inl 11)] s R := by
  intro s R hI hK
  obtain ⟨d, rfl⟩ : ∃ e, d = e + 2 := ⟨d - 2, by omega⟩
  refine sx_meth (wr := true) (n := 400) hsL (e := eX7_clear) rfl ?_
  repeat' (first | (with_reducible (rintro _ rfl)) | (with_reducible intro _) | (refine And.intro ?_ ?_) | (fail))
  all_goals (try dsimp only at *)
  all_goals (first | trivial | assumption | omega | (exfalso; omega) | skip)

theorem c_dz_ncC {sL : Nat} {sx : Nat → Int32} (hsL : sL ≤ 3072) (d : Nat) (hd : 2 ≤ d) : ∀ (s : sx_S) (R : Int → sx_S → Prop), cx_I s → R 0 (sx_uf s.1 19 2 0, s.2) → sx_C sL sx d 50 [.inr (.inl 19)] s R := by
  intro s R hI hK
  obtain ⟨d, rfl⟩ : ∃ e, d = e + 2 := ⟨d - 2, by omega⟩
  refine sx_meth (wr := true) (n := 400) hsL (e := eX4_clear) rfl ?_
  repeat' (first | (with_reducible (rintro _ rfl)) | (with_reducible intro _) | (refine And.intro ?_ ?_) | (fail))
  all_goals (try dsimp only at *)
  all_goals (first | trivial | assumption | omega | (exfalso; omega) | skip)

theorem c_dz_ncM {sL : Nat} {sx : Nat → Int32} (hsL : sL ≤ 3072) (d : Nat) (hd : 2 ≤ d) : ∀ (s : sx_S) (R : Int → sx_S → Prop), cx_I s → R 0 (sx_uf s.1 22 2 0, s.2) → sx_C sL sx d 50 [.inr (.inl 22)] s R := by
  intro s R hI hK
  obtain ⟨d, rfl⟩ : ∃ e, d = e + 2 := ⟨d - 2, by omega⟩
  refine sx_meth (wr := true) (n := 400) hsL (e := eX4_clear) rfl ?_
  repeat' (first | (with_reducible (rintro _ rfl)) | (with_reducible intro _) | (refine And.intro ?_ ?_) | (fail))
  all_goals (try dsimp only at *)
  all_goals (first | trivial | assumption | omega | (exfalso; omega) | skip)

theorem w_dz_totM {CALL : sx_Ca} {sL : Nat} {sx : Nat → Int32} {Q : Nat → sx_L → sx_S → Prop} {R : Int → sx_S → Prop} {s : sx_S} (hI : cx_I s) (hK : ∀ z : Int, (z = s.1 22 2) → R z s) : sx_wp true sL sx eX4_total CALL [] Q R 400 0 (sx_argsF 0 [.inr (.inl 22)]) [] s := by
  repeat' (first | (with_reducible (rintro _ rfl)) | (with_reducible intro _) | (refine And.intro ?_ ?_) | (refine hK _ ?_))
  all_goals (try dsimp only)
  repeat' (first | (with_reducible assumption) | ((with_reducible (change cx_I (sx_uf _ _ _ _, _))); refine cx_I_uf rfl rfl ?_ ?_ ?_) | ((with_reducible (change cx_I (_, sx_ua _ _ _ _, _))); refine cx_I_ua rfl rfl ?_ ?_ ?_) | ((with_reducible (change cx_I (_, sx_ua _ 16 _ _, _))); refine cx_I_ari ?_ ?_ ?_) | ((with_reducible (change cx_I (sx_uf _ 11 6 _, _))); refine cx_I_ufA rfl ?_ ?_ ?_ ?_) | (with_reducible exact cx_F_refl _ _) | ((with_reducible (change cx_F _ _ (sx_uf _ _ _ _, _))); refine cx_F_uf rfl ?_) | ((with_reducible (change cx_F _ _ (_, sx_ua _ _ _ _, _))); refine cx_F_ua rfl ?_) | ((with_reducible (change cx_I (_, sx_cpy _ _ _ _ _ _, _))); refine cx_I_cpy rfl rfl rfl (by decide) ?_) | ((with_reducible (change cx_F _ _ (_, sx_cpy _ _ _ _ _ _, _))); refine cx_F_cpy rfl ?_) | ((with_reducible (change cx_F _ _ _)); refine cx_F_step (by assumption) rfl ?_) | fail)
  all_goals (try dsimp only at *)
  all_goals (first | trivial | omega | rfl | (intros; omega) | (intros; rfl) | skip)

theorem c_dz_totM {sL : Nat} {sx : Nat → Int32} (hsL : sL ≤ 3072) (d : Nat) (hd : 2 ≤ d) : ∀ (s : sx_S) (K : Int → sx_S → Prop), cx_I s → (∀ z : Int, (z = s.1 22 2) → K z s) → sx_C sL sx d 52 [.inr (.inl 22)] s K := by
  intro  s K hI  hK
  obtain ⟨d, rfl⟩ : ∃ e, d = e + 2 := ⟨d - 2, by omega⟩
  exact sx_meth (wr := true) (n := 400) hsL (e := eX4_total) rfl (w_dz_totM (Q := fun _ _ _ => False)  hI  hK)

theorem w_dz_ntw {CALL : sx_Ca} {sL : Nat} {sx : Nat → Int32} {Q : Nat → sx_L → sx_S → Prop} {R : Int → sx_S → Prop} {s : sx_S} {a0 : Int} (hI : cx_I s) (p0 : (-2147483648 ≤ a0 ∧ a0 ≤ 2147483647)) (hK : ∀ z : Int, (-2147483648 ≤ z ∧ z ≤ 2147483647) → R z s) : sx_wp true sL sx eX4_type CALL [] Q R 400 0 (sx_argsF 0 [.inr (.inl 22), .inl a0]) [] s := by
  repeat' (first | (with_reducible intro _) | (refine And.intro ?_ ?_) | (refine hK _ ?_))
  all_goals (try dsimp only)
  repeat' (first | (with_reducible assumption) | ((with_reducible (change cx_I (sx_uf _ _ _ _, _))); refine cx_I_uf rfl rfl ?_ ?_ ?_) | ((with_reducible (change cx_I (_, sx_ua _ _ _ _, _))); refine cx_I_ua rfl rfl ?_ ?_ ?_) | ((with_reducible (change cx_I (_, sx_ua _ 16 _ _, _))); refine cx_I_ari ?_ ?_ ?_) | ((with_reducible (change cx_I (sx_uf _ 11 6 _, _))); refine cx_I_ufA rfl ?_ ?_ ?_ ?_) | (with_reducible exact cx_F_refl _ _) | ((with_reducible (change cx_F _ _ (sx_uf _ _ _ _, _))); refine cx_F_uf rfl ?_) | ((with_reducible (change cx_F _ _ (_, sx_ua _ _ _ _, _))); refine cx_F_ua rfl ?_) | ((with_reducible (change cx_I (_, sx_cpy _ _ _ _ _ _, _))); refine cx_I_cpy rfl rfl rfl (by decide) ?_) | ((with_reducible (change cx_F _ _ (_, sx_cpy _ _ _ _ _ _, _))); refine cx_F_cpy rfl ?_) | ((with_reducible (change cx_F _ _ _)); refine cx_F_step (by assumption) rfl ?_) | fail)
  all_goals (first | trivial | omega | (dsimp only at *; omega) | (simp only [sx_uf_if, sx_ua_if, sx_w_t, true_and, and_true, and_self, and_false, false_and, if_true, if_false, reduceIte] at *; omega) | (subst_vars; rfl) | (subst_vars; decide))

theorem c_dz_ntw {sL : Nat} {sx : Nat → Int32} (hsL : sL ≤ 3072) (d : Nat) (hd : 2 ≤ d) : ∀ (a0 : Int) (s : sx_S) (K : Int → sx_S → Prop), cx_I s → (-2147483648 ≤ a0 ∧ a0 ≤ 2147483647) → (∀ z : Int, (-2147483648 ≤ z ∧ z ≤ 2147483647) → K z s) → sx_C sL sx d 56 [.inr (.inl 22), .inl a0] s K := by
  intro a0 s K hI p0 hK
  obtain ⟨d, rfl⟩ : ∃ e, d = e + 2 := ⟨d - 2, by omega⟩
  exact sx_meth (wr := true) (n := 400) hsL (e := eX4_type) rfl (w_dz_ntw (Q := fun _ _ _ => False)  hI p0 hK)

theorem w_ac {CALL : sx_Ca} {sL : Nat} {sx : Nat → Int32} {Q : Nat → sx_L → sx_S → Prop} {R : Int → sx_S → Prop} {s : sx_S} {Z1 Z2 Z3 Z4 : sx_S → Prop} (h1 : ∀ K : Int → sx_S → Prop, (∀ u, Z1 u → K 0 u) → CALL 115 [.inr (.inl 8)] s K) (h2 : ∀ t, Z1 t → ∀ K : Int → sx_S → Prop, (∀ u, Z2 u → K 0 u) → CALL 85 [.inr (.inl 11)] t K) (h3 : ∀ t, Z2 t → ∀ K : Int → sx_S → Prop, (∀ u, Z3 u → K 0 u) → CALL 50 [.inr (.inl 19)] t K) (h4 : ∀ t, Z3 t → ∀ K : Int → sx_S → Prop, (∀ u, Z4 u → K 0 u) → CALL 50 [.inr (.inl 22)] t K) (hQ : ∀ u, Z4 u → Q 47 [(0, .inr (.inl 18)), (1, .inl 1), (2, .inl 0)] (sx_uf (sx_uf (sx_uf u.1 18 9 0) 18 10 0) 18 11 0, u.2)) : sx_wp true sL sx eX1_accepts CALL [(47, [0, 1, 2]), (134, [0, 1, 2])] Q R 400 0 (sx_argsF 0 [.inr (.inl 18)]) [] s := by
  repeat' (first | (with_reducible (rintro _ rfl)) | (with_reducible intro _) | (refine And.intro ?_ ?_) | (refine h1 _ ?_) | (refine h2 _ ?_ _ ?_) | (refine h3 _ ?_ _ ?_) | (refine h4 _ ?_ _ ?_))
  all_goals (try dsimp only at *)
  all_goals (first | trivial | assumption | omega | (exact hQ _ (by assumption)) | skip)
theorem w_ac_47 {CALL : sx_Ca} {sL : Nat} {sx : Nat → Int32} {Q : Nat → sx_L → sx_S → Prop} {R : Int → sx_S → Prop} {b : Nat → Int} {n : Int} (h_kd : ∀ (t0 : Int) (s : sx_S) (K : Int → sx_S → Prop), cx_I s → (0 ≤ t0 ∧ t0 ≤ 1000) → (px_TK b n s) → (px_lv b n t0.toNat) → (∀ z : Int, (z = px_K b n t0.toNat) → K z s) → CALL 101 [.inr (.inl 2), .inl t0] s K) {s : sx_S} {x1 x2 : Int} {Z : Int → sx_S → Prop} (hI : cx_I s) (hT : x1 = 1 → px_TK b n s ∧ px_lv b n (s.1 18 11).toNat ∧ 0 ≤ s.1 18 11 ∧ s.1 18 11 ≤ 900) (q1 : x1 = 0 ∨ x1 = 1) (q2 : 0 ≤ x2 ∧ x2 ≤ 240) (h24 : x1 = 1 → px_K b n (s.1 18 11).toNat ≠ 0 → x2 < 240) (h_eq : x1 = 1 → px_K b n (s.1 18 11).toNat = 5 → ∀ K : Int → sx_S → Prop, (∀ z t, Z z t → K z t) → CALL 23 [.inr (.inl 18)] s K) (h_dC : x1 = 1 → px_K b n (s.1 18 11).toNat = 3 → ∀ K : Int → sx_S → Prop, (∀ z t, Z z t → K z t) → CALL 22 [.inr (.inl 18), .inr (.inl 19)] s K) (h_dM : x1 = 1 → px_K b n (s.1 18 11).toNat ≠ 0 → px_K b n (s.1 18 11).toNat ≠ 5 → px_K b n (s.1 18 11).toNat ≠ 3 → ∀ K : Int → sx_S → Prop, (∀ z t, Z z t → K z t) → CALL 22 [.inr (.inl 18), .inr (.inl 22)] s K) (hQ : x2 < 240 → ∀ z t, Z z t → Q 47 [(0, .inr (.inl 18)), (1, .inl z), (2, .inl (x2 + 1))] t) (hE : x1 = 0 ∨ px_K b n (s.1 18 11).toNat = 0 → Q 134 [(0, .inr (.inl 18)), (1, .inl x1), (2, .inl 0)] s) : sx_wp true sL sx eX1_accepts CALL [(47, [0, 1, 2]), (134, [0, 1, 2])] Q R 400 47 [(0, .inr (.inl 18)), (1, .inl x1), (2, .inl x2)] [] s := by
  have zzy : sx_w true (x2 + 1) = x2 + 1 := px_wid (by omega) (by omega)
  rw [← zzy] at hQ
  rcases q1 with q1 | q1
  · have hE' := hE (Or.inl q1)
    subst q1
    clear h_eq h_dC h_dM hQ hE hT h24
    repeat' (first | (with_reducible (rintro _ rfl)) | (with_reducible intro _) | (refine And.intro ?_ ?_) | (fail))
    all_goals (try dsimp only at *)
    all_goals (first | trivial | assumption | omega | (exfalso; omega) | skip)
  · obtain ⟨hT1, hT2, hT3⟩ := hT q1
    have zzr := px_K_r b n (s.1 18 11).toNat
    have zzk : ∀ K : Int → sx_S → Prop, K (px_K b n (s.1 18 11).toNat) s → CALL 101 [.inr (.inl 2), .inl (s.1 18 11)] s K := fun K hK => h_kd _ _ _ hI (by omega) hT1 hT2 (fun z z1 => by rw [z1]; exact hK)
    have h24' := h24 q1
    have h_eq' := h_eq q1
    have h_dC' := h_dC q1
    have h_dM' := h_dM q1
    have hE' := fun q => hE (Or.inr q)
    subst q1
    clear hT h_kd h_eq h_dC h_dM hE h24 hT1 hT2
    generalize px_K b n (s.1 18 11).toNat = k at *
    by_cases k0 : k = 0
    · have hE'' := hE' k0
      clear h_eq' h_dC' h_dM' hQ
      repeat' (first | (with_reducible (rintro _ rfl)) | (with_reducible intro _) | (refine And.intro ?_ ?_) | (refine zzk _ ?_))
      all_goals (try dsimp only at *)
      all_goals (first | trivial | assumption | omega | (exfalso; omega) | skip)
    · have h24'' := h24' k0
      have hQ' := hQ h24''
      by_cases k5 : k = 5
      · have h_eq'' := h_eq' k5
        clear h_dC' h_dM' hQ
        repeat' (first | (with_reducible (rintro _ rfl)) | (with_reducible intro _) | (refine And.intro ?_ ?_) | (refine zzk _ ?_) | (refine h_eq'' _ ?_))
        all_goals (try dsimp only at *)
        all_goals (first | trivial | assumption | omega | (exfalso; omega) | (exact hQ' _ _ (by assumption)) | skip)
      · by_cases k3 : k = 3
        · have h_dC'' := h_dC' k3
          clear h_eq' h_dM' hQ
          repeat' (first | (with_reducible (rintro _ rfl)) | (with_reducible intro _) | (refine And.intro ?_ ?_) | (refine zzk _ ?_) | (refine h_dC'' _ ?_))
          all_goals (try dsimp only at *)
          all_goals (first | trivial | assumption | omega | (exfalso; omega) | (exact hQ' _ _ (by assumption)) | skip)
        · have h_dM'' := h_dM' k0 k5 k3
          clear h_eq' h_dC' hQ
          repeat' (first | (with_reducible (rintro _ rfl)) | (with_reducible intro _) | (refine And.intro ?_ ?_) | (refine zzk _ ?_) | (refine h_dM'' _ ?_))
          all_goals (try dsimp only at *)
          all_goals (first | trivial | assumption | omega | (exfalso; omega) | (exact hQ' _ _ (by assumption)) | skip)
theorem w_ac_134 {CALL : sx_Ca} {sL : Nat} {sx : Nat → Int32} {Q : Nat → sx_L → sx_S → Prop} {R : Int → sx_S → Prop} (h_nw : ∀ (a0 a1 : Int) (s : sx_S) (K : Int → sx_S → Prop), cx_I s → (-2147483648 ≤ a0 ∧ a0 ≤ 2147483647) → (-2147483648 ≤ a1 ∧ a1 ≤ 2147483647) → (∀ (z : Int) (t : sx_S), cx_I t → (t.1 18 10 = s.1 18 10 ∧ t.1 19 2 = s.1 19 2 ∧ t.1 22 2 = s.1 22 2) → (-1 ≤ z ∧ z ≤ 1023) → K z t) → CALL 88 [.inr (.inl 11), .inl a0, .inl a1] s K) (h_cw : ∀ (a0 a1 : Int) (s : sx_S) (K : Int → sx_S → Prop), cx_I s → (-1 ≤ a0 ∧ a0 ≤ 1023) → (-2147483648 ≤ a1 ∧ a1 ≤ 2147483647) → (∀ (z : Int) (t : sx_S), cx_I t → (t.1 18 10 = s.1 18 10 ∧ t.1 19 2 = s.1 19 2 ∧ t.1 22 2 = s.1 22 2) → (-1 ≤ z ∧ z ≤ 1023) → K z t) → CALL 97 [.inr (.inl 11), .inl a0, .inl a1, .inl 0] s K) (h_dz_ntw : ∀ (a0 : Int) (s : sx_S) (K : Int → sx_S → Prop), cx_I s → (-2147483648 ≤ a0 ∧ a0 ≤ 2147483647) → (∀ z : Int, (-2147483648 ≤ z ∧ z ≤ 2147483647) → K z s) → CALL 56 [.inr (.inl 22), .inl a0] s K) (h_dz_totM : ∀ (s : sx_S) (K : Int → sx_S → Prop), cx_I s → (∀ z : Int, (z = s.1 22 2) → K z s) → CALL 52 [.inr (.inl 22)] s K) {s : sx_S} {x1 x2 : Int} (hI : cx_I s) (q1 : x1 = 0 ∨ x1 = 1) (q2 : 0 ≤ x2 ∧ x2 ≤ 5) (hK : R x1 s) (hQ : x2 < 5 → ∀ t, cx_I t → (t.1 18 10 = s.1 18 10 ∧ t.1 19 2 = s.1 19 2 ∧ t.1 22 2 = s.1 22 2) → Q 134 [(0, .inr (.inl 18)), (1, .inl x1), (2, .inl (x2 + 1))] t) : sx_wp true sL sx eX1_accepts CALL [(47, [0, 1, 2]), (134, [0, 1, 2])] Q R 400 134 [(0, .inr (.inl 18)), (1, .inl x1), (2, .inl x2)] [] s := by
  have zzy : sx_w true (x2 + 1) = x2 + 1 := px_wid (by omega) (by omega)
  rw [← zzy] at hQ
  have hm := hI.fld 22 2 (by decide) rfl
  by_cases h5 : x2 < 5
  · have hQ' := hQ h5
    repeat' (first | (with_reducible (rintro _ rfl)) | (with_reducible intro _) | (refine And.intro ?_ ?_) | (refine h_nw _ _ _ _ ?_ ?_ ?_ ?_) | (refine h_cw _ _ _ _ ?_ ?_ ?_ ?_) | (refine h_dz_ntw _ _ _ ?_ ?_ ?_) | (refine h_dz_totM _ _ ?_ ?_))
    all_goals (try dsimp only at *)
    all_goals (first | trivial | assumption | omega | (exfalso; omega) | (refine hQ' _ ?_ ?_ <;> first | (refine cx_I_ua rfl rfl ?_ ?_ ?_ <;> first | assumption | omega) | (dsimp only; omega)) | skip)
  · clear hQ
    repeat' (first | (with_reducible (rintro _ rfl)) | (with_reducible intro _) | (refine And.intro ?_ ?_) | (refine h_nw _ _ _ _ ?_ ?_ ?_ ?_) | (refine h_cw _ _ _ _ ?_ ?_ ?_ ?_) | (refine h_dz_ntw _ _ _ ?_ ?_ ?_) | (refine h_dz_totM _ _ ?_ ?_))
    all_goals (try dsimp only at *)
    all_goals (first | trivial | assumption | omega | (exfalso; omega) | skip)

/-- an item of the text -/
def dz_AI (b : Nat → Int) (n : Int) (l : List ((Int × Int × qx_T) × (px_N × px_N))) (x2 : Int) (u : sx_S) : Prop := True → (∃ (C M : List (Int × qx_T)) (e : Nat) (l' : List ((Int × Int × qx_T) × (px_N × px_N))), dz_E b n C M u ∧ u.1 18 9 = 0 ∧ px_TX (px_K b n) l' (u.1 18 11) ∧ px_lv b n (u.1 18 11).toNat ∧ (px_ck (px_SN b n) l [] [] 0 ↔ px_ck (px_SN b n) l' C M e) ∧ (C.length + px_c3 3 l' = px_c3 3 l ∧ M.length + px_c3 4 l' = px_c3 4 l ∧ e + px_c3 5 l' = px_c3 5 l) ∧ (u.1 18 10 = (e : Int) ∧ 0 ≤ u.1 18 11 ∧ u.1 11 6 ≤ 4 * u.1 18 11 ∧ u.1 11 8 ≤ 2 * u.1 18 11 ∧ u.1 8 2 ≤ 2 + u.1 18 11)) ∧ x2 ≤ u.1 18 11
theorem st_dz_acc {sL : Nat} {sx : Nat → Int32} (hsL : sL ≤ 3072) {d : Nat} (hd : 90 ≤ d) (b : Nat → Int) (n : Int) (h_nw : ∀ (a0 a1 : Int) (s : sx_S) (K : Int → sx_S → Prop), cx_I s → (-2147483648 ≤ a0 ∧ a0 ≤ 2147483647) → (-2147483648 ≤ a1 ∧ a1 ≤ 2147483647) → (∀ (z : Int) (t : sx_S), cx_I t → (t.1 18 10 = s.1 18 10 ∧ t.1 19 2 = s.1 19 2 ∧ t.1 22 2 = s.1 22 2) → (-1 ≤ z ∧ z ≤ 1023) → K z t) → sx_C sL sx (d + 1) 88 [.inr (.inl 11), .inl a0, .inl a1] s K) (h_cw : ∀ (a0 a1 : Int) (s : sx_S) (K : Int → sx_S → Prop), cx_I s → (-1 ≤ a0 ∧ a0 ≤ 1023) → (-2147483648 ≤ a1 ∧ a1 ≤ 2147483647) → (∀ (z : Int) (t : sx_S), cx_I t → (t.1 18 10 = s.1 18 10 ∧ t.1 19 2 = s.1 19 2 ∧ t.1 22 2 = s.1 22 2) → (-1 ≤ z ∧ z ≤ 1023) → K z t) → sx_C sL sx (d + 1) 97 [.inr (.inl 11), .inl a0, .inl a1, .inl 0] s K) : ∀ (l : List ((Int × Int × qx_T) × (px_N × px_N))) (s : sx_S) (R : Int → sx_S → Prop), cx_I s → dz_TN b n s → px_TX (px_K b n) l 0 → (px_ck (px_SN b n) l [] [] 0 → ∀ t, cx_I t → (t.1 19 2 = (px_c3 3 l : Int) ∧ t.1 22 2 = (px_c3 4 l : Int) ∧ t.1 18 10 = (px_c3 5 l : Int)) → R 1 t) → (¬ px_ck (px_SN b n) l [] [] 0 → ∀ t, cx_I t → R 0 t) → sx_C sL sx (d + 2) 11 [.inr (.inl 18)] s R := by
  intro l s R hI hTN pX hK1 hK0
  have i1 : cx_I (sx_uf s.1 8 2 2, s.2) := cx_I_uf rfl rfl hI (by omega) (by omega)
  have i2 : cx_I (sx_uf (sx_uf (sx_uf s.1 8 2 2) 11 6 0) 11 8 0, s.2) := cx_I_uf rfl rfl (cx_I_ufA rfl i1 (by omega) (by omega) (fun j hj => by rw [px_us] at hj; omega)) (by omega) (by omega)
  have i3 : cx_I (sx_uf (sx_uf (sx_uf (sx_uf s.1 8 2 2) 11 6 0) 11 8 0) 19 2 0, s.2) := cx_I_uf rfl rfl i2 (by omega) (by omega)
  have i4 : cx_I (sx_uf (sx_uf (sx_uf (sx_uf (sx_uf s.1 8 2 2) 11 6 0) 11 8 0) 19 2 0) 22 2 0, s.2) := cx_I_uf rfl rfl i3 (by omega) (by omega)
  have i5 : cx_I (sx_uf (sx_uf (sx_uf (sx_uf (sx_uf (sx_uf (sx_uf (sx_uf s.1 8 2 2) 11 6 0) 11 8 0) 19 2 0) 22 2 0) 18 9 0) 18 10 0) 18 11 0, s.2) := cx_I_uf rfl rfl (cx_I_uf rfl rfl (cx_I_uf rfl rfl i4 (by omega) (by omega)) (by omega) (by omega)) (by omega) (by omega)
  have F5 : cx_F [(8, 8), (11, 11), (18, 19), (22, 22)] s ((sx_uf (sx_uf (sx_uf (sx_uf (sx_uf (sx_uf (sx_uf (sx_uf s.1 8 2 2) 11 6 0) 11 8 0) 19 2 0) 22 2 0) 18 9 0) 18 10 0) 18 11 0, s.2) : sx_S) := cx_F_uf rfl (cx_F_uf rfl (cx_F_uf rfl (cx_F_uf rfl (cx_F_uf rfl (cx_F_uf rfl (cx_F_uf rfl (cx_F_uf rfl (cx_F_refl _ _))))))))
  have hE0 : dz_E b n [] [] (sx_uf (sx_uf (sx_uf (sx_uf (sx_uf (sx_uf (sx_uf (sx_uf s.1 8 2 2) 11 6 0) 11 8 0) 19 2 0) 22 2 0) 18 9 0) 18 10 0) 18 11 0, s.2) := fun _ => by
    refine ⟨fun _ => ?_, fun _ => ⟨rfl, fun k hk => absurd hk (Nat.not_lt_zero _)⟩, fun _ => ⟨rfl, fun k hk => absurd hk (Nat.not_lt_zero _)⟩, ⟨fun i j q1 q2 => ?_, by show (2 : Int) ≤ 2; omega⟩, fun q hq => absurd hq List.not_mem_nil, fun q hq => absurd hq List.not_mem_nil⟩
    · obtain ⟨a1, a2, a3⟩ := hTN trivial
      exact ⟨a1, a2, px_TK_F F5 rfl rfl rfl rfl a3⟩
    · have q2' : i < 2 := q2
      omega
  refine sx_methL (wr := true) (n := 400) (n' := 400) (stop := [(47, [0, 1, 2]), (134, [0, 1, 2])]) (fun nn pc ls u => cx_I u ∧ ((pc = 47 ∧ ∃ x1 x2 : Int, ls = [(0, .inr (.inl 18)), (1, .inl x1), (2, .inl x2)] ∧ (0 ≤ x2 ∧ x2 ≤ 240) ∧ ((x1 = 1 ∧ dz_AI b n l x2 u) ∨ (x1 = 0 ∧ ¬ px_ck (px_SN b n) l [] [] 0)) ∧ nn = (500 - x2).toNat) ∨ (pc = 134 ∧ ∃ x1 x2 : Int, ls = [(0, .inr (.inl 18)), (1, .inl x1), (2, .inl x2)] ∧ (0 ≤ x2 ∧ x2 ≤ 5) ∧ ((x1 = 1 ∧ px_ck (px_SN b n) l [] [] 0 ∧ (u.1 19 2 = (px_c3 3 l : Int) ∧ u.1 22 2 = (px_c3 4 l : Int) ∧ u.1 18 10 = (px_c3 5 l : Int))) ∨ (x1 = 0 ∧ ¬ px_ck (px_SN b n) l [] [] 0)) ∧ nn = (5 - x2).toNat))) hsL (e := eX1_accepts) rfl ?_ ?_
  · refine w_ac (Z1 := fun t => t = (sx_uf s.1 8 2 2, s.2)) (Z2 := fun t => t = (sx_uf (sx_uf (sx_uf s.1 8 2 2) 11 6 0) 11 8 0, s.2)) (Z3 := fun t => t = (sx_uf (sx_uf (sx_uf (sx_uf s.1 8 2 2) 11 6 0) 11 8 0) 19 2 0, s.2)) (Z4 := fun t => t = (sx_uf (sx_uf (sx_uf (sx_uf (sx_uf s.1 8 2 2) 11 6 0) 11 8 0) 19 2 0) 22 2 0, s.2)) ?_ ?_ ?_ ?_ ?_
    · exact fun K hK => c_dz_tyc hsL (d + 1) (by omega) s K hI (hK _ rfl)
    · rintro t rfl K hK
      exact c_dz_tec hsL (d + 1) (by omega) _ K i1 (hK _ rfl)
    · rintro t rfl K hK
      exact c_dz_ncC hsL (d + 1) (by omega) _ K i2 (hK _ rfl)
    · rintro t rfl K hK
      exact c_dz_ncM hsL (d + 1) (by omega) _ K i3 (hK _ rfl)
    · rintro u rfl
      exact ⟨_, i5, Or.inl ⟨rfl, 1, 0, rfl, by omega, Or.inl ⟨rfl, fun _ => ⟨⟨[], [], 0, l, hE0, rfl, pX, fun j hj => absurd hj (Nat.not_lt_zero _), Iff.rfl, ⟨Nat.zero_add _, Nat.zero_add _, Nat.zero_add _⟩, ⟨rfl, Int.le_refl _, (show (0 : Int) ≤ 4 * 0 by omega), (show (0 : Int) ≤ 2 * 0 by omega), (show (2 : Int) ≤ 2 + 0 by omega)⟩⟩, Int.le_refl _⟩⟩, rfl⟩⟩
  · rintro nn pc ls u ⟨uI, ⟨rfl, x1, x2, rfl, r2, hU, rfl⟩ | ⟨rfl, x1, x2, rfl, r2, hU, rfl⟩⟩
    · rcases hU with ⟨rfl, hU⟩ | ⟨rfl, hU⟩
      · obtain ⟨⟨C, M, e, l', uE, u9, uX, ulv, uck, ucn, u10, u11, u6, u8, ut⟩, hx2⟩ := hU trivial
        have hTK := ((uE trivial).1 trivial).2.2
        have hm := (hTK trivial).1
        have hkd := px_TK_kd hTK u11 ulv
        have r10 := uI.fld 18 10 (by decide) rfl
        have hlt : px_K b n (u.1 18 11).toNat ≠ 0 → u.1 18 11 < u.1 2 5 := fun q => by
          rcases Int.lt_or_le (u.1 18 11) (u.1 2 5) with z | z
          · exact z
          · exact absurd (hkd.2.1 z) q
        refine w_ac_47 (b := b) (n := n) (Z := fun z t => cx_I t ∧ ((z = 1 ∧ dz_AI b n l (x2 + 1) t) ∨ (z = 0 ∧ ¬ px_ck (px_SN b n) l [] [] 0))) (c_dx_kind hsL (d + 1) (by omega) b n) uI (fun _ => ⟨hTK, ulv, u11, by omega⟩) (Or.inr rfl) (by omega) (fun _ q => by have := hlt q; omega) ?_ ?_ ?_ ?_ ?_
        · intro _ k5 K hK
          have hl5 := hlt (by omega)
          cases l' with
          | nil =>
            have : px_K b n (u.1 18 11).toNat = 0 := uX
            omega
          | cons q l' =>
            obtain ⟨c, pI, pX'⟩ := uX
            have hac := px_IT_le pI
            have hnk := px_IT_nk pI u11
            have clv := px_lv_nk ulv u11 hnk (by omega)
            have hcm := (px_TK_kd hTK (show 0 ≤ c by omega) clv).2.2
            rcases pI with ⟨z, _⟩ | ⟨_, t1, e', t2, g, p1, k15, p2, k14, hc, hq⟩
            · omega
            · subst hc
              have l1 := px_TM_le p1
              have l2 := px_TM_le p2
              have hck : px_ck (px_SN b n) (q :: l') C M e ↔ ((u.1 18 10 < 4 ∧ ∃ x, (px_wt (px_SN b n) C M t1).1 [] x ∧ (px_wt (px_SN b n) C M t2).1 [] x) ∧ px_ck (px_SN b n) l' C M (e + 1)) := by
                rw [hq]
                constructor
                · rintro (⟨z, _⟩ | ⟨z, _⟩ | ⟨_, z1, z2, z3⟩)
                  · exact absurd z (by dsimp only; decide)
                  · exact absurd z (by dsimp only; decide)
                  · exact ⟨⟨by omega, z2⟩, z3⟩
                · rintro ⟨⟨z1, z2⟩, z3⟩
                  exact Or.inr (Or.inr ⟨rfl, by omega, z2, z3⟩)
              refine c_dz_eq hsL (d + 1) (by omega) b n C M (u.1 18 11) e' g t1 t2 u K uI rfl u11 k5 p1 k15 p2 k14 uE u9 (px_lv_le clv (by omega)) (by omega) (fun t hok hIT h10 tE => hK 1 t ?_) (fun hno t tI => hK 0 t ⟨tI, Or.inr ⟨rfl, fun z => hno (hck.mp (uck.mp z)).1⟩⟩)
              obtain ⟨t0, t11, t9, t25, t6, t8, tt⟩ := hIT trivial
              refine ⟨t0, Or.inl ⟨rfl, fun _ => ⟨⟨C, M, e + 1, l', tE, by omega, by rw [t11]; exact pX', by rw [t11]; exact clv, ?_, ?_, ⟨by omega, by omega, by omega, by omega, by omega⟩⟩, by omega⟩⟩⟩
              · rw [uck, hck]
                exact ⟨fun z => z.2, fun z => ⟨hok, z⟩⟩
              · rw [hq] at ucn
                simp only [px_c3, k5] at ucn
                simp at ucn
                try simp only [List.length_append, List.length_singleton]
                omega
        · intro _ k3 K hK
          cases l' with
          | nil =>
            have : px_K b n (u.1 18 11).toNat = 0 := uX
            omega
          | cons q l' =>
            obtain ⟨c, pI, pX'⟩ := uX
            have hac := px_IT_le pI
            have hnk := px_IT_nk pI u11
            have clv := px_lv_nk ulv u11 hnk (by omega)
            have hcm := (px_TK_kd hTK (show 0 ≤ c by omega) clv).2.2
            rcases pI with ⟨_, j1, j2, x, e', pY, k14, hc, hq⟩ | ⟨z, _⟩
            · subst hc
              have l1 := px_TY_le pY
              have hck : px_ck (px_SN b n) (q :: l') C M e ↔ ((C.length < 8 ∧ px_nv (px_SN b n) C (u.1 18 11 + 1) ∧ px_nv (px_SN b n) M (u.1 18 11 + 1) ∧ qx_at x ≤ 5) ∧ px_ck (px_SN b n) l' (C ++ [(u.1 18 11 + 1, x)]) M e) := by
                rw [hq, k3]
                constructor
                · rintro (⟨_, z1, z2, z3, z4, z5⟩ | ⟨z, _⟩ | ⟨z, _⟩)
                  · exact ⟨⟨z1, z2, z3, z4⟩, z5⟩
                  · exact absurd z (by dsimp only; decide)
                  · exact absurd z (by dsimp only; decide)
                · rintro ⟨⟨z1, z2, z3, z4⟩, z5⟩
                  exact Or.inl ⟨rfl, z1, z2, z3, z4, z5⟩
              refine c_dz_declC hsL (d + 1) (by omega) b n C M (u.1 18 11) e' x u K uI rfl u11 j1 j2 (Or.inl k3) pY k14 uE (px_lv_le clv (by omega)) (by omega) (fun t hok hIT h10 tE => hK 1 t ?_) (fun hno t tI => hK 0 t ⟨tI, Or.inr ⟨rfl, fun z => hno (hck.mp (uck.mp z)).1⟩⟩)
              obtain ⟨t0, t11, t9, t25, t6, t8, tt⟩ := hIT trivial
              refine ⟨t0, Or.inl ⟨rfl, fun _ => ⟨⟨C ++ [(u.1 18 11 + 1, x)], M, e, l', tE, by omega, by rw [t11]; exact pX', by rw [t11]; exact clv, ?_, ?_, ⟨by omega, by omega, by omega, by omega, by omega⟩⟩, by omega⟩⟩⟩
              · rw [uck, hck]
                exact ⟨fun z => z.2, fun z => ⟨hok, z⟩⟩
              · rw [hq] at ucn
                simp only [px_c3, k3] at ucn
                simp at ucn
                try simp only [List.length_append, List.length_singleton]
                omega
            · omega
        · intro _ k0 k5 k3 K hK
          cases l' with
          | nil =>
            have : px_K b n (u.1 18 11).toNat = 0 := uX
            omega
          | cons q l' =>
            obtain ⟨c, pI, pX'⟩ := uX
            have hac := px_IT_le pI
            have hnk := px_IT_nk pI u11
            have clv := px_lv_nk ulv u11 hnk (by omega)
            have hcm := (px_TK_kd hTK (show 0 ≤ c by omega) clv).2.2
            rcases pI with ⟨k4, j1, j2, x, e', pY, k14, hc, hq⟩ | ⟨z, _⟩
            · subst hc
              have k4' : px_K b n (u.1 18 11).toNat = 4 := by omega
              have l1 := px_TY_le pY
              have hck : px_ck (px_SN b n) (q :: l') C M e ↔ ((M.length < 5 ∧ px_nv (px_SN b n) C (u.1 18 11 + 1) ∧ px_nv (px_SN b n) M (u.1 18 11 + 1) ∧ qx_at x ≤ 5) ∧ px_ck (px_SN b n) l' C (M ++ [(u.1 18 11 + 1, x)]) e) := by
                rw [hq, k4']
                constructor
                · rintro (⟨z, _⟩ | ⟨_, z1, z2, z3, z4, z5⟩ | ⟨z, _⟩)
                  · exact absurd z (by dsimp only; decide)
                  · exact ⟨⟨z1, z2, z3, z4⟩, z5⟩
                  · exact absurd z (by dsimp only; decide)
                · rintro ⟨⟨z1, z2, z3, z4⟩, z5⟩
                  exact Or.inr (Or.inl ⟨rfl, z1, z2, z3, z4, z5⟩)
              refine c_dz_declM hsL (d + 1) (by omega) b n C M (u.1 18 11) e' x u K uI rfl u11 j1 j2 (Or.inr k4') pY k14 uE (px_lv_le clv (by omega)) (by omega) (fun t hok hIT h10 tE => hK 1 t ?_) (fun hno t tI => hK 0 t ⟨tI, Or.inr ⟨rfl, fun z => hno (hck.mp (uck.mp z)).1⟩⟩)
              obtain ⟨t0, t11, t9, t25, t6, t8, tt⟩ := hIT trivial
              refine ⟨t0, Or.inl ⟨rfl, fun _ => ⟨⟨C, M ++ [(u.1 18 11 + 1, x)], e, l', tE, by omega, by rw [t11]; exact pX', by rw [t11]; exact clv, ?_, ?_, ⟨by omega, by omega, by omega, by omega, by omega⟩⟩, by omega⟩⟩⟩
              · rw [uck, hck]
                exact ⟨fun z => z.2, fun z => ⟨hok, z⟩⟩
              · rw [hq] at ucn
                simp only [px_c3, k4'] at ucn
                simp at ucn
                try simp only [List.length_append, List.length_singleton]
                omega
            · omega
        · rintro hx z t ⟨tI, hz⟩
          exact ⟨_, by omega, tI, Or.inl ⟨rfl, z, x2 + 1, rfl, by omega, hz, rfl⟩⟩
        · rintro (q | q)
          · omega
          · cases l' with
            | nil =>
              have z3 : ∀ k, px_c3 k [] = 0 := fun _ => rfl
              rw [z3, z3, z3] at ucn
              have lC := ((uE trivial).2.1 trivial).1
              have lM := ((uE trivial).2.2.1 trivial).1
              exact ⟨5, by omega, uI, Or.inr ⟨rfl, 1, 0, rfl, by omega, Or.inl ⟨rfl, uck.mpr trivial, by omega⟩, rfl⟩⟩
            | cons p l' =>
              obtain ⟨c, pI, _⟩ := uX
              exact absurd q (px_IT_k pI)
      · exact w_ac_47 (b := b) (n := n) (Z := fun _ _ => False) (c_dx_kind hsL (d + 1) (by omega) b n) uI (fun q => absurd q (by decide)) (Or.inl rfl) (by omega) (fun q => absurd q (by decide)) (fun q => absurd q (by decide)) (fun q => absurd q (by decide)) (fun q => absurd q (by decide)) (fun _ _ _ q => q.elim) (fun _ => ⟨5, by omega, uI, Or.inr ⟨rfl, 0, 0, rfl, by omega, Or.inr ⟨rfl, hU⟩, rfl⟩⟩)
    · refine w_ac_134 h_nw h_cw (c_dz_ntw hsL (d + 1) (by omega)) (c_dz_totM hsL (d + 1) (by omega)) uI (by rcases hU with q | q <;> omega) r2 ?_ (fun hx t tI tk => ⟨_, by omega, tI, Or.inr ⟨rfl, x1, x2 + 1, rfl, by omega, by rcases hU with ⟨q1, q2, q3⟩ | q; exact Or.inl ⟨q1, q2, by omega⟩; exact Or.inr q, rfl⟩⟩)
      rcases hU with ⟨rfl, hU, hc⟩ | ⟨rfl, hU⟩
      · exact hK1 hU u uI hc
      · exact hK0 hU u uI
