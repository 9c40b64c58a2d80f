/-! ===== the desk's terms: long forms: pieces ===== -/
theorem c_dz_variable2 {sL : Nat} {sx : Nat → Int32} (hsL : sL ≤ 3072) (d : Nat) (hd : 2 ≤ d) : ∀ (a0 : Int) (s : sx_S) (R : Int → sx_S → Prop), cx_I s → s.1 11 8 < 512 → (-2147483648 ≤ a0 ∧ a0 ≤ 2147483647) → (∀ t, cx_I t → cx_F [(11, 17)] s t → dz_V1 a0 s t → t.1 8 2 = s.1 8 2 → R (s.1 11 8) t) → sx_C sL sx d 86 [.inr (.inl 11), .inl a0] s R := fun a0 s R hI hN p0 hK => c_dz_variable hsL d hd a0 s R hI hN p0 (fun t t1 t2 t3 => hK t t1 t2 t3 (congrFun (t2.same 8 rfl).1 2))
theorem c_dz_node2 {sL : Nat} {sx : Nat → Int32} (hsL : sL ≤ 3072) (d : Nat) (hd : 2 ≤ d) : ∀ (a0 a1 : Int) (s : sx_S) (R : Int → sx_S → Prop), cx_I s → s.1 11 6 < 1024 → (-2147483648 ≤ a0 ∧ a0 ≤ 2147483647) → (-2147483648 ≤ a1 ∧ a1 ≤ 2147483647) → (∀ t, cx_I t → cx_F [(11, 17)] s t → dz_N1 a0 a1 (-1) s t → (t.1 11 6 = s.1 11 6 + 1) → (∀ j : Nat, (j : Int) < s.1 11 6 → t.2.1 12 j = s.2.1 12 j) → R (s.1 11 6) t) → sx_C sL sx d 88 [.inr (.inl 11), .inl a0, .inl a1] s R := fun a0 a1 s R hI hN p0 p1 hK => c_dz_node hsL d hd a0 a1 s R hI hN p0 p1 (fun t t1 t2 t3 => hK t t1 t2 t3 (t3 trivial).1 (fun j hj => ((t3 trivial).2.2.2.1 j (by omega)).1))
theorem w_cp {CALL : sx_Ca} {sL : Nat} {sx : Nat → Int32} {Q : Nat → sx_L → sx_S → Prop} {R : Int → sx_S → Prop} {s : sx_S} {a0 a1 a2 : Int} (hI : cx_I s) (hQ : Q 15 [(0, .inr (.inl 11)), (1, .inl a0), (3, .inl a2), (4, .inl (s.1 11 8)), (5, .inl 0), (6, .inl a1), (7, .inl 0)] s) : sx_wp true sL sx eX7_complete CALL [(15, [0, 1, 3, 4, 5, 6, 7]), (70, [0, 1, 3, 4, 5, 7]), (110, [0, 1, 3, 4, 5, 7, 8, 9]), (158, [0, 4, 7, 8])] Q R 400 0 (sx_argsF 0 [.inr (.inl 11), .inl a0, .inl a1, .inl a2]) [] s := by
  repeat' (first | (with_reducible (rintro _ rfl)) | (with_reducible intro _) | (refine And.intro ?_ ?_))
  all_goals (try dsimp only at *)
  all_goals (first | trivial | assumption | omega | skip)
theorem w_cp_15 {CALL : sx_Ca} {sL : Nat} {sx : Nat → Int32} {Q : Nat → sx_L → sx_S → Prop} {R : Int → sx_S → Prop} (h_isA : ∀ (a0 : Int) (s : sx_S) (K : Int → sx_S → Prop), cx_I s → (-2147483648 ≤ a0 ∧ a0 ≤ 2147483647) → (∀ z : Int, (0 ≤ z ∧ z ≤ 1) → (z ≠ 0 → 2 ≤ a0 ∧ a0 < s.1 8 2) → (z = 0 → a0 < 2 ∨ s.1 8 2 ≤ a0) → K z s) → CALL 116 [.inr (.inl 8), .inl a0] s K) (h_from : ∀ (a0 : Int) (s : sx_S) (K : Int → sx_S → Prop), cx_I s → (-2147483648 ≤ a0 ∧ a0 ≤ 2147483647) → (∀ z : Int, (2 ≤ a0 → a0 < s.1 8 2 → z = s.2.1 9 a0.toNat) → (a0 < 2 ∨ s.1 8 2 ≤ a0 → z = -1) → K z s) → CALL 117 [.inr (.inl 8), .inl a0] s K) (h_to : ∀ (a0 : Int) (s : sx_S) (K : Int → sx_S → Prop), cx_I s → (-2147483648 ≤ a0 ∧ a0 ≤ 2147483647) → (∀ z : Int, (2 ≤ a0 → a0 < s.1 8 2 → z = s.2.1 10 a0.toNat) → (a0 < 2 ∨ s.1 8 2 ≤ a0 → z = -1) → K z s) → CALL 118 [.inr (.inl 8), .inl a0] s K) (h_var : ∀ (a0 : Int) (s : sx_S) (R : Int → sx_S → Prop), cx_I s → s.1 11 8 < 512 → (-2147483648 ≤ a0 ∧ a0 ≤ 2147483647) → (∀ t, cx_I t → cx_F [(11, 17)] s t → dz_V1 a0 s t → t.1 8 2 = s.1 8 2 → R (s.1 11 8) t) → CALL 86 [.inr (.inl 11), .inl a0] s R) {s : sx_S} {a0 a2 x4 x5 x6 : Int} (hI : cx_I s) (q4 : s.1 11 8 < 512 ∨ x5 = 4 ∨ x6 < 2 ∨ s.1 8 2 ≤ x6) (q5 : 0 ≤ x5 ∧ x5 ≤ 4) (q6 : -2147483648 ≤ x6 ∧ x6 ≤ 2147483647) (hQ70 : x5 = 4 ∨ x6 < 2 ∨ s.1 8 2 ≤ x6 → Q 70 [(0, .inr (.inl 11)), (1, .inl a0), (3, .inl a2), (4, .inl x4), (5, .inl x5), (7, .inl 0)] s) (hQ15 : x5 < 4 → 2 ≤ x6 → x6 < s.1 8 2 → ∀ t, cx_I t → cx_F [(11, 17)] s t → dz_V1 (s.2.1 9 x6.toNat) s t → ∀ w, w = t.2.1 10 x6.toNat → Q 15 [(0, .inr (.inl 11)), (1, .inl a0), (3, .inl a2), (4, .inl x4), (5, .inl (x5 + 1)), (6, .inl w), (7, .inl (x5 + 1))] t) : sx_wp true sL sx eX7_complete CALL [(15, [0, 1, 3, 4, 5, 6, 7]), (70, [0, 1, 3, 4, 5, 7]), (110, [0, 1, 3, 4, 5, 7, 8, 9]), (158, [0, 4, 7, 8])] Q R 400 15 [(0, .inr (.inl 11)), (1, .inl a0), (3, .inl a2), (4, .inl x4), (5, .inl x5), (6, .inl x6), (7, .inl x5)] [] s := by
  have zz9 := hI.arr 9 (by decide) rfl x6.toNat
  have zzy : sx_w true (x5 + 1) = x5 + 1 := px_wid (by omega) (by omega)
  rw [← zzy] at hQ15
  by_cases hx : x5 < 4 ∧ 2 ≤ x6 ∧ x6 < s.1 8 2
  · have hQ15' := hQ15 hx.1 hx.2.1 hx.2.2
    repeat' (first | (with_reducible (rintro _ rfl)) | (with_reducible intro _) | (refine And.intro ?_ ?_) | (refine h_isA _ _ _ ?_ ?_ ?_) | (refine h_from _ _ _ ?_ ?_ ?_) | (refine h_to _ _ _ ?_ ?_ ?_) | (refine h_var _ _ _ ?_ ?_ ?_ ?_))
    all_goals (try dsimp only at *)
    all_goals (first | trivial | assumption | omega | (exfalso; omega) | (have zzf := (by assumption : 2 ≤ x6 → x6 < s.1 8 2 → _ = s.2.1 9 x6.toNat) hx.2.1 hx.2.2; subst zzf; exact hQ15' _ (by assumption) (by assumption) (by assumption) _ (by first | omega | (apply_assumption <;> omega))) | (have zz10 := fun t (h : cx_I t) => (h.arr 10 (by decide) rfl x6.toNat); have zzt := zz10 _ (by assumption); omega) | skip)
  · have hQ70' := hQ70 (by omega)
    repeat' (first | (with_reducible (rintro _ rfl)) | (with_reducible intro _) | (refine And.intro ?_ ?_) | (refine h_isA _ _ _ ?_ ?_ ?_) | (refine h_from _ _ _ ?_ ?_ ?_) | (refine h_to _ _ _ ?_ ?_ ?_) | (refine h_var _ _ _ ?_ ?_ ?_ ?_))
    all_goals (try dsimp only at *)
    all_goals (first | trivial | assumption | omega | (exfalso; omega) | skip)
theorem w_cp_70 {CALL : sx_Ca} {sL : Nat} {sx : Nat → Int32} {Q : Nat → sx_L → sx_S → Prop} {R : Int → sx_S → Prop} (h_kind : ∀ (a0 : Int) (s : sx_S) (K : Int → sx_S → Prop), cx_I s → (-2147483648 ≤ a0 ∧ a0 ≤ 2147483647) → (∀ z : Int, (0 ≤ a0 → a0 < s.1 11 6 → z = s.2.1 12 a0.toNat) → (a0 < 0 → z = -1) → K z s) → CALL 91 [.inr (.inl 11), .inl a0] s K) (h_node : ∀ (a0 a1 : Int) (s : sx_S) (R : Int → sx_S → Prop), cx_I s → s.1 11 6 < 1024 → (-2147483648 ≤ a0 ∧ a0 ≤ 2147483647) → (-2147483648 ≤ a1 ∧ a1 ≤ 2147483647) → (∀ t, cx_I t → cx_F [(11, 17)] s t → dz_N1 a0 a1 (-1) s t → (t.1 11 6 = s.1 11 6 + 1) → (∀ j : Nat, (j : Int) < s.1 11 6 → t.2.1 12 j = s.2.1 12 j) → R (s.1 11 6) t) → CALL 88 [.inr (.inl 11), .inl a0, .inl a1] s R) {s : sx_S} {a0 a2 x4 x5 x7 : Int} (hI : cx_I s) (p0 : 0 ≤ a0 ∧ a0 < s.1 11 6) (p2 : 0 ≤ a2 ∧ a2 ≤ 5) (q4 : 0 ≤ x4 ∧ x4 ≤ 512) (q5 : 0 ≤ x5 ∧ x5 ≤ 4) (q7 : 0 ≤ x7 ∧ x7 ≤ x5) (qn : x7 < x5 → s.1 11 6 < 1024) (hQ158 : x7 = x5 → Q 158 [(0, .inr (.inl 11)), (4, .inl x4), (7, .inl a0), (8, .inl (x5 - 1))] s) (hQa : x7 < x5 → s.2.1 12 a0.toNat ≠ 3 → a2 < 4 → ∀ t, cx_I t → cx_F [(11, 17)] s t → dz_N1 2 (x4 + x7) (-1) s t → Q 110 [(0, .inr (.inl 11)), (1, .inl a0), (3, .inl a2), (4, .inl x4), (5, .inl x5), (7, .inl x7), (8, .inl (s.1 11 6)), (9, .inl 1)] t) (hQb : x7 < x5 → s.2.1 12 a0.toNat = 3 ∨ 4 ≤ a2 → ∀ t, cx_I t → cx_F [(11, 17)] s t → dz_N1 2 (x4 + x7) (-1) s t → Q 110 [(0, .inr (.inl 11)), (1, .inl a0), (3, .inl a2), (4, .inl x4), (5, .inl x5), (7, .inl x7), (8, .inl (s.1 11 6)), (9, .inl 0)] t) : sx_wp true sL sx eX7_complete CALL [(15, [0, 1, 3, 4, 5, 6, 7]), (70, [0, 1, 3, 4, 5, 7]), (110, [0, 1, 3, 4, 5, 7, 8, 9]), (158, [0, 4, 7, 8])] Q R 400 70 [(0, .inr (.inl 11)), (1, .inl a0), (3, .inl a2), (4, .inl x4), (5, .inl x5), (7, .inl x7)] [] s := by
  have h0 := hI.fld 11 6 (by decide) rfl
  have zz12 := hI.arr 12 (by decide) rfl a0.toNat
  have zzy : sx_w true (x5 - 1) = x5 - 1 := px_wid (by omega) (by omega)
  have zzz : sx_w true (x4 + x7) = x4 + x7 := px_wid (by omega) (by omega)
  rw [← zzy] at hQ158
  rw [← zzz] at hQa hQb
  by_cases hx : x7 < x5
  · have hQa' := hQa hx
    have hQb' := hQb hx
    have zzk : ∀ t : sx_S, (∀ j : Nat, (j : Int) < s.1 11 6 → t.2.1 12 j = s.2.1 12 j) → t.2.1 12 a0.toNat = s.2.1 12 a0.toNat := fun t h => h a0.toNat (by omega)
    repeat' (first | (with_reducible (rintro _ rfl)) | (with_reducible intro _) | (refine And.intro ?_ ?_) | (refine h_kind _ _ _ ?_ ?_ ?_) | (refine h_node _ _ _ _ ?_ ?_ ?_ ?_ ?_))
    all_goals (try dsimp only at *)
    all_goals (first | trivial | assumption | omega | (exfalso; omega) | (rw [zzz]; omega) | (have zzq := zzk _ (by assumption); first | omega | (exact hQa' (by omega) (by omega) _ (by assumption) (by assumption) (by assumption)) | (exact hQb' (by omega) _ (by assumption) (by assumption) (by assumption)) | (exfalso; omega)) | skip)
  · have hQ158' := hQ158 (by omega)
    repeat' (first | (with_reducible (rintro _ rfl)) | (with_reducible intro _) | (refine And.intro ?_ ?_) | (refine h_kind _ _ _ ?_ ?_ ?_) | (refine h_node _ _ _ _ ?_ ?_ ?_ ?_ ?_))
    all_goals (try dsimp only at *)
    all_goals (first | trivial | assumption | omega | (exfalso; omega) | skip)
theorem w_cp_110a {CALL : sx_Ca} {sL : Nat} {sx : Nat → Int32} {Q : Nat → sx_L → sx_S → Prop} {R : Int → sx_S → Prop} (h_vt : ∀ (a0 : Int) (s : sx_S) (K : Int → sx_S → Prop), cx_I s → (-2147483648 ≤ a0 ∧ a0 ≤ 2147483647) → (∀ z : Int, (0 ≤ a0 → a0 < s.1 11 8 → z = s.2.1 17 a0.toNat) → K z s) → CALL 87 [.inr (.inl 11), .inl a0] s K) {s : sx_S} {a0 a2 x4 x5 x7 x8 : Int} {Zc : Int → sx_S → Prop} {Za : sx_S → Prop} (hI : cx_I s) (p2 : 0 ≤ a2 ∧ a2 < 4) (q4 : 0 ≤ x4 ∧ x4 + x7 < s.1 11 8) (q7 : 0 ≤ x7 ∧ x7 ≤ 4) (h_rec : ∀ K : Int → sx_S → Prop, (∀ w t, Zc w t → K w t) → CALL 97 [.inr (.inl 11), .inl x8, .inl (s.2.1 17 (x4 + x7).toNat), .inl (a2 + 1)] s K) (h_app : ∀ w t, Zc w t → ∀ K : Int → sx_S → Prop, (∀ u, Za u → K 0 u) → CALL 90 [.inr (.inl 11), .inl a0, .inl w] t K) (hQ : ∀ u, Za u → Q 70 [(0, .inr (.inl 11)), (1, .inl a0), (3, .inl a2), (4, .inl x4), (5, .inl x5), (7, .inl (x7 + 1))] u) : sx_wp true sL sx eX7_complete CALL [(15, [0, 1, 3, 4, 5, 6, 7]), (70, [0, 1, 3, 4, 5, 7]), (110, [0, 1, 3, 4, 5, 7, 8, 9]), (158, [0, 4, 7, 8])] Q R 400 110 [(0, .inr (.inl 11)), (1, .inl a0), (3, .inl a2), (4, .inl x4), (5, .inl x5), (7, .inl x7), (8, .inl x8), (9, .inl 1)] [] s := by
  have h8 := hI.fld 11 8 (by decide) rfl
  have zz17 := hI.arr 17 (by decide) rfl (x4 + x7).toNat
  have zzy : sx_w true (x7 + 1) = x7 + 1 := px_wid (by omega) (by omega)
  have zzd : sx_w true (a2 + 1) = a2 + 1 := px_wid (by omega) (by omega)
  have zzz : sx_w true (x4 + x7) = x4 + x7 := px_wid (by omega) (by omega)
  rw [← zzy] at hQ
  rw [← zzd] at h_rec
  have zzv : ∀ (K : Int → sx_S → Prop), (K (s.2.1 17 (x4 + x7).toNat) s) → CALL 87 [.inr (.inl 11), .inl (sx_w true (x4 + x7)), ] s K := fun K hK' => h_vt _ _ _ hI (by rw [zzz]; omega) (fun z z1 => by
    rw [zzz] at z1
    rw [z1 (by omega) (by omega)]
    exact hK')
  repeat' (first | (with_reducible (rintro _ rfl)) | (with_reducible intro _) | (refine And.intro ?_ ?_) | (refine zzv _ ?_) | (refine h_rec _ ?_) | (refine h_app _ _ ?_ _ ?_))
  all_goals (try dsimp only at *)
  all_goals (first | trivial | assumption | omega | (exfalso; omega) | (exact hQ _ (by assumption)) | skip)
theorem w_cp_110b {CALL : sx_Ca} {sL : Nat} {sx : Nat → Int32} {Q : Nat → sx_L → sx_S → Prop} {R : Int → sx_S → Prop} {s : sx_S} {a0 a2 x4 x5 x7 x8 : Int} {Za : sx_S → Prop} (q7 : 0 ≤ x7 ∧ x7 ≤ 4) (h_app : ∀ K : Int → sx_S → Prop, (∀ u, Za u → K 0 u) → CALL 90 [.inr (.inl 11), .inl a0, .inl x8] s K) (hQ : ∀ u, Za u → Q 70 [(0, .inr (.inl 11)), (1, .inl a0), (3, .inl a2), (4, .inl x4), (5, .inl x5), (7, .inl (x7 + 1))] u) : sx_wp true sL sx eX7_complete CALL [(15, [0, 1, 3, 4, 5, 6, 7]), (70, [0, 1, 3, 4, 5, 7]), (110, [0, 1, 3, 4, 5, 7, 8, 9]), (158, [0, 4, 7, 8])] Q R 400 110 [(0, .inr (.inl 11)), (1, .inl a0), (3, .inl a2), (4, .inl x4), (5, .inl x5), (7, .inl x7), (8, .inl x8), (9, .inl 0)] [] s := by
  have zzy : sx_w true (x7 + 1) = x7 + 1 := px_wid (by omega) (by omega)
  rw [← zzy] at hQ
  repeat' (first | (with_reducible (rintro _ rfl)) | (with_reducible intro _) | (refine And.intro ?_ ?_) | (refine h_app _ ?_))
  all_goals (try dsimp only at *)
  all_goals (first | trivial | assumption | omega | (exfalso; omega) | (exact hQ _ (by assumption)) | skip)
theorem w_cp_158 {CALL : sx_Ca} {sL : Nat} {sx : Nat → Int32} {Q : Nat → sx_L → sx_S → Prop} {R : Int → sx_S → Prop} (h_lam : ∀ (a0 a1 : Int) (s : sx_S) (R : Int → sx_S → Prop), cx_I s → s.1 11 6 < 1024 → (-2147483648 ≤ a0 ∧ a0 ≤ 2147483647) → (-1 ≤ a1 ∧ a1 ≤ 1023) → (∀ t, cx_I t → cx_F [(11, 17)] s t → dz_N1 0 a0 a1 s t → R (s.1 11 6) t) → CALL 89 [.inr (.inl 11), .inl a0, .inl a1] s R) {s : sx_S} {x4 x7 x8 : Int} (hI : cx_I s) (q4 : 0 ≤ x4 ∧ x4 ≤ 512) (q7 : -1 ≤ x7 ∧ x7 ≤ 1023) (q8 : -1 ≤ x8 ∧ x8 ≤ 3) (qn : 0 ≤ x8 → s.1 11 6 < 1024) (hK : x8 = -1 → R x7 s) (hQ : 0 ≤ x8 → ∀ t, cx_I t → cx_F [(11, 17)] s t → dz_N1 0 (x4 + x8) x7 s t → Q 158 [(0, .inr (.inl 11)), (4, .inl x4), (7, .inl (s.1 11 6)), (8, .inl (x8 - 1))] t) : sx_wp true sL sx eX7_complete CALL [(15, [0, 1, 3, 4, 5, 6, 7]), (70, [0, 1, 3, 4, 5, 7]), (110, [0, 1, 3, 4, 5, 7, 8, 9]), (158, [0, 4, 7, 8])] Q R 400 158 [(0, .inr (.inl 11)), (4, .inl x4), (7, .inl x7), (8, .inl x8)] [] s := by
  have h0 := hI.fld 11 6 (by decide) rfl
  have zzy : sx_w true (x8 + -1) = x8 - 1 := by rw [px_wid (by omega) (by omega)]; omega
  have zzz : sx_w true (x4 + x8) = x4 + x8 := px_wid (by omega) (by omega)
  rw [← zzy, ← zzz] at hQ
  by_cases hx : 0 ≤ x8
  · have hQ' := hQ hx
    repeat' (first | (with_reducible (rintro _ rfl)) | (with_reducible intro _) | (refine And.intro ?_ ?_) | (refine h_lam _ _ _ _ ?_ ?_ ?_ ?_ ?_))
    all_goals (try dsimp only at *)
    all_goals (first | trivial | assumption | omega | (exfalso; omega) | (rw [zzz]; omega) | (exact hQ' _ (by assumption) (by assumption) (by assumption)) | skip)
  · have hK' := hK (by omega)
    repeat' (first | (with_reducible (rintro _ rfl)) | (with_reducible intro _) | (refine And.intro ?_ ?_) | (refine h_lam _ _ _ _ ?_ ?_ ?_ ?_ ?_))
    all_goals (try dsimp only at *)
    all_goals (first | trivial | assumption | omega | (exfalso; omega) | skip)
