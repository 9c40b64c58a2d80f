section
/-! ===== the desk's terms: long forms: pieces ===== -/
theorem c_dz_variable2 {sL : Nat} {sx : Nat → Int32} (hsL : sL ≤ 3072) (d : Nat) (hd : 2 ≤ d) : ∀ (a0 : Int) (s : sx_S) (R : Int → sx_S → Prop), cx_I s → s.1 11 8 < 512 → (-2147483648 ≤ a0 ∧ a0 ≤ 2147483647) → (∀ t, cx_I t → cx_F [(11, 17)] s t → dz_V1 a0 s t → t.1 8 2 = s.1 8 2 → R (s.1 11 8) t) → sx_C sL sx d 86 [.inr (.inl 11), .inl a0] s R := fun a0 s R hI hN p0 hK => c_dz_variable hsL d hd a0 s R hI hN p0 (fun t t1 t2 t3 => hK t t1 t2 t3 (congrFun (t2.same 8 rfl).1 2))
theorem c_dz_node2 {sL : Nat} {sx : Nat → Int32} (hsL : sL ≤ 3072) (d : Nat) (hd : 2 ≤ d) : ∀ (a0 a1 : Int) (s : sx_S) (R : Int → sx_S → Prop), cx_I s → s.1 11 6 < 1024 → (-2147483648 ≤ a0 ∧ a0 ≤ 2147483647) → (-2147483648 ≤ a1 ∧ a1 ≤ 2147483647) → (∀ t, cx_I t → cx_F [(11, 17)] s t → dz_N1 a0 a1 (-1) s t → (t.1 11 6 = s.1 11 6 + 1) → (∀ j : Nat, (j : Int) < s.1 11 6 → t.2.1 12 j = s.2.1 12 j) → R (s.1 11 6) t) → sx_C sL sx d 88 [.inr (.inl 11), .inl a0, .inl a1] s R := fun a0 a1 s R hI hN p0 p1 hK => c_dz_node hsL d hd a0 a1 s R hI hN p0 p1 (fun t t1 t2 t3 => hK t t1 t2 t3 (t3 trivial).1 (fun j hj => ((t3 trivial).2.2.2.1 j (by omega)).1))
theorem w_cp {CALL : sx_Ca} {sL : Nat} {sx : Nat → Int32} {Q : Nat → sx_L → sx_S → Prop} {R : Int → sx_S → Prop} {s : sx_S} {a0 a1 a2 : Int} (hI : cx_I s) (hQ : Q 15 [(0, .inr (.inl 11)), (1, .inl a0), (3, .inl a2), (4, .inl (s.1 11 8)), (5, .inl 0), (6, .inl a1), (7, .inl 0)] s) : sx_wp true sL sx eX7_complete CALL [(15, [0, 1, 3, 4, 5, 6, 7]), (70, [0, 1, 3, 4, 5, 7]), (110, [0, 1, 3, 4, 5, 7, 8, 9]), (158, [0, 4, 7, 8])] Q R 400 0 (sx_argsF 0 [.inr (.inl 11), .inl a0, .inl a1, .inl a2]) [] s := by
  repeat' (first | (with_reducible (rintro _ rfl)) | (with_reducible intro _) | (refine And.intro ?_ ?_))
  all_goals (try dsimp only at *)
  all_goals (first | trivial | assumption | omega | skip)
theorem w_cp_15 {CALL : sx_Ca} {sL : Nat} {sx : Nat → Int32} {Q : Nat → sx_L → sx_S → Prop} {R : Int → sx_S → Prop} (h_isA : ∀ (a0 : Int) (s : sx_S) (K : Int → sx_S → Prop), cx_I s → (-2147483648 ≤ a0 ∧ a0 ≤ 2147483647) → (∀ z : Int, (0 ≤ z ∧ z ≤ 1) → (z ≠ 0 → 2 ≤ a0 ∧ a0 < s.1 8 2) → (z = 0 → a0 < 2 ∨ s.1 8 2 ≤ a0) → K z s) → CALL 116 [.inr (.inl 8), .inl a0] s K) (h_from : ∀ (a0 : Int) (s : sx_S) (K : Int → sx_S → Prop), cx_I s → (-2147483648 ≤ a0 ∧ a0 ≤ 2147483647) → (∀ z : Int, (2 ≤ a0 → a0 < s.1 8 2 → z = s.2.1 9 a0.toNat) → (a0 < 2 ∨ s.1 8 2 ≤ a0 → z = -1) → K z s) → CALL 117 [.inr (.inl 8), .inl a0] s K) (h_to : ∀ (a0 : Int) (s : sx_S) (K : Int → sx_S → Prop), cx_I s → (-2147483648 ≤ a0 ∧ a0 ≤ 2147483647) → (∀ z : Int, (2 ≤ a0 → a0 < s.1 8 2 → z = s.2.1 10 a0.toNat) → (a0 < 2 ∨ s.1 8 2 ≤ a0 → z = -1) → K z s) → CALL 118 [.inr (.inl 8), .inl a0] s K) (h_var : ∀ (a0 : Int) (s : sx_S) (R : Int → sx_S → Prop), cx_I s → s.1 11 8 < 512 → (-2147483648 ≤ a0 ∧ a0 ≤ 2147483647) → (∀ t, cx_I t → cx_F [(11, 17)] s t → dz_V1 a0 s t → t.1 8 2 = s.1 8 2 → R (s.1 11 8) t) → CALL 86 [.inr (.inl 11), .inl a0] s R) {s : sx_S} {a0 a2 x4 x5 x6 : Int} (hI : cx_I s) (q4 : s.1 11 8 < 512 ∨ x5 = 4 ∨ x6 < 2 ∨ s.1 8 2 ≤ x6) (q5 : 0 ≤ x5 ∧ x5 ≤ 4) (q6 : -2147483648 ≤ x6 ∧ x6 ≤ 2147483647) (hQ70 : x5 = 4 ∨ x6 < 2 ∨ s.1 8 2 ≤ x6 → Q 70 [(0, .inr (.inl 11)), (1, .inl a0), (3, .inl a2), (4, .inl x4), (5, .inl x5), (7, .inl 0)] s) (hQ15 : x5 < 4 → 2 ≤ x6 → x6 < s.1 8 2 → ∀ t, cx_I t → cx_F [(11, 17)] s t → dz_V1 (s.2.1 9 x6.toNat) s t → ∀ w, w = t.2.1 10 x6.toNat → Q 15 [(0, .inr (.inl 11)), (1, .inl a0), (3, .inl a2), (4, .inl x4), (5, .inl (x5 + 1)), (6, .inl w), (7, .inl (x5 + 1))] t) : sx_wp true sL sx eX7_complete CALL [(15, [0, 1, 3, 4, 5, 6, 7]), (70, [0, 1, 3, 4, 5, 7]), (110, [0, 1, 3, 4, 5, 7, 8, 9]), (158, [0, 4, 7, 8])] Q R 400 15 [(0, .inr (.inl 11)), (1, .inl a0), (3, .inl a2), (4, .inl x4), (5, .inl x5), (6, .inl x6), (7, .inl x5)] [] s := by
  have zz9 := hI.arr 9 (by decide) rfl x6.toNat
  have zzy : sx_w true (x5 + 1) = x5 + 1 := px_wid (by omega) (by omega)
  rw [← zzy] at hQ15
  by_cases hx : x5 < 4 ∧ 2 ≤ x6 ∧ x6 < s.1 8 2
  · have hQ15' := hQ15 hx.1 hx.2.1 hx.2.2
    repeat' (first | (with_reducible (rintro _ rfl)) | (with_reducible intro _) | (refine And.intro ?_ ?_) | (refine h_isA _ _ _ ?_ ?_ ?_) | (refine h_from _ _ _ ?_ ?_ ?_) | (refine h_to _ _ _ ?_ ?_ ?_) | (refine h_var _ _ _ ?_ ?_ ?_ ?_))
    all_goals (try dsimp only at *)
    all_goals (first | trivial | assumption | omega | (exfalso; omega) | (have zzf := (by assumption : 2 ≤ x6 → x6 < s.1 8 2 → _ = s.2.1 9 x6.toNat) hx.2.1 hx.2.2; subst zzf; exact hQ15' _ (by assumption) (by assumption) (by assumption) _ (by first | omega | (apply_assumption <;> omega))) | (have zz10 := fun t (h : cx_I t) => (h.arr 10 (by decide) rfl x6.toNat); have zzt := zz10 _ (by assumption); omega) | skip)
  · have hQ70' := hQ70 (by omega)
    repeat' (first | (with_reducible (rintro _ rfl)) | (with_reducible intro _) | (refine And.intro ?_ ?_) | (refine h_isA _ _ _ ?_ ?_ ?_) | (refine h_from _ _ _ ?_ ?_ ?_) | (refine h_to _ _ _ ?_ ?_ ?_) | (refine h_var _ _ _ ?_ ?_ ?_ ?_))
    all_goals (try dsimp only at *)
    all_goals (first | trivial | assumption | omega | (exfalso; omega) | skip)
theorem w_cp_70 {CALL : sx_Ca} {sL : Nat} {sx : Nat → Int32} {Q : Nat → sx_L → sx_S → Prop} {R : Int → sx_S → Prop} (h_kind : ∀ (a0 : Int) (s : sx_S) (K : Int → sx_S → Prop), cx_I s → (-2147483648 ≤ a0 ∧ a0 ≤ 2147483647) → (∀ z : Int, (0 ≤ a0 → a0 < s.1 11 6 → z = s.2.1 12 a0.toNat) → (a0 < 0 → z = -1) → K z s) → CALL 91 [.inr (.inl 11), .inl a0] s K) (h_node : ∀ (a0 a1 : Int) (s : sx_S) (R : Int → sx_S → Prop), cx_I s → s.1 11 6 < 1024 → (-2147483648 ≤ a0 ∧ a0 ≤ 2147483647) → (-2147483648 ≤ a1 ∧ a1 ≤ 2147483647) → (∀ t, cx_I t → cx_F [(11, 17)] s t → dz_N1 a0 a1 (-1) s t → (t.1 11 6 = s.1 11 6 + 1) → (∀ j : Nat, (j : Int) < s.1 11 6 → t.2.1 12 j = s.2.1 12 j) → R (s.1 11 6) t) → CALL 88 [.inr (.inl 11), .inl a0, .inl a1] s R) {s : sx_S} {a0 a2 x4 x5 x7 : Int} (hI : cx_I s) (p0 : 0 ≤ a0 ∧ a0 < s.1 11 6) (p2 : 0 ≤ a2 ∧ a2 ≤ 5) (q4 : 0 ≤ x4 ∧ x4 ≤ 512) (q5 : 0 ≤ x5 ∧ x5 ≤ 4) (q7 : 0 ≤ x7 ∧ x7 ≤ x5) (qn : x7 < x5 → s.1 11 6 < 1024) (hQ158 : x7 = x5 → Q 158 [(0, .inr (.inl 11)), (4, .inl x4), (7, .inl a0), (8, .inl (x5 - 1))] s) (hQa : x7 < x5 → s.2.1 12 a0.toNat ≠ 3 → a2 < 4 → ∀ t, cx_I t → cx_F [(11, 17)] s t → dz_N1 2 (x4 + x7) (-1) s t → Q 110 [(0, .inr (.inl 11)), (1, .inl a0), (3, .inl a2), (4, .inl x4), (5, .inl x5), (7, .inl x7), (8, .inl (s.1 11 6)), (9, .inl 1)] t) (hQb : x7 < x5 → s.2.1 12 a0.toNat = 3 ∨ 4 ≤ a2 → ∀ t, cx_I t → cx_F [(11, 17)] s t → dz_N1 2 (x4 + x7) (-1) s t → Q 110 [(0, .inr (.inl 11)), (1, .inl a0), (3, .inl a2), (4, .inl x4), (5, .inl x5), (7, .inl x7), (8, .inl (s.1 11 6)), (9, .inl 0)] t) : sx_wp true sL sx eX7_complete CALL [(15, [0, 1, 3, 4, 5, 6, 7]), (70, [0, 1, 3, 4, 5, 7]), (110, [0, 1, 3, 4, 5, 7, 8, 9]), (158, [0, 4, 7, 8])] Q R 400 70 [(0, .inr (.inl 11)), (1, .inl a0), (3, .inl a2), (4, .inl x4), (5, .inl x5), (7, .inl x7)] [] s := by
  have h0 := hI.fld 11 6 (by decide) rfl
  have zz12 := hI.arr 12 (by decide) rfl a0.toNat
  have zzy : sx_w true (x5 - 1) = x5 - 1 := px_wid (by omega) (by omega)
  have zzz : sx_w true (x4 + x7) = x4 + x7 := px_wid (by omega) (by omega)
  rw [← zzy] at hQ158
  rw [← zzz] at hQa hQb
  by_cases hx : x7 < x5
  · have hQa' := hQa hx
    have hQb' := hQb hx
    have zzk : ∀ t : sx_S, (∀ j : Nat, (j : Int) < s.1 11 6 → t.2.1 12 j = s.2.1 12 j) → t.2.1 12 a0.toNat = s.2.1 12 a0.toNat := fun t h => h a0.toNat (by omega)
    repeat' (first | (with_reducible (rintro _ rfl)) | (with_reducible intro _) | (refine And.intro ?_ ?_) | (refine h_kind _ _ _ ?_ ?_ ?_) | (refine h_node _ _ _ _ ?_ ?_ ?_ ?_ ?_))
    all_goals (try dsimp only at *)
    all_goals (first | trivial | assumption | omega | (exfalso; omega) | (rw [zzz]; omega) | (have zzq := zzk _ (by assumption); first | omega | (exact hQa' (by omega) (by omega) _ (by assumption) (by assumption) (by assumption)) | (exact hQb' (by omega) _ (by assumption) (by assumption) (by assumption)) | (exfalso; omega)) | skip)
  · have hQ158' := hQ158 (by omega)
    repeat' (first | (with_reducible (rintro _ rfl)) | (with_reducible intro _) | (refine And.intro ?_ ?_) | (refine h_kind _ _ _ ?_ ?_ ?_) | (refine h_node _ _ _ _ ?_ ?_ ?_ ?_ ?_))
    all_goals (try dsimp only at *)
    all_goals (first | trivial | assumption | omega | (exfalso; omega) | skip)
theorem w_cp_110a {CALL : sx_Ca} {sL : Nat} {sx : Nat → Int32} {Q : Nat → sx_L → sx_S → Prop} {R : Int → sx_S → Prop} (h_vt : ∀ (a0 : Int) (s : sx_S) (K : Int → sx_S → Prop), cx_I s → (-2147483648 ≤ a0 ∧ a0 ≤ 2147483647) → (∀ z : Int, (0 ≤ a0 → a0 < s.1 11 8 → z = s.2.1 17 a0.toNat) → K z s) → CALL 87 [.inr (.inl 11), .inl a0] s K) {s : sx_S} {a0 a2 x4 x5 x7 x8 : Int} {Zc : Int → sx_S → Prop} {Za : sx_S → Prop} (hI : cx_I s) (p2 : 0 ≤ a2 ∧ a2 < 4) (q4 : 0 ≤ x4 ∧ x4 + x7 < s.1 11 8) (q7 : 0 ≤ x7 ∧ x7 ≤ 4) (h_rec : ∀ K : Int → sx_S → Prop, (∀ w t, Zc w t → K w t) → CALL 97 [.inr (.inl 11), .inl x8, .inl (s.2.1 17 (x4 + x7).toNat), .inl (a2 + 1)] s K) (h_app : ∀ w t, Zc w t → ∀ K : Int → sx_S → Prop, (∀ u, Za u → K 0 u) → CALL 90 [.inr (.inl 11), .inl a0, .inl w] t K) (hQ : ∀ u, Za u → Q 70 [(0, .inr (.inl 11)), (1, .inl a0), (3, .inl a2), (4, .inl x4), (5, .inl x5), (7, .inl (x7 + 1))] u) : sx_wp true sL sx eX7_complete CALL [(15, [0, 1, 3, 4, 5, 6, 7]), (70, [0, 1, 3, 4, 5, 7]), (110, [0, 1, 3, 4, 5, 7, 8, 9]), (158, [0, 4, 7, 8])] Q R 400 110 [(0, .inr (.inl 11)), (1, .inl a0), (3, .inl a2), (4, .inl x4), (5, .inl x5), (7, .inl x7), (8, .inl x8), (9, .inl 1)] [] s := by
  have h8 := hI.fld 11 8 (by decide) rfl
  have zz17 := hI.arr 17 (by decide) rfl (x4 + x7).toNat
  have zzy : sx_w true (x7 + 1) = x7 + 1 := px_wid (by omega) (by omega)
  have zzd : sx_w true (a2 + 1) = a2 + 1 := px_wid (by omega) (by omega)
  have zzz : sx_w true (x4 + x7) = x4 + x7 := px_wid (by omega) (by omega)
  rw [← zzy] at hQ
  rw [← zzd] at h_rec
  have zzv : ∀ (K : Int → sx_S → Prop), (K (s.2.1 17 (x4 + x7).toNat) s) → CALL 87 [.inr (.inl 11), .inl (sx_w true (x4 + x7)), ] s K := fun K hK' => h_vt _ _ _ hI (by rw [zzz]; omega) (fun z z1 => by
    rw [zzz] at z1
    rw [z1 (by omega) (by omega)]
    exact hK')
  repeat' (first | (with_reducible (rintro _ rfl)) | (with_reducible intro _) | (refine And.intro ?_ ?_) | (refine zzv _ ?_) | (refine h_rec _ ?_) | (refine h_app _ _ ?_ _ ?_))
  all_goals (try dsimp only at *)
  all_goals (first | trivial | assumption | omega | (exfalso; omega) | (exact hQ _ (by assumption)) | skip)
theorem w_cp_110b {CALL : sx_Ca} {sL : Nat} {sx : Nat → Int32} {Q : Nat → sx_L → sx_S → Prop} {R : Int → sx_S → Prop} {s : sx_S} {a0 a2 x4 x5 x7 x8 : Int} {Za : sx_S → Prop} (q7 : 0 ≤ x7 ∧ x7 ≤ 4) (h_app : ∀ K : Int → sx_S → Prop, (∀ u, Za u → K 0 u) → CALL 90 [.inr (.inl 11), .inl a0, .inl x8] s K) (hQ : ∀ u, Za u → Q 70 [(0, .inr (.inl 11)), (1, .inl a0), (3, .inl a2), (4, .inl x4), (5, .inl x5), (7, .inl (x7 + 1))] u) : sx_wp true sL sx eX7_complete CALL [(15, [0, 1, 3, 4, 5, 6, 7]), (70, [0, 1, 3, 4, 5, 7]), (110, [0, 1, 3, 4, 5, 7, 8, 9]), (158, [0, 4, 7, 8])] Q R 400 110 [(0, .inr (.inl 11)), (1, .inl a0), (3, .inl a2), (4, .inl x4), (5, .inl x5), (7, .inl x7), (8, .inl x8), (9, .inl 0)] [] s := by
  have zzy : sx_w true (x7 + 1) = x7 + 1 := px_wid (by omega) (by omega)
  rw [← zzy] at hQ
  repeat' (first | (with_reducible (rintro _ rfl)) | (with_reducible intro _) | (refine And.intro ?_ ?_) | (refine h_app _ ?_))
  all_goals (try dsimp only at *)
  all_goals (first | trivial | assumption | omega | (exfalso; omega) | (exact hQ _ (by assumption)) | skip)
theorem w_cp_158 {CALL : sx_Ca} {sL : Nat} {sx : Nat → Int32} {Q : Nat → sx_L → sx_S → Prop} {R : Int → sx_S → Prop} (h_lam : ∀ (a0 a1 : Int) (s : sx_S) (R : Int → sx_S → Prop), cx_I s → s.1 11 6 < 1024 → (-2147483648 ≤ a0 ∧ a0 ≤ 2147483647) → (-1 ≤ a1 ∧ a1 ≤ 1023) → (∀ t, cx_I t → cx_F [(11, 17)] s t → dz_N1 0 a0 a1 s t → R (s.1 11 6) t) → CALL 89 [.inr (.inl 11), .inl a0, .inl a1] s R) {s : sx_S} {x4 x7 x8 : Int} (hI : cx_I s) (q4 : 0 ≤ x4 ∧ x4 ≤ 512) (q7 : -1 ≤ x7 ∧ x7 ≤ 1023) (q8 : -1 ≤ x8 ∧ x8 ≤ 3) (qn : 0 ≤ x8 → s.1 11 6 < 1024) (hK : x8 = -1 → R x7 s) (hQ : 0 ≤ x8 → ∀ t, cx_I t → cx_F [(11, 17)] s t → dz_N1 0 (x4 + x8) x7 s t → Q 158 [(0, .inr (.inl 11)), (4, .inl x4), (7, .inl (s.1 11 6)), (8, .inl (x8 - 1))] t) : sx_wp true sL sx eX7_complete CALL [(15, [0, 1, 3, 4, 5, 6, 7]), (70, [0, 1, 3, 4, 5, 7]), (110, [0, 1, 3, 4, 5, 7, 8, 9]), (158, [0, 4, 7, 8])] Q R 400 158 [(0, .inr (.inl 11)), (4, .inl x4), (7, .inl x7), (8, .inl x8)] [] s := by
  have h0 := hI.fld 11 6 (by decide) rfl
  have zzy : sx_w true (x8 + -1) = x8 - 1 := by rw [px_wid (by omega) (by omega)]; omega
  have zzz : sx_w true (x4 + x8) = x4 + x8 := px_wid (by omega) (by omega)
  rw [← zzy, ← zzz] at hQ
  by_cases hx : 0 ≤ x8
  · have hQ' := hQ hx
    repeat' (first | (with_reducible (rintro _ rfl)) | (with_reducible intro _) | (refine And.intro ?_ ?_) | (refine h_lam _ _ _ _ ?_ ?_ ?_ ?_ ?_))
    all_goals (try dsimp only at *)
    all_goals (first | trivial | assumption | omega | (exfalso; omega) | (rw [zzz]; omega) | (exact hQ' _ (by assumption) (by assumption) (by assumption)) | skip)
  · have hK' := hK (by omega)
    repeat' (first | (with_reducible (rintro _ rfl)) | (with_reducible intro _) | (refine And.intro ?_ ?_) | (refine h_lam _ _ _ _ ?_ ?_ ?_ ?_ ?_))
    all_goals (try dsimp only at *)
    all_goals (first | trivial | assumption | omega | (exfalso; omega) | skip)
end
section
/-! ===== long forms: what asVariable makes of them ===== -/
def dz_as : List qx_T → qx_T → qx_T
  | [], y => y
  | T :: Ts, y => qx_a T (dz_as Ts y)
def dz_sm : List qx_T → Nat
  | [] => 0
  | T :: Ts => qx_at T + dz_sm Ts
theorem qx_at_pos : ∀ x : qx_T, 1 ≤ qx_at x
  | .leaf => Nat.le_refl _
  | .inner _ k _ x y => by
    cases k with
    | true => exact Nat.le_refl _
    | false =>
      have := qx_at_pos x
      show 1 ≤ qx_at x + qx_at y
      omega
theorem dz_as_at (y : qx_T) : ∀ Ts : List qx_T, qx_at (dz_as Ts y) = dz_sm Ts + qx_at y
  | [] => (Nat.zero_add _).symm
  | T :: Ts => by
    show qx_at T + qx_at (dz_as Ts y) = qx_at T + dz_sm Ts + qx_at y
    rw [dz_as_at y Ts]
    omega
theorem dz_as_snoc (T y : qx_T) : ∀ Ts : List qx_T, dz_as Ts (qx_a T y) = dz_as (Ts ++ [T]) y
  | [] => rfl
  | U :: Ts => by
    show qx_a U (dz_as Ts (qx_a T y)) = qx_a U (dz_as (Ts ++ [T]) y)
    rw [dz_as_snoc T y Ts]
theorem dz_sm_len : ∀ Ts : List qx_T, Ts.length ≤ dz_sm Ts
  | [] => Nat.le_refl _
  | T :: Ts => by
    have h1 := dz_sm_len Ts
    have h2 := qx_at_pos T
    show Ts.length + 1 ≤ qx_at T + dz_sm Ts
    omega
theorem dz_sm_drop {Ts : List qx_T} {j : Nat} {T : qx_T} (h : Ts[j]? = some T) : dz_sm (Ts.drop j) = qx_at T + dz_sm (Ts.drop (j + 1)) := by
  induction Ts generalizing j with
  | nil => simp at h
  | cons U Ts ih =>
    cases j with
    | zero =>
      simp at h
      subst h
      rfl
    | succ j =>
      simp at h
      show dz_sm (Ts.drop j) = _ + dz_sm (Ts.drop (j + 1))
      exact ih h
theorem dz_sm_mem {T : qx_T} : ∀ {Ts : List qx_T} {j : Nat}, Ts[j]? = some T → qx_at T ≤ dz_sm Ts
  | [], j, h => by simp at h
  | U :: Ts, 0, h => by
    simp at h
    subst h
    exact Nat.le_add_right _ _
  | U :: Ts, j + 1, h => by
    simp at h
    have := dz_sm_mem h
    show _ ≤ qx_at U + dz_sm Ts
    omega
theorem dz_arr {s : sx_S} {y : qx_T} {z : Int} (h : dx_is s y z) (h1 : 2 ≤ z) (h2 : z < s.1 8 2) : ∃ T w, y = qx_a T w ∧ dx_is s T (s.2.1 9 z.toNat) ∧ dx_is s w (s.2.1 10 z.toNat) := by
  cases y with
  | leaf =>
    have : z = 0 := h
    omega
  | inner j k u x w =>
    obtain ⟨h3, h4⟩ := h
    subst h3
    rcases h4 with ⟨_, _, _, h5⟩ | ⟨h5, _, h6, h7⟩
    · omega
    · subst h5
      exact ⟨x, w, rfl, h6, h7⟩
/-- the new variables -/
def dz_bs (b : Int) (n : Nat) : List Int := (List.range n).map (fun (i : Nat) => b + (i : Int))
theorem dz_bs_len (b : Int) (n : Nat) : (dz_bs b n).length = n := by
  rw [dz_bs, List.length_map, List.length_range]
theorem dz_bs_s (b : Int) (n : Nat) : dz_bs b (n + 1) = dz_bs b n ++ [b + (n : Int)] := by
  rw [dz_bs, List.range_succ, List.map_append]
  rfl
theorem dz_bs_drop (b : Int) {n j : Nat} (h : j < n) : (dz_bs b n).drop j = (b + (j : Int)) :: (dz_bs b n).drop (j + 1) := by
  have h1 : j < (dz_bs b n).length := by rw [dz_bs_len]; exact h
  rw [List.drop_eq_getElem_cons h1]
  congr 1
  simp [dz_bs]
/-- what a long form is for asVariable: its head and explicit ARGs alone count -/
def dz_sem (W : rf_N) (k h : Int) (f : rf_N) (m : Nat) : Prop := True → (∀ (g : Nat) (us : List Int) (v : Int), (dz_av W).1 g us v → k = 2 ∧ v = h ∧ ∃ g', g = g' + 1 ∧ (dz_av f).2 g' us) ∧ (∀ (g : Nat) (us : List Int), k = 2 → m ≤ g + 1 → us.length + m ≤ 5 → (dz_av f).2 g us → (dz_av W).1 (g + 1) us h)
theorem dz_av_dn {B : rf_N} {g : Nat} {v : Int} : ∀ {n : Nat} {W : rf_N}, rf_dn B n W → ∀ us : List Int, (dz_av W).1 g us v ↔ ((n = 0 ∨ us.length + n ≤ 4) ∧ (dz_av B).1 g (us ++ rf_rf n W) v)
  | 0, W, h, us => by
    have e : W = B := h
    subst e
    have e2 : rf_rf 0 W = [] := by cases W <;> rfl
    rw [e2, List.append_nil]
    exact ⟨fun q => ⟨Or.inl rfl, q⟩, fun q => q.2⟩
  | n + 1, .leaf, h, _ => h.elim
  | n + 1, .inner j k _ f x, h, us => by
    obtain ⟨h1, h2⟩ := h
    have ih := dz_av_dn (B := B) (g := g) (v := v) h2 (us ++ [k.2])
    have e2 : us ++ rf_rf (n + 1) (.inner j k () f x) = us ++ [k.2] ++ rf_rf n f := by
      rw [List.append_assoc]
      rfl
    rw [e2]
    rw [List.length_append, List.length_singleton] at ih
    constructor
    · rintro (⟨_, q1, q2⟩ | ⟨q1, _⟩)
      · obtain ⟨q3, q4⟩ := ih.mp q2
        exact ⟨Or.inr (by omega), q4⟩
      · omega
    · rintro ⟨q1, q2⟩
      exact Or.inl ⟨h1, by omega, ih.mpr ⟨by omega, q2⟩⟩
/-- rows put together -/
theorem dz_av_app {G : rf_N} {g : Nat} : ∀ {f : rf_N} {ws : List Int}, (dz_av (rf_snoc f G)).2 g ws ↔ ∃ us vs, ws = us ++ vs ∧ (dz_av f).2 g us ∧ (dz_av G).2 g vs
  | .leaf, ws => ⟨fun h => ⟨[], ws, rfl, rfl, h⟩, fun ⟨us, vs, h1, h2, h3⟩ => by
    have e : us = [] := h2
    rw [h1, e]
    exact h3⟩
  | .inner j k _ f x, ws => by
    constructor
    · rintro ⟨u, us', h1, h2, h3⟩
      obtain ⟨us, vs, h4, h5, h6⟩ := dz_av_app.mp h3
      exact ⟨u :: us, vs, by rw [h1, h4]; rfl, ⟨u, us, rfl, h2, h5⟩, h6⟩
    · rintro ⟨us, vs, h1, ⟨u, us', h2, h3, h4⟩, h5⟩
      exact ⟨u, us' ++ vs, by rw [h1, h2]; rfl, h3, dz_av_app.mpr ⟨us', vs, rfl, h4, h5⟩⟩
theorem dz_av_one {P : rf_N} {g : Nat} {v : Int} (hP : rf_nx P) (h : (dz_av P).1 g [] v) : (dz_av P).2 g [v] := by
  cases P with
  | leaf => exact h.elim
  | inner j k u f x =>
    have e : x = .leaf := hP
    subst e
    exact ⟨v, [], rfl, h, rfl⟩
/-- the whole -/
theorem dz_sem_mk {z : Nat} {k h : Int} {f G W : rf_N} {L m : Nat} {b : Int} (hk : k ≠ 0) (hW : rf_dn (rf_n z k h (rf_snoc f G) .leaf) L W) (hr : rf_rf L W = dz_bs b L) (hG : rf_len G = L) (hm : L + 1 ≤ m) (hs : k ≠ 3 → ∀ g, m ≤ g + 1 → (dz_av G).2 g (dz_bs b L)) : dz_sem W k h f m := fun _ => by
  refine ⟨fun g us v q => ?_, fun g us k2 mg ml q => ?_⟩
  · obtain ⟨_, q2⟩ := (dz_av_dn hW us).mp q
    rcases q2 with ⟨q3, _⟩ | ⟨q3, q4, g', q5, q6⟩
    · exact absurd q3 hk
    · refine ⟨q3, q4.symm, g', q5, ?_⟩
      obtain ⟨us', vs, q7, q8, q9⟩ := dz_av_app.mp q6
      have l1 := dz_av_len q9
      have l2 := dz_bs_len b L
      rw [hr] at q7
      have l3 := congrArg List.length q7
      rw [List.length_append, List.length_append] at l3
      have e := (List.append_inj q7 (by omega)).1
      rw [e]
      exact q8
  · refine (dz_av_dn hW us).mpr ⟨by omega, Or.inr ⟨k2, rfl, g, rfl, ?_⟩⟩
    rw [hr]
    exact dz_av_app.mpr ⟨us, _, rfl, q, hs (by omega) g mg⟩
end
section
def dz_i15 (x : qx_T) (s : sx_S) (Ts : List qx_T) (y : qx_T) (x5 x6 : Int) (u : sx_S) : Prop := True → x = dz_as Ts y ∧ dx_is u y x6 ∧ ((Ts.length : Int) = x5 ∧ x5 ≤ 4) ∧ u.1 11 6 = s.1 11 6 ∧ u.1 11 8 = s.1 11 8 + x5 ∧ dz_fr (fun _ => True) s u ∧ (∀ j : Nat, (j : Int) < s.1 11 8 → u.2.1 17 j = s.2.1 17 j) ∧ (∀ (i : Nat) T, Ts[i]? = some T → dx_is u T (u.2.1 17 (s.1 11 8 + (i : Int)).toNat))
theorem dz_is_F {s t : sx_S} {x : qx_T} {z : Int} (hF : cx_F [(11, 17)] s t) (h : dx_is s x z) : dx_is t x z := by
  have h' : qx_ty (s.2.1 9) (s.2.1 10) (s.1 8 2) x z := h
  show qx_ty (t.2.1 9) (t.2.1 10) (t.1 8 2) x z
  rw [(hF.same 9 rfl).2, (hF.same 10 rfl).2, (hF.same 8 rfl).1]
  exact h'
theorem dz_T_a0 {lo a0 k h : Int} {f : rf_N} {s : sx_S} (h : dz_T lo s (rf_n a0.toNat k h f .leaf) a0) : 0 ≤ a0 ∧ a0 < s.1 11 6 ∧ lo ≤ a0 ∧ s.2.1 12 a0.toNat = k := by
  obtain ⟨⟨⟨h1, h2⟩, ⟨h3, _⟩, _⟩, _, _, h4, _⟩ := h trivial
  have := h4 _ List.mem_cons_self
  exact ⟨by omega, by omega, by omega, h3⟩
theorem dz_get {α : Type} {l : List α} {j : Nat} (h : j < l.length) : ∃ a, l[j]? = some a := ⟨_, List.getElem?_eq_getElem h⟩
end
section
/-! ===== terms with values for unknowns, pure ===== -/
/-- what stands next is X -/
def vx_sb : rf_N → rf_N → rf_N
  | .leaf, X => X
  | .inner j q _ F _, X => .inner j q () F X
/-- it alone -/
def vx_1 : rf_N → rf_N
  | .leaf => .leaf
  | .inner j q _ F _ => .inner j q () F .leaf
/-- variables named otherwise -/
def vx_re (ρ : Int → Int) : rf_N → rf_N
  | .leaf => .leaf
  | .inner _ q _ F X => rf_n 0 q.1 (if q.1 = 2 then ρ q.2 else q.2) (vx_re ρ F) (vx_re ρ X)
/-- the ARGs xs for the first of them, what is bound inside from L on -/
def vx_ix (xs : List Int) (L v : Int) : Int := if v < (xs.length : Int) then xs.getD v.toNat (-1) else L + (v - (xs.length : Int))
def vx_up (e : Int → Int) (x L v : Int) : Int := if v = x then L else e v
/-- the value: th the unknowns', AR their ARGs by node, e the variables', L how many are bound around -/
def vx_val (th : Int → rf_N) (AR : Nat → List Int) : rf_N → (Int → Int) → Int → rf_N
  | .leaf, _, _ => .leaf
  | .inner j q _ F X, e, L => if q.1 = 0 then rf_n 0 0 0 (vx_val th AR F (vx_up e q.2 L) (L + 1)) (vx_val th AR X e L) else if q.1 = 3 then vx_sb (vx_re (vx_ix ((AR j).map e) L) (th q.2)) (vx_val th AR X e L) else rf_n 0 q.1 (if q.1 = 2 then e q.2 else q.2) (vx_val th AR F e L) (vx_val th AR X e L)
/-- well made, variables below b but for what is bound inside; no unknown in it -/
def vx_sc : rf_N → Int → Prop
  | .leaf, _ => True
  | .inner j q _ F X, b => j = 0 ∧ ((q.1 = 0 ∧ q.2 = 0 ∧ vx_sc F (b + 1)) ∨ ((q.1 = 1 ∨ (q.1 = 2 ∧ 0 ≤ q.2 ∧ q.2 < b)) ∧ vx_sc F b)) ∧ vx_sc X b
/-- the variable v stands in it -/
def vx_oc (v : Int) : rf_N → Prop
  | .leaf => False
  | .inner _ q _ F X => (q.1 = 2 ∧ q.2 = v) ∨ vx_oc v F ∨ vx_oc v X
def vx_sz : rf_N → Nat
  | .leaf => 0
  | .inner _ _ _ F X => 1 + vx_sz F + vx_sz X
/-- one term -/
def vx_on (v : rf_N) : Prop := ∃ k h F, v = rf_n 0 k h F .leaf
theorem vx_re_in (ρ : Int → Int) (j : Nat) (q : Int × Int) (u : Unit) (F X : rf_N) : vx_re ρ (.inner j q u F X) = rf_n 0 q.1 (if q.1 = 2 then ρ q.2 else q.2) (vx_re ρ F) (vx_re ρ X) := rfl
theorem vx_val_in (th : Int → rf_N) (AR : Nat → List Int) (j : Nat) (q : Int × Int) (u : Unit) (F X : rf_N) (e : Int → Int) (L : Int) : vx_val th AR (.inner j q u F X) e L = if q.1 = 0 then rf_n 0 0 0 (vx_val th AR F (vx_up e q.2 L) (L + 1)) (vx_val th AR X e L) else if q.1 = 3 then vx_sb (vx_re (vx_ix ((AR j).map e) L) (th q.2)) (vx_val th AR X e L) else rf_n 0 q.1 (if q.1 = 2 then e q.2 else q.2) (vx_val th AR F e L) (vx_val th AR X e L) := rfl
theorem vx_re_re (ρ ρ' : Int → Int) : ∀ A : rf_N, vx_re ρ (vx_re ρ' A) = vx_re (fun v => ρ (ρ' v)) A
  | .leaf => rfl
  | .inner j q u F X => by
    have hF := vx_re_re ρ ρ' F
    have hX := vx_re_re ρ ρ' X
    have hh : (if q.1 = 2 then ρ (if q.1 = 2 then ρ' q.2 else q.2) else (if q.1 = 2 then ρ' q.2 else q.2)) = (if q.1 = 2 then ρ (ρ' q.2) else q.2) := by
      by_cases h : q.1 = 2
      · simp only [h, if_true]
      · simp only [h, if_false]
    rw [vx_re_in, vx_re_in, vx_re_in, hF, hX]
    dsimp only
    rw [hh]
theorem vx_n_eq {j : Nat} {k h k' h' : Int} {F F' X X' : rf_N} (e : rf_n j k h F X = rf_n j k' h' F' X') : k = k' ∧ h = h' ∧ F = F' ∧ X = X' := by
  cases e
  exact ⟨rfl, rfl, rfl, rfl⟩
theorem vx_re_eq {ρ ρ' : Int → Int} : ∀ {A : rf_N}, vx_re ρ A = vx_re ρ' A ↔ ∀ v, vx_oc v A → ρ v = ρ' v
  | .leaf => ⟨fun _ _ h => h.elim, fun _ => rfl⟩
  | .inner j q u F X => by
    have hF := vx_re_eq (ρ := ρ) (ρ' := ρ') (A := F)
    have hX := vx_re_eq (ρ := ρ) (ρ' := ρ') (A := X)
    constructor
    · intro h v hv
      rw [vx_re_in, vx_re_in] at h
      obtain ⟨_, h2, h3, h4⟩ := vx_n_eq h
      rcases hv with ⟨q1, q2⟩ | hv | hv
      · rw [if_pos q1, if_pos q1] at h2
        rw [← q2]
        exact h2
      · exact hF.mp h3 v hv
      · exact hX.mp h4 v hv
    · intro h
      have h3 := hF.mpr (fun v hv => h v (Or.inr (Or.inl hv)))
      have h4 := hX.mpr (fun v hv => h v (Or.inr (Or.inr hv)))
      rw [vx_re_in, vx_re_in, h3, h4]
      by_cases h2 : q.1 = 2
      · rw [if_pos h2, if_pos h2, h q.2 (Or.inl ⟨h2, rfl⟩)]
      · rw [if_neg h2, if_neg h2]
theorem vx_oc_re {ρ : Int → Int} {w : Int} : ∀ {A : rf_N}, vx_oc w (vx_re ρ A) ↔ ∃ v, vx_oc v A ∧ ρ v = w
  | .leaf => ⟨fun h => h.elim, fun ⟨_, h, _⟩ => h.elim⟩
  | .inner j q u F X => by
    have hF := vx_oc_re (ρ := ρ) (w := w) (A := F)
    have hX := vx_oc_re (ρ := ρ) (w := w) (A := X)
    constructor
    · rintro (⟨h1, h2⟩ | h | h)
      · have h1' : q.1 = 2 := h1
        have h2' : (if q.1 = 2 then ρ q.2 else q.2) = w := h2
        rw [if_pos h1'] at h2'
        exact ⟨q.2, Or.inl ⟨h1', rfl⟩, h2'⟩
      · obtain ⟨v, h1, h2⟩ := hF.mp h
        exact ⟨v, Or.inr (Or.inl h1), h2⟩
      · obtain ⟨v, h1, h2⟩ := hX.mp h
        exact ⟨v, Or.inr (Or.inr h1), h2⟩
    · rintro ⟨v, ⟨h1, h2⟩ | h | h, hw⟩
      · refine Or.inl ⟨h1, ?_⟩
        show (if q.1 = 2 then ρ q.2 else q.2) = w
        rw [if_pos h1, h2]
        exact hw
      · exact Or.inr (Or.inl (hF.mpr ⟨v, h, hw⟩))
      · exact Or.inr (Or.inr (hX.mpr ⟨v, h, hw⟩))
theorem vx_sz_re {ρ : Int → Int} : ∀ A : rf_N, vx_sz (vx_re ρ A) = vx_sz A
  | .leaf => rfl
  | .inner j q u F X => by
    show 1 + vx_sz (vx_re ρ F) + vx_sz (vx_re ρ X) = 1 + vx_sz F + vx_sz X
    rw [vx_sz_re F, vx_sz_re X]
theorem vx_re_sb {ρ : Int → Int} {X : rf_N} : ∀ {a : rf_N}, vx_re ρ (vx_sb a X) = vx_sb (vx_re ρ a) (vx_re ρ X)
  | .leaf => rfl
  | .inner _ _ _ _ _ => rfl
theorem vx_re_on {ρ : Int → Int} {a : rf_N} (h : vx_on a) : vx_on (vx_re ρ a) := by
  obtain ⟨k, h, F, rfl⟩ := h
  exact ⟨k, _, _, rfl⟩
theorem vx_sb_on {a b X Y : rf_N} (ha : vx_on a) (hb : vx_on b) (h : vx_sb a X = vx_sb b Y) : a = b ∧ X = Y := by
  obtain ⟨k, h1, F, rfl⟩ := ha
  obtain ⟨k', h1', F', rfl⟩ := hb
  have h' : rf_n 0 k h1 F X = rf_n 0 k' h1' F' Y := h
  obtain ⟨e1, e2, e3, e4⟩ := vx_n_eq h'
  subst e1 e2 e3
  exact ⟨rfl, e4⟩
theorem vx_re_id {ρ : Int → Int} : ∀ {A : rf_N} {b : Int}, vx_sc A b → (∀ v, vx_oc v A → ρ v = v) → vx_re ρ A = A
  | .leaf, _, _, _ => rfl
  | .inner j q u F X, b, hs, h => by
    obtain ⟨h0, hs, hX⟩ := hs
    subst h0
    have e4 := vx_re_id hX (fun v hv => h v (Or.inr (Or.inr hv)))
    have e3 : vx_re ρ F = F := by
      rcases hs with ⟨_, _, hF⟩ | ⟨_, hF⟩
      · exact vx_re_id hF (fun v hv => h v (Or.inr (Or.inl hv)))
      · exact vx_re_id hF (fun v hv => h v (Or.inr (Or.inl hv)))
    rw [vx_re_in, e3, e4]
    by_cases h2 : q.1 = 2
    · rw [if_pos h2, h q.2 (Or.inl ⟨h2, rfl⟩)]
    · rw [if_neg h2]
theorem vx_sc_oc {v : Int} : ∀ {A : rf_N} {b : Int}, vx_sc A b → vx_oc v A → 0 ≤ v
  | .leaf, _, _, h => h.elim
  | .inner j q u F X, b, hs, h => by
    obtain ⟨_, hs, hX⟩ := hs
    rcases h with ⟨h1, h2⟩ | h | h
    · rcases hs with ⟨z, _⟩ | ⟨z | ⟨_, z, _⟩, _⟩
      · omega
      · omega
      · omega
    · rcases hs with ⟨_, _, z⟩ | ⟨_, z⟩
      · exact vx_sc_oc z h
      · exact vx_sc_oc z h
    · exact vx_sc_oc hX h
theorem vx_gD {xs : List Int} {i : Nat} (h : i < xs.length) : xs.getD i (-1) = xs[i] := by
  rw [List.getD_eq_getElem?_getD, List.getElem?_eq_getElem h]
  rfl
theorem vx_getD_map (f : Int → Int) (xs : List Int) (i : Nat) (h : i < xs.length) : (xs.map f).getD i (-1) = f (xs.getD i (-1)) := by
  rw [vx_gD (by rw [List.length_map]; exact h), List.getElem_map, vx_gD h]
/-- unknowns' values are single terms, no negative numbers in them -/
def vx_gd (th : Int → rf_N) : Prop := ∀ u, vx_on (th u) ∧ ∀ v, vx_oc v (th u) → 0 ≤ v
theorem vx_ix_re {ρ : Int → Int} {xs : List Int} {L L' : Int} (hL : ∀ i : Int, 0 ≤ i → ρ (L + i) = L' + i) {v : Int} (hv : 0 ≤ v) : ρ (vx_ix xs L v) = vx_ix (xs.map ρ) L' v := by
  unfold vx_ix
  rw [List.length_map]
  by_cases h : v < (xs.length : Int)
  · rw [if_pos h, if_pos h, vx_getD_map ρ xs v.toNat (by omega)]
  · rw [if_neg h, if_neg h]
    exact hL _ (by omega)
theorem vx_val_re {th : Int → rf_N} {AR : Nat → List Int} (hg : vx_gd th) {ρ : Int → Int} : ∀ {A : rf_N} {e : Int → Int} {L L' : Int}, (∀ i : Int, 0 ≤ i → ρ (L + i) = L' + i) → vx_re ρ (vx_val th AR A e L) = vx_val th AR A (fun v => ρ (e v)) L'
  | .leaf, _, _, _, _ => rfl
  | .inner j q u F X, e, L, L', hL => by
    have hX := vx_val_re hg (AR := AR) (A := X) (e := e) hL
    rw [vx_val_in, vx_val_in]
    by_cases h0 : q.1 = 0
    · rw [if_pos h0, if_pos h0]
      have hF := vx_val_re hg (ρ := ρ) (AR := AR) (A := F) (e := vx_up e q.2 L) (L := L + 1) (L' := L' + 1) (fun i hi => by
        have := hL (1 + i) (by omega)
        rw [show L + 1 + i = L + (1 + i) by omega, this]
        omega)
      have eu : (fun v => ρ (vx_up e q.2 L v)) = vx_up (fun v => ρ (e v)) q.2 L' := by
        funext v
        unfold vx_up
        by_cases hv : v = q.2
        · rw [if_pos hv, if_pos hv]
          have := hL 0 (by omega)
          rw [Int.add_zero, Int.add_zero] at this
          exact this
        · rw [if_neg hv, if_neg hv]
      rw [eu] at hF
      rw [← hF, ← hX]
      rfl
    · rw [if_neg h0, if_neg h0]
      by_cases h3 : q.1 = 3
      · rw [if_pos h3, if_pos h3, vx_re_sb, vx_re_re, hX]
        have : vx_re (fun v => ρ (vx_ix ((AR j).map e) L v)) (th q.2) = vx_re (vx_ix ((AR j).map (fun v => ρ (e v))) L') (th q.2) := vx_re_eq.mpr (fun v hv => by
          rw [vx_ix_re hL ((hg q.2).2 v hv), List.map_map]
          rfl)
        rw [this]
      · rw [if_neg h3, if_neg h3]
        have hF := vx_val_re hg (AR := AR) (A := F) (e := e) hL
        rw [← hF, ← hX]
        show rf_n 0 q.1 _ _ _ = _
        by_cases h2 : q.1 = 2
        · rw [if_pos h2, if_pos h2, if_pos h2]
        · rw [if_neg h2, if_neg h2, if_neg h2]
/-- the variable z stands free in it; U: which ARGs an unknown uses -/
def vx_fv (U : Int → Int → Prop) (AR : Nat → List Int) (z : Int) : rf_N → Prop
  | .leaf => False
  | .inner j q _ F X => ((q.1 = 0 ∧ z ≠ q.2 ∧ vx_fv U AR z F) ∨ (q.1 = 3 ∧ ∃ i : Nat, (AR j)[i]? = some z ∧ U q.2 i) ∨ (q.1 ≠ 0 ∧ q.1 ≠ 3 ∧ ((q.1 = 2 ∧ z = q.2) ∨ vx_fv U AR z F))) ∨ vx_fv U AR z X
def vx_us (th : Int → rf_N) (m i : Int) : Prop := vx_oc i (th m)
theorem vx_val_cg {th : Int → rf_N} {AR : Nat → List Int} (hg : vx_gd th) : ∀ {A : rf_N} {e e' : Int → Int} {L : Int}, (∀ z, vx_fv (vx_us th) AR z A → e z = e' z) → vx_val th AR A e L = vx_val th AR A e' L
  | .leaf, _, _, _, _ => rfl
  | .inner j q u F X, e, e', L, h => by
    have hX := vx_val_cg hg (AR := AR) (A := X) (e := e) (e' := e') (L := L) (fun z hz => h z (Or.inr hz))
    rw [vx_val_in, vx_val_in, hX]
    by_cases h0 : q.1 = 0
    · rw [if_pos h0, if_pos h0]
      have hF := vx_val_cg hg (AR := AR) (A := F) (e := vx_up e q.2 L) (e' := vx_up e' q.2 L) (L := L + 1) (fun z hz => by
        unfold vx_up
        by_cases hv : z = q.2
        · rw [if_pos hv, if_pos hv]
        · rw [if_neg hv, if_neg hv]
          exact h z (Or.inl (Or.inl ⟨h0, hv, hz⟩)))
      rw [hF]
    · rw [if_neg h0, if_neg h0]
      by_cases h3 : q.1 = 3
      · rw [if_pos h3, if_pos h3]
        have : vx_re (vx_ix ((AR j).map e) L) (th q.2) = vx_re (vx_ix ((AR j).map e') L) (th q.2) := vx_re_eq.mpr (fun v hv => by
          have v0 := (hg q.2).2 v hv
          unfold vx_ix
          rw [List.length_map, List.length_map]
          by_cases hl : v < ((AR j).length : Int)
          · rw [if_pos hl, if_pos hl, vx_getD_map e _ _ (by omega), vx_getD_map e' _ _ (by omega)]
            have hi : v.toNat < (AR j).length := by omega
            rw [vx_gD hi]
            refine h _ (Or.inl (Or.inr (Or.inl ⟨h3, v.toNat, List.getElem?_eq_getElem hi, ?_⟩)))
            show vx_oc ((v.toNat : Nat) : Int) (th q.2)
            rw [Int.toNat_of_nonneg v0]
            exact hv
          · rw [if_neg hl, if_neg hl])
        rw [this]
      · rw [if_neg h3, if_neg h3]
        have hF := vx_val_cg hg (AR := AR) (A := F) (e := e) (e' := e') (L := L) (fun z hz => h z (Or.inl (Or.inr (Or.inr ⟨h0, h3, Or.inr hz⟩))))
        rw [hF]
        by_cases h2 : q.1 = 2
        · rw [if_pos h2, if_pos h2, h q.2 (Or.inl (Or.inr (Or.inr ⟨h0, h3, Or.inl ⟨h2, rfl⟩⟩)))]
        · rw [if_neg h2, if_neg h2]
theorem vx_oc_sb {w : Int} {X : rf_N} : ∀ {a : rf_N}, vx_on a → (vx_oc w (vx_sb a X) ↔ vx_oc w a ∨ vx_oc w X) := by
  rintro a ⟨k, h, F, rfl⟩
  constructor
  · rintro (h | h | h)
    · exact Or.inl (Or.inl h)
    · exact Or.inl (Or.inr (Or.inl h))
    · exact Or.inr h
  · rintro ((h | h | h) | h)
    · exact Or.inl h
    · exact Or.inr (Or.inl h)
    · exact h.elim
    · exact Or.inr (Or.inr h)
theorem vx_fv_oc {th : Int → rf_N} {AR : Nat → List Int} (hg : vx_gd th) {z : Int} : ∀ {A : rf_N} {e : Int → Int} {L : Int}, vx_fv (vx_us th) AR z A → vx_oc (e z) (vx_val th AR A e L)
  | .leaf, _, _, h => h.elim
  | .inner j q u F X, e, L, h => by
    rw [vx_val_in]
    by_cases h0 : q.1 = 0
    · rw [if_pos h0]
      rcases h with (⟨_, h1, h2⟩ | ⟨h1, _⟩ | ⟨h1, _⟩) | h
      · have := vx_fv_oc hg (AR := AR) (A := F) (e := vx_up e q.2 L) (L := L + 1) h2
        unfold vx_up at this
        rw [if_neg h1] at this
        exact Or.inr (Or.inl this)
      · omega
      · omega
      · exact Or.inr (Or.inr (vx_fv_oc hg h))
    · rw [if_neg h0]
      by_cases h3 : q.1 = 3
      · rw [if_pos h3, vx_oc_sb (vx_re_on (hg q.2).1)]
        rcases h with (⟨h1, _⟩ | ⟨_, i, h1, h2⟩ | ⟨_, h1, _⟩) | h
        · omega
        · left
          rw [vx_oc_re]
          obtain ⟨hi, he⟩ := List.getElem?_eq_some_iff.mp h1
          refine ⟨(i : Int), h2, ?_⟩
          unfold vx_ix
          rw [List.length_map, if_pos (by omega), vx_getD_map e _ _ (by omega), vx_gD (by omega)]
          congr 1
        · omega
        · exact Or.inr (vx_fv_oc hg h)
      · rw [if_neg h3]
        rcases h with (⟨h1, _⟩ | ⟨h1, _⟩ | ⟨_, _, ⟨h1, h2⟩ | h1⟩) | h
        · omega
        · omega
        · refine Or.inl ⟨h1, ?_⟩
          show (if q.1 = 2 then e q.2 else q.2) = e z
          rw [if_pos h1, h2]
        · exact Or.inr (Or.inl (vx_fv_oc hg h1))
        · exact Or.inr (Or.inr (vx_fv_oc hg h))
theorem vx_oc_fv {th : Int → rf_N} {AR : Nat → List Int} (hg : vx_gd th) {w : Int} : ∀ {A : rf_N} {e : Int → Int} {L : Int}, vx_oc w (vx_val th AR A e L) → (∃ z, vx_fv (vx_us th) AR z A ∧ e z = w) ∨ L ≤ w
  | .leaf, _, _, h => h.elim
  | .inner j q u F X, e, L, h => by
    have rX : vx_oc w (vx_val th AR X e L) → (∃ z, vx_fv (vx_us th) AR z (.inner j q u F X) ∧ e z = w) ∨ L ≤ w := fun h => by
      rcases vx_oc_fv hg h with ⟨z, h1, h2⟩ | h
      · exact Or.inl ⟨z, Or.inr h1, h2⟩
      · exact Or.inr h
    rw [vx_val_in] at h
    by_cases h0 : q.1 = 0
    · rw [if_pos h0] at h
      rcases h with ⟨h1, _⟩ | h | h
      · exact absurd h1 (by decide)
      · rcases vx_oc_fv hg h with ⟨z, h1, h2⟩ | h
        · unfold vx_up at h2
          by_cases hz : z = q.2
          · rw [if_pos hz] at h2
            exact Or.inr (by omega)
          · rw [if_neg hz] at h2
            exact Or.inl ⟨z, Or.inl (Or.inl ⟨h0, hz, h1⟩), h2⟩
        · exact Or.inr (by omega)
      · exact rX h
    · rw [if_neg h0] at h
      by_cases h3 : q.1 = 3
      · rw [if_pos h3, vx_oc_sb (vx_re_on (hg q.2).1)] at h
        rcases h with h | h
        · obtain ⟨v, h1, h2⟩ := vx_oc_re.mp h
          have v0 := (hg q.2).2 v h1
          unfold vx_ix at h2
          rw [List.length_map] at h2
          by_cases hl : v < ((AR j).length : Int)
          · rw [if_pos hl, vx_getD_map e _ _ (by omega)] at h2
            have hi : v.toNat < (AR j).length := by omega
            rw [vx_gD hi] at h2
            refine Or.inl ⟨_, Or.inl (Or.inr (Or.inl ⟨h3, v.toNat, List.getElem?_eq_getElem hi, ?_⟩)), h2⟩
            show vx_oc ((v.toNat : Nat) : Int) (th q.2)
            rw [Int.toNat_of_nonneg v0]
            exact h1
          · rw [if_neg hl] at h2
            exact Or.inr (by omega)
        · exact rX h
      · rw [if_neg h3] at h
        rcases h with ⟨h1, h2⟩ | h | h
        · have h1' : q.1 = 2 := h1
          have h2' : (if q.1 = 2 then e q.2 else q.2) = w := h2
          rw [if_pos h1'] at h2'
          exact Or.inl ⟨q.2, Or.inl (Or.inr (Or.inr ⟨h0, h3, Or.inl ⟨h1', rfl⟩⟩)), h2'⟩
        · rcases vx_oc_fv hg h with ⟨z, h1, h2⟩ | h
          · exact Or.inl ⟨z, Or.inl (Or.inr (Or.inr ⟨h0, h3, Or.inr h1⟩)), h2⟩
          · exact Or.inr h
        · exact rX h
end
