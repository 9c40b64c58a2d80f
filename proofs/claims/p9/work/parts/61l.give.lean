/-! ===== the desk's solver: an unknown is given a term, pieces ===== -/
theorem w_dv_fill53 {CALL : sx_Ca} {sL : Nat} {sx : Nat → Int32} {Q : Nat → sx_L → sx_S → Prop} {R : Int → sx_S → Prop} {s : sx_S} {v : Int} (hI : cx_I s) (pv : (-2147483648 ≤ v ∧ v ≤ 2147483647)) (hQ : Q 5 [(0, .inr (.inl 53)), (1, .inl v), (2, .inl 0), (3, .inl 32)] s) : sx_wp true sL sx eJ7_fill_53178 CALL [(5, [0, 1, 2, 3])] Q R 400 0 (sx_argsF 0 [.inr (.inl 53), .inl v]) [] s := by
  repeat' (first | (with_reducible (rintro _ rfl)) | (with_reducible intro _) | (refine And.intro ?_ ?_))
  all_goals (try dsimp only at *)
  all_goals (first | trivial | assumption | omega | (exfalso; omega) | skip)
theorem w_dv_fill53_5 {CALL : sx_Ca} {sL : Nat} {sx : Nat → Int32} {Q : Nat → sx_L → sx_S → Prop} {R : Int → sx_S → Prop} {s : sx_S} {v x2 : Int} (hI : cx_I s) (pv : (-2147483648 ≤ v ∧ v ≤ 2147483647)) (q2 : 0 ≤ x2 ∧ x2 ≤ 32) (hK : x2 = 32 → R 0 s) (hQ : x2 < 32 → cx_I (s.1, sx_ua s.2.1 53 x2.toNat v, s.2.2) → Q 5 [(0, .inr (.inl 53)), (1, .inl v), (2, .inl (x2 + 1)), (3, .inl 32)] (s.1, sx_ua s.2.1 53 x2.toNat v, s.2.2)) : sx_wp true sL sx eJ7_fill_53178 CALL [(5, [0, 1, 2, 3])] Q R 400 5 [(0, .inr (.inl 53)), (1, .inl v), (2, .inl x2), (3, .inl 32)] [] s := by
  have zzi : cx_I (s.1, sx_ua s.2.1 53 x2.toNat v, s.2.2) := cx_I_ua rfl rfl hI (by omega) (by omega)
  have zzy : sx_w true (x2 + 1) = x2 + 1 := px_wid (by omega) (by omega)
  repeat' (first | (with_reducible (rintro _ rfl)) | (with_reducible intro _) | (refine And.intro ?_ ?_))
  all_goals (try dsimp only at *)
  all_goals (first | trivial | assumption | omega | (exfalso; omega) | (exact hK (by omega)) | (have zz9 := hQ (by omega) zzi; rw [← zzy] at zz9; exact zz9) | skip)
theorem c_dv_fill53 {sL : Nat} {sx : Nat → Int32} (hsL : sL ≤ 3072) (d : Nat) (hd : 2 ≤ d) : ∀ (v : Int) (s : sx_S) (K : Int → sx_S → Prop), cx_I s → (-2147483648 ≤ v ∧ v ≤ 2147483647) → (∀ t, cx_I t → cx_F [(53, 53)] s t → t.1 = s.1 → (∀ j : Nat, j < 32 → t.2.1 53 j = v) → K 0 t) → sx_C sL sx d 219 [.inr (.inl 53), .inl v] s K := by
  intro v s K hI pv hK
  obtain ⟨d, rfl⟩ : ∃ e, d = e + 2 := ⟨d - 2, by omega⟩
  refine sx_methL (wr := true) (n := 400) (n' := 400) (stop := [(5, [0, 1, 2, 3])]) (fun nn pc ls u => pc = 5 ∧ ∃ x2 : Nat, ls = [(0, .inr (.inl 53)), (1, .inl v), (2, .inl (x2 : Int)), (3, .inl 32)] ∧ cx_I u ∧ cx_F [(53, 53)] s u ∧ u.1 = s.1 ∧ (∀ j : Nat, j < x2 → u.2.1 53 j = v) ∧ x2 ≤ 32 ∧ nn = 32 - x2) hsL (e := eJ7_fill_53178) rfl ?_ ?_
  · exact w_dv_fill53 hI pv ⟨_, rfl, 0, rfl, hI, cx_F_refl _ _, rfl, fun j hj => absurd hj (by omega), by omega, rfl⟩
  · rintro nn pc ls u ⟨rfl, x2, rfl, i1, i2, i3, i4, i5, rfl⟩
    refine w_dv_fill53_5 i1 pv (by omega) (fun h => hK u i1 i2 i3 (fun j hj => i4 j (by omega))) (fun h hI2 => ⟨32 - (x2 + 1), by omega, rfl, x2 + 1, rfl, hI2, cx_F_ua rfl i2, i3, fun j hj => ?_, by omega, rfl⟩)
    show sx_ua u.2.1 53 ((x2 : Int)).toNat v 53 j = v
    rw [sx_ua_same]
    dsimp only
    by_cases q : j = x2
    · rw [if_pos (by omega)]
    · rw [if_neg (by omega)]
      exact i4 j (by omega)

theorem w_dv_fill54 {CALL : sx_Ca} {sL : Nat} {sx : Nat → Int32} {Q : Nat → sx_L → sx_S → Prop} {R : Int → sx_S → Prop} {s : sx_S} {v : Int} (hI : cx_I s) (pv : (-2147483648 ≤ v ∧ v ≤ 2147483647)) (hQ : Q 5 [(0, .inr (.inl 54)), (1, .inl v), (2, .inl 0), (3, .inl 4)] s) : sx_wp true sL sx eJ7_fill_53178 CALL [(5, [0, 1, 2, 3])] Q R 400 0 (sx_argsF 0 [.inr (.inl 54), .inl v]) [] s := by
  repeat' (first | (with_reducible (rintro _ rfl)) | (with_reducible intro _) | (refine And.intro ?_ ?_))
  all_goals (try dsimp only at *)
  all_goals (first | trivial | assumption | omega | (exfalso; omega) | skip)
theorem w_dv_fill54_5 {CALL : sx_Ca} {sL : Nat} {sx : Nat → Int32} {Q : Nat → sx_L → sx_S → Prop} {R : Int → sx_S → Prop} {s : sx_S} {v x2 : Int} (hI : cx_I s) (pv : (-2147483648 ≤ v ∧ v ≤ 2147483647)) (q2 : 0 ≤ x2 ∧ x2 ≤ 4) (hK : x2 = 4 → R 0 s) (hQ : x2 < 4 → cx_I (s.1, sx_ua s.2.1 54 x2.toNat v, s.2.2) → Q 5 [(0, .inr (.inl 54)), (1, .inl v), (2, .inl (x2 + 1)), (3, .inl 4)] (s.1, sx_ua s.2.1 54 x2.toNat v, s.2.2)) : sx_wp true sL sx eJ7_fill_53178 CALL [(5, [0, 1, 2, 3])] Q R 400 5 [(0, .inr (.inl 54)), (1, .inl v), (2, .inl x2), (3, .inl 4)] [] s := by
  have zzi : cx_I (s.1, sx_ua s.2.1 54 x2.toNat v, s.2.2) := cx_I_ua rfl rfl hI (by omega) (by omega)
  have zzy : sx_w true (x2 + 1) = x2 + 1 := px_wid (by omega) (by omega)
  repeat' (first | (with_reducible (rintro _ rfl)) | (with_reducible intro _) | (refine And.intro ?_ ?_))
  all_goals (try dsimp only at *)
  all_goals (first | trivial | assumption | omega | (exfalso; omega) | (exact hK (by omega)) | (have zz9 := hQ (by omega) zzi; rw [← zzy] at zz9; exact zz9) | skip)
theorem c_dv_fill54 {sL : Nat} {sx : Nat → Int32} (hsL : sL ≤ 3072) (d : Nat) (hd : 2 ≤ d) : ∀ (v : Int) (s : sx_S) (K : Int → sx_S → Prop), cx_I s → (-2147483648 ≤ v ∧ v ≤ 2147483647) → (∀ t, cx_I t → cx_F [(54, 54)] s t → t.1 = s.1 → (∀ j : Nat, j < 4 → t.2.1 54 j = v) → K 0 t) → sx_C sL sx d 219 [.inr (.inl 54), .inl v] s K := by
  intro v s K hI pv hK
  obtain ⟨d, rfl⟩ : ∃ e, d = e + 2 := ⟨d - 2, by omega⟩
  refine sx_methL (wr := true) (n := 400) (n' := 400) (stop := [(5, [0, 1, 2, 3])]) (fun nn pc ls u => pc = 5 ∧ ∃ x2 : Nat, ls = [(0, .inr (.inl 54)), (1, .inl v), (2, .inl (x2 : Int)), (3, .inl 4)] ∧ cx_I u ∧ cx_F [(54, 54)] s u ∧ u.1 = s.1 ∧ (∀ j : Nat, j < x2 → u.2.1 54 j = v) ∧ x2 ≤ 4 ∧ nn = 4 - x2) hsL (e := eJ7_fill_53178) rfl ?_ ?_
  · exact w_dv_fill54 hI pv ⟨_, rfl, 0, rfl, hI, cx_F_refl _ _, rfl, fun j hj => absurd hj (by omega), by omega, rfl⟩
  · rintro nn pc ls u ⟨rfl, x2, rfl, i1, i2, i3, i4, i5, rfl⟩
    refine w_dv_fill54_5 i1 pv (by omega) (fun h => hK u i1 i2 i3 (fun j hj => i4 j (by omega))) (fun h hI2 => ⟨4 - (x2 + 1), by omega, rfl, x2 + 1, rfl, hI2, cx_F_ua rfl i2, i3, fun j hj => ?_, by omega, rfl⟩)
    show sx_ua u.2.1 54 ((x2 : Int)).toNat v 54 j = v
    rw [sx_ua_same]
    dsimp only
    by_cases q : j = x2
    · rw [if_pos (by omega)]
    · rw [if_neg (by omega)]
      exact i4 j (by omega)

theorem w_dv_fill34 {CALL : sx_Ca} {sL : Nat} {sx : Nat → Int32} {Q : Nat → sx_L → sx_S → Prop} {R : Int → sx_S → Prop} {s : sx_S} {v : Int} (hI : cx_I s) (pv : (-2147483648 ≤ v ∧ v ≤ 2147483647)) (hQ : Q 5 [(0, .inr (.inl 34)), (1, .inl v), (2, .inl 0), (3, .inl 32)] s) : sx_wp true sL sx eJ7_fill_53178 CALL [(5, [0, 1, 2, 3])] Q R 400 0 (sx_argsF 0 [.inr (.inl 34), .inl v]) [] s := by
  repeat' (first | (with_reducible (rintro _ rfl)) | (with_reducible intro _) | (refine And.intro ?_ ?_))
  all_goals (try dsimp only at *)
  all_goals (first | trivial | assumption | omega | (exfalso; omega) | skip)
theorem w_dv_fill34_5 {CALL : sx_Ca} {sL : Nat} {sx : Nat → Int32} {Q : Nat → sx_L → sx_S → Prop} {R : Int → sx_S → Prop} {s : sx_S} {v x2 : Int} (hI : cx_I s) (pv : (-2147483648 ≤ v ∧ v ≤ 2147483647)) (q2 : 0 ≤ x2 ∧ x2 ≤ 32) (hK : x2 = 32 → R 0 s) (hQ : x2 < 32 → cx_I (s.1, sx_ua s.2.1 34 x2.toNat v, s.2.2) → Q 5 [(0, .inr (.inl 34)), (1, .inl v), (2, .inl (x2 + 1)), (3, .inl 32)] (s.1, sx_ua s.2.1 34 x2.toNat v, s.2.2)) : sx_wp true sL sx eJ7_fill_53178 CALL [(5, [0, 1, 2, 3])] Q R 400 5 [(0, .inr (.inl 34)), (1, .inl v), (2, .inl x2), (3, .inl 32)] [] s := by
  have zzi : cx_I (s.1, sx_ua s.2.1 34 x2.toNat v, s.2.2) := cx_I_ua rfl rfl hI (by omega) (by omega)
  have zzy : sx_w true (x2 + 1) = x2 + 1 := px_wid (by omega) (by omega)
  repeat' (first | (with_reducible (rintro _ rfl)) | (with_reducible intro _) | (refine And.intro ?_ ?_))
  all_goals (try dsimp only at *)
  all_goals (first | trivial | assumption | omega | (exfalso; omega) | (exact hK (by omega)) | (have zz9 := hQ (by omega) zzi; rw [← zzy] at zz9; exact zz9) | skip)
theorem c_dv_fill34 {sL : Nat} {sx : Nat → Int32} (hsL : sL ≤ 3072) (d : Nat) (hd : 2 ≤ d) : ∀ (v : Int) (s : sx_S) (K : Int → sx_S → Prop), cx_I s → (-2147483648 ≤ v ∧ v ≤ 2147483647) → (∀ t, cx_I t → cx_F [(34, 34)] s t → t.1 = s.1 → (∀ j : Nat, j < 32 → t.2.1 34 j = v) → K 0 t) → sx_C sL sx d 219 [.inr (.inl 34), .inl v] s K := by
  intro v s K hI pv hK
  obtain ⟨d, rfl⟩ : ∃ e, d = e + 2 := ⟨d - 2, by omega⟩
  refine sx_methL (wr := true) (n := 400) (n' := 400) (stop := [(5, [0, 1, 2, 3])]) (fun nn pc ls u => pc = 5 ∧ ∃ x2 : Nat, ls = [(0, .inr (.inl 34)), (1, .inl v), (2, .inl (x2 : Int)), (3, .inl 32)] ∧ cx_I u ∧ cx_F [(34, 34)] s u ∧ u.1 = s.1 ∧ (∀ j : Nat, j < x2 → u.2.1 34 j = v) ∧ x2 ≤ 32 ∧ nn = 32 - x2) hsL (e := eJ7_fill_53178) rfl ?_ ?_
  · exact w_dv_fill34 hI pv ⟨_, rfl, 0, rfl, hI, cx_F_refl _ _, rfl, fun j hj => absurd hj (by omega), by omega, rfl⟩
  · rintro nn pc ls u ⟨rfl, x2, rfl, i1, i2, i3, i4, i5, rfl⟩
    refine w_dv_fill34_5 i1 pv (by omega) (fun h => hK u i1 i2 i3 (fun j hj => i4 j (by omega))) (fun h hI2 => ⟨32 - (x2 + 1), by omega, rfl, x2 + 1, rfl, hI2, cx_F_ua rfl i2, i3, fun j hj => ?_, by omega, rfl⟩)
    show sx_ua u.2.1 34 ((x2 : Int)).toNat v 34 j = v
    rw [sx_ua_same]
    dsimp only
    by_cases q : j = x2
    · rw [if_pos (by omega)]
    · rw [if_neg (by omega)]
      exact i4 j (by omega)

theorem w_dv_fill35 {CALL : sx_Ca} {sL : Nat} {sx : Nat → Int32} {Q : Nat → sx_L → sx_S → Prop} {R : Int → sx_S → Prop} {s : sx_S} {v : Int} (hI : cx_I s) (pv : (0 ≤ v ∧ v ≤ 4)) (hQ : Q 5 [(0, .inr (.inl 35)), (1, .inl v), (2, .inl 0), (3, .inl 32)] s) : sx_wp true sL sx eJ7_fill_53178 CALL [(5, [0, 1, 2, 3])] Q R 400 0 (sx_argsF 0 [.inr (.inl 35), .inl v]) [] s := by
  repeat' (first | (with_reducible (rintro _ rfl)) | (with_reducible intro _) | (refine And.intro ?_ ?_))
  all_goals (try dsimp only at *)
  all_goals (first | trivial | assumption | omega | (exfalso; omega) | skip)
theorem w_dv_fill35_5 {CALL : sx_Ca} {sL : Nat} {sx : Nat → Int32} {Q : Nat → sx_L → sx_S → Prop} {R : Int → sx_S → Prop} {s : sx_S} {v x2 : Int} (hI : cx_I s) (pv : (0 ≤ v ∧ v ≤ 4)) (q2 : 0 ≤ x2 ∧ x2 ≤ 32) (hK : x2 = 32 → R 0 s) (hQ : x2 < 32 → cx_I (s.1, sx_ua s.2.1 35 x2.toNat v, s.2.2) → Q 5 [(0, .inr (.inl 35)), (1, .inl v), (2, .inl (x2 + 1)), (3, .inl 32)] (s.1, sx_ua s.2.1 35 x2.toNat v, s.2.2)) : sx_wp true sL sx eJ7_fill_53178 CALL [(5, [0, 1, 2, 3])] Q R 400 5 [(0, .inr (.inl 35)), (1, .inl v), (2, .inl x2), (3, .inl 32)] [] s := by
  have zzi : cx_I (s.1, sx_ua s.2.1 35 x2.toNat v, s.2.2) := cx_I_ua rfl rfl hI (by omega) (by omega)
  have zzy : sx_w true (x2 + 1) = x2 + 1 := px_wid (by omega) (by omega)
  repeat' (first | (with_reducible (rintro _ rfl)) | (with_reducible intro _) | (refine And.intro ?_ ?_))
  all_goals (try dsimp only at *)
  all_goals (first | trivial | assumption | omega | (exfalso; omega) | (exact hK (by omega)) | (have zz9 := hQ (by omega) zzi; rw [← zzy] at zz9; exact zz9) | skip)
theorem c_dv_fill35 {sL : Nat} {sx : Nat → Int32} (hsL : sL ≤ 3072) (d : Nat) (hd : 2 ≤ d) : ∀ (v : Int) (s : sx_S) (K : Int → sx_S → Prop), cx_I s → (0 ≤ v ∧ v ≤ 4) → (∀ t, cx_I t → cx_F [(35, 35)] s t → t.1 = s.1 → (∀ j : Nat, j < 32 → t.2.1 35 j = v) → K 0 t) → sx_C sL sx d 219 [.inr (.inl 35), .inl v] s K := by
  intro v s K hI pv hK
  obtain ⟨d, rfl⟩ : ∃ e, d = e + 2 := ⟨d - 2, by omega⟩
  refine sx_methL (wr := true) (n := 400) (n' := 400) (stop := [(5, [0, 1, 2, 3])]) (fun nn pc ls u => pc = 5 ∧ ∃ x2 : Nat, ls = [(0, .inr (.inl 35)), (1, .inl v), (2, .inl (x2 : Int)), (3, .inl 32)] ∧ cx_I u ∧ cx_F [(35, 35)] s u ∧ u.1 = s.1 ∧ (∀ j : Nat, j < x2 → u.2.1 35 j = v) ∧ x2 ≤ 32 ∧ nn = 32 - x2) hsL (e := eJ7_fill_53178) rfl ?_ ?_
  · exact w_dv_fill35 hI pv ⟨_, rfl, 0, rfl, hI, cx_F_refl _ _, rfl, fun j hj => absurd hj (by omega), by omega, rfl⟩
  · rintro nn pc ls u ⟨rfl, x2, rfl, i1, i2, i3, i4, i5, rfl⟩
    refine w_dv_fill35_5 i1 pv (by omega) (fun h => hK u i1 i2 i3 (fun j hj => i4 j (by omega))) (fun h hI2 => ⟨32 - (x2 + 1), by omega, rfl, x2 + 1, rfl, hI2, cx_F_ua rfl i2, i3, fun j hj => ?_, by omega, rfl⟩)
    show sx_ua u.2.1 35 ((x2 : Int)).toNat v 35 j = v
    rw [sx_ua_same]
    dsimp only
    by_cases q : j = x2
    · rw [if_pos (by omega)]
    · rw [if_neg (by omega)]
      exact i4 j (by omega)

theorem w_dv_gv {CALL : sx_Ca} {sL : Nat} {sx : Nat → Int32} {Q : Nat → sx_L → sx_S → Prop} {R : Int → sx_S → Prop} (h_head : ∀ (a0 : Int) (s : sx_S) (K : Int → sx_S → Prop), cx_I s → (-2147483648 ≤ a0 ∧ a0 ≤ 2147483647) → (∀ z : Int, (0 ≤ a0 → a0 < s.1 11 6 → z = s.2.1 13 a0.toNat) → (a0 < 0 → z = -1) → K z s) → CALL 92 [.inr (.inl 11), .inl a0] s K) (h_fil53 : ∀ (v : Int) (s : sx_S) (K : Int → sx_S → Prop), cx_I s → (-2147483648 ≤ v ∧ v ≤ 2147483647) → (∀ t, cx_I t → cx_F [(53, 53)] s t → t.1 = s.1 → (∀ j : Nat, j < 32 → t.2.1 53 j = v) → K 0 t) → CALL 219 [.inr (.inl 53), .inl v] s K) (h_fil54 : ∀ (v : Int) (s : sx_S) (K : Int → sx_S → Prop), cx_I s → (-2147483648 ≤ v ∧ v ≤ 2147483647) → (∀ t, cx_I t → cx_F [(54, 54)] s t → t.1 = s.1 → (∀ j : Nat, j < 4 → t.2.1 54 j = v) → K 0 t) → CALL 219 [.inr (.inl 54), .inl v] s K) {s : sx_S} (hI : cx_I s) (p1 : 0 ≤ (s.1 38 8) ∧ (s.1 38 8) < s.1 11 6) (hQ : ∀ t, cx_I t → cx_F [(38, 38), (53, 54)] s t → (t.1 38 7 = (s.2.1 13 (s.1 38 8).toNat) ∧ ∀ k, k ≠ 7 → t.1 38 k = s.1 38 k) → (∀ j : Nat, j < 32 → t.2.1 53 j = 31) → (∀ j : Nat, j < 4 → t.2.1 54 j = -1) → Q 34 [(0, .inr (.inl 38)), (1, .inl 0)] t) : sx_wp true sL sx eX6_give CALL [(34, [0, 1]), (137, [0, 1, 2]), (191, [0, 2])] Q R 400 0 (sx_argsF 0 [.inr (.inl 38)]) [] s := by
  have h0 := hI.fld 11 6 (by decide) rfl
  have ra := hI.arr 13 (by decide) rfl (s.1 38 8).toNat
  refine And.intro (by first | exact hI | trivial) ?_
  repeat (first | (with_reducible (rintro _ rfl)) | (with_reducible intro _) | (refine And.intro ?_ ?_; (focus first | trivial | assumption | omega)))
  refine h_head (s.1 38 8) s _ hI (by omega) (fun v v1 v2 => ?_)
  obtain rfl := v1 p1.1 p1.2
  have iA : cx_I (sx_uf s.1 38 7 (s.2.1 13 (s.1 38 8).toNat), s.2) := cx_I_uf rfl rfl hI (by omega) (by omega)
  refine h_fil53 31 (sx_uf s.1 38 7 (s.2.1 13 (s.1 38 8).toNat), s.2) _ iA (by omega) (fun t1 i1 f1 e1 g1 => ?_)
  refine h_fil54 (-1) t1 _ i1 (by omega) (fun t2 i2 f2 e2 g2 => ?_)
  refine hQ t2 i2 (cx_F_step f2 rfl (cx_F_step f1 rfl (cx_F_uf rfl (cx_F_refl _ _)))) ⟨?_, fun k hk => ?_⟩ (fun j hj => ?_) g2
  · rw [e2, e1]
    show sx_uf s.1 38 7 (s.2.1 13 (s.1 38 8).toNat) 38 7 = _
    exact px_us _ _ _ _
  · rw [e2, e1]
    show sx_uf s.1 38 7 _ 38 k = _
    rw [sx_uf_if, if_neg (by omega)]
  · rw [(f2.same 53 rfl).2]
    exact g1 j hj

theorem w_dv_gv34y {CALL : sx_Ca} {sL : Nat} {sx : Nat → Int32} {Q : Nat → sx_L → sx_S → Prop} {R : Int → sx_S → Prop} (h_arity : ∀ (a0 : Int) (s : sx_S) (K : Int → sx_S → Prop), cx_I s → (-2147483648 ≤ a0 ∧ a0 ≤ 2147483647) → (∀ z : Int, (0 ≤ a0 → a0 < s.1 11 6 → z = s.2.1 16 a0.toNat) → (a0 < 0 → z = 0) → K z s) → CALL 94 [.inr (.inl 11), .inl a0] s K) (h_head : ∀ (a0 : Int) (s : sx_S) (K : Int → sx_S → Prop), cx_I s → (-2147483648 ≤ a0 ∧ a0 ≤ 2147483647) → (∀ z : Int, (0 ≤ a0 → a0 < s.1 11 6 → z = s.2.1 13 a0.toNat) → (a0 < 0 → z = -1) → K z s) → CALL 92 [.inr (.inl 11), .inl a0] s K) {s : sx_S} {x1 w lv : Int} (h_arg : ∀ K : Int → sx_S → Prop, K w s → CALL 95 [.inr (.inl 11), .inl (s.1 38 8), .inl x1] s K) (h_of : ∀ K : Int → sx_S → Prop, K lv s → CALL 47 [.inr (.inl 29), .inl (s.1 38 9), .inl (s.2.1 13 w.toNat)] s K) (hI : cx_I s) (p1 : 0 ≤ (s.1 38 8) ∧ (s.1 38 8) < s.1 11 6) (q1 : 0 ≤ x1 ∧ x1 < (s.2.1 16 (s.1 38 8).toNat) ∧ (s.2.1 16 (s.1 38 8).toNat) ≤ 4) (qw : 0 ≤ w ∧ w < s.1 11 6) (rl : -2147483648 ≤ lv ∧ lv ≤ 2147483647) (hQ : cx_I (s.1, sx_ua s.2.1 54 x1.toNat lv, s.2.2) → Q 34 [(0, .inr (.inl 38)), (1, .inl (x1 + 1))] (s.1, sx_ua s.2.1 54 x1.toNat lv, s.2.2)) : sx_wp true sL sx eX6_give CALL [(34, [0, 1]), (137, [0, 1, 2]), (191, [0, 2])] Q R 400 34 [(0, .inr (.inl 38)), (1, .inl x1)] [] s := by
  have h0 := hI.fld 11 6 (by decide) rfl
  have h13 := hI.arr 13 (by decide) rfl w.toNat
  have zzi : cx_I (s.1, sx_ua s.2.1 54 x1.toNat lv, s.2.2) := cx_I_ua rfl rfl hI (by omega) (by omega)
  have zzy : sx_w true (x1 + 1) = x1 + 1 := px_wid (by omega) (by omega)
  repeat' (first | (with_reducible (rintro _ rfl)) | (with_reducible intro _) | (refine And.intro ?_ ?_) | (refine h_arity (s.1 38 8) s _ hI (by omega) (fun v v1 v2 => ?_); obtain rfl := v1 p1.1 p1.2) | (refine h_arg _ ?_) | (refine h_head w s _ hI (by omega) (fun v v1 v2 => ?_); obtain rfl : v = s.2.1 13 w.toNat := v1 qw.1 qw.2) | (refine h_of _ ?_))
  all_goals (try dsimp only at *)
  all_goals (first | trivial | assumption | omega | (exfalso; omega) | (have zz9 := hQ zzi; rw [← zzy] at zz9; exact zz9) | skip)
theorem w_dv_gv34n {CALL : sx_Ca} {sL : Nat} {sx : Nat → Int32} {Q : Nat → sx_L → sx_S → Prop} {R : Int → sx_S → Prop} (h_arity : ∀ (a0 : Int) (s : sx_S) (K : Int → sx_S → Prop), cx_I s → (-2147483648 ≤ a0 ∧ a0 ≤ 2147483647) → (∀ z : Int, (0 ≤ a0 → a0 < s.1 11 6 → z = s.2.1 16 a0.toNat) → (a0 < 0 → z = 0) → K z s) → CALL 94 [.inr (.inl 11), .inl a0] s K) (h_dv_pclear46 : ∀ (s : sx_S) (K : Int → sx_S → Prop), cx_I s → (∀ (z : Int) (t : sx_S), cx_I t → cx_F [(46, 46)] s t → (t.1 46 6 = 0) → K z t) → CALL 58 [.inr (.inl 46)] s K) (h_dv_mark : ∀ (s : sx_S) (K : Int → sx_S → Prop), cx_I s → (∀ z : Int, (z = s.1 29 3) → K z s) → CALL 44 [.inr (.inl 29)] s K) (h_push : ∀ (a0 a1 a2 a3 : Int) (s : sx_S) (R : Int → sx_S → Prop), cx_I s → s.1 46 6 < 512 → (-2147483648 ≤ a0 ∧ a0 ≤ 2147483647) → (-2147483648 ≤ a1 ∧ a1 ≤ 2147483647) → (-2147483648 ≤ a2 ∧ a2 ≤ 2147483647) → (-2147483648 ≤ a3 ∧ a3 ≤ 2147483647) → (∀ z t, cx_I t → cx_F [(46, 52)] s t → dv_pu 46 (a0, a1, -1, -1, a2, a3) s t → R z t) → CALL 60 [.inr (.inl 46), .inl a0, .inl a1, .inl a2, .inl a3] s R) {s : sx_S} {x1 : Int} (hI : cx_I s) (p1 : 0 ≤ (s.1 38 8) ∧ (s.1 38 8) < s.1 11 6) (q1 : x1 = (s.2.1 16 (s.1 38 8).toNat) ∧ 0 ≤ (s.2.1 16 (s.1 38 8).toNat) ∧ (s.2.1 16 (s.1 38 8).toNat) ≤ 4) (hQ : ∀ t0 t, cx_I t0 → cx_F [(46, 46)] s t0 → t0.1 46 6 = 0 → cx_I t → cx_F [(46, 52)] t0 t → dv_pu 46 (t0.1 38 10, t0.1 38 11, -1, -1, t0.1 38 12, t0.1 29 3) t0 t → Q 137 [(0, .inr (.inl 38)), (1, .inl 1), (2, .inl 0)] t) : sx_wp true sL sx eX6_give CALL [(34, [0, 1]), (137, [0, 1, 2]), (191, [0, 2])] Q R 400 34 [(0, .inr (.inl 38)), (1, .inl x1)] [] s := by
  have h0 := hI.fld 11 6 (by decide) rfl
  repeat' (first | (with_reducible (rintro _ rfl)) | (with_reducible intro _) | (refine And.intro ?_ ?_) | (refine h_arity (s.1 38 8) s _ hI (by omega) (fun v v1 v2 => ?_); obtain rfl := v1 p1.1 p1.2) | (refine h_dv_pclear46 s _ hI (fun zz t0 i0 f0 e0 => ?_); have zza := i0.fld 38 10 (by decide) rfl; have zzb := i0.fld 38 11 (by decide) rfl; have zzc := i0.fld 38 12 (by decide) rfl; have zzd := i0.fld 29 3 (by decide) rfl) | (refine h_dv_mark t0 _ i0 (fun v v1 => ?_); obtain rfl := v1) | (refine h_push _ _ _ _ t0 _ i0 (by omega) zza zzb zzc (by omega) (fun z t t1 t2 t3 => ?_)))
  all_goals (try dsimp only at *)
  all_goals (first | trivial | assumption | omega | (exfalso; omega) | (exact hQ _ _ i0 f0 e0 t1 t2 t3) | skip)
theorem w_dv_gv137 {CALL : sx_Ca} {sL : Nat} {sx : Nat → Int32} {Q : Nat → sx_L → sx_S → Prop} {R : Int → sx_S → Prop} {G : Int → sx_S → Prop} (h_dv_pempty46 : ∀ (s : sx_S) (K : Int → sx_S → Prop), cx_I s → (∀ z : Int, (0 ≤ z ∧ z ≤ 1) → (s.1 46 6 = 0 → z = 1) → (s.1 46 6 ≠ 0 → z = 0) → K z s) → CALL 59 [.inr (.inl 46)] s K) (h_bind : ∀ (a0 a1 : Int) (s : sx_S) (R : Int → sx_S → Prop), cx_I s → (0 ≤ a0 ∧ a0 < 32) → (-2147483648 ≤ a1 ∧ a1 ≤ 2147483647) → (cx_I (s.1, sx_ua (sx_ua s.2.1 34 a0.toNat a1) 35 a0.toNat 0, s.2.2) → R 0 (s.1, sx_ua (sx_ua s.2.1 34 a0.toNat a1) 35 a0.toNat 0, s.2.2)) → CALL 7 [.inr (.inl 33), .inl a0, .inl a1] s R) {s : sx_S} {x1 x2 : Int} (h_fs : s.1 46 6 ≠ 0 → x1 ≠ 0 → ∀ K : Int → sx_S → Prop, (∀ z t, G z t → K z t) → CALL 80 [.inr (.inl 38)] s K) (hG : ∀ z t, G z t → z = 0 ∨ z = 1) (hI : cx_I s) (q1 : x1 = 0 ∨ x1 = 1) (q2 : 0 ≤ x2 ∧ x2 < 1000000) (ps : 0 ≤ (s.1 38 7) ∧ (s.1 38 7) < 32) (hK0 : x1 = 0 → R 0 s) (hQ1 : x1 = 1 → s.1 46 6 ≠ 0 → ∀ z t, G z t → Q 137 [(0, .inr (.inl 38)), (1, .inl z), (2, .inl (x2 + 1))] t) (hQ2 : x1 = 1 → s.1 46 6 = 0 → cx_I (s.1, sx_ua (sx_ua s.2.1 34 ((s.1 38 7)).toNat (s.1 38 10)) 35 ((s.1 38 7)).toNat 0, s.2.2) → Q 191 [(0, .inr (.inl 38)), (2, .inl 0)] (s.1, sx_ua (sx_ua s.2.1 34 ((s.1 38 7)).toNat (s.1 38 10)) 35 ((s.1 38 7)).toNat 0, s.2.2)) : sx_wp true sL sx eX6_give CALL [(34, [0, 1]), (137, [0, 1, 2]), (191, [0, 2])] Q R 400 137 [(0, .inr (.inl 38)), (1, .inl x1), (2, .inl x2)] [] s := by
  have h46 := hI.fld 46 6 (by decide) rfl
  have r10 := hI.fld 38 10 (by decide) rfl
  have zzy : sx_w true (x2 + 1) = x2 + 1 := px_wid (by omega) (by omega)
  repeat' (first | (with_reducible (rintro _ rfl)) | (with_reducible intro _) | (refine And.intro ?_ ?_) | (refine h_dv_pempty46 s _ hI (fun v v0 v1 v2 => ?_)) | (refine h_fs (by omega) (by omega) _ (fun z t zzt => ?_)) | (refine h_bind _ _ s _ hI ps r10 (fun zzb => ?_)))
  all_goals (try dsimp only at *)
  all_goals (first | trivial | assumption | omega | (exfalso; omega) | (exact hG _ _ zzt) | (exact hK0 (by omega)) | (have zz9 := hQ1 (by omega) (by omega) _ _ zzt; rw [← zzy] at zz9; exact zz9) | (exact hQ2 (by omega) (by omega) zzb) | skip)
theorem w_dv_gv191 {CALL : sx_Ca} {sL : Nat} {sx : Nat → Int32} {Q : Nat → sx_L → sx_S → Prop} {R : Int → sx_S → Prop} (h_arity : ∀ (a0 : Int) (s : sx_S) (K : Int → sx_S → Prop), cx_I s → (-2147483648 ≤ a0 ∧ a0 ≤ 2147483647) → (∀ z : Int, (0 ≤ a0 → a0 < s.1 11 6 → z = s.2.1 16 a0.toNat) → (a0 < 0 → z = 0) → K z s) → CALL 94 [.inr (.inl 11), .inl a0] s K) (h_add : ∀ (a0 a1 a2 : Int) (s : sx_S) (R : Int → sx_S → Prop), cx_I s → (0 ≤ a0 ∧ a0 < 32) → (-2147483648 ≤ a1 ∧ a1 ≤ 2147483647) → (-2147483648 ≤ a2 ∧ a2 ≤ 2147483647) → s.2.1 35 a0.toNat < 4 → (cx_I (s.1, sx_ua (sx_ua (sx_ua s.2.1 36 (a0 * 4 + s.2.1 35 a0.toNat).toNat a1) 37 (a0 * 4 + s.2.1 35 a0.toNat).toNat a2) 35 a0.toNat (s.2.1 35 a0.toNat + 1), s.2.2) → R 0 (s.1, sx_ua (sx_ua (sx_ua s.2.1 36 (a0 * 4 + s.2.1 35 a0.toNat).toNat a1) 37 (a0 * 4 + s.2.1 35 a0.toNat).toNat a2) 35 a0.toNat (s.2.1 35 a0.toNat + 1), s.2.2)) → CALL 8 [.inr (.inl 33), .inl a0, .inl a1, .inl a2] s R) {s : sx_S} {x2 v : Int} (h_va : 0 ≤ s.2.1 54 x2.toNat → ∀ K : Int → sx_S → Prop, K v s → CALL 48 [.inr (.inl 29), .inl (s.1 38 11), .inl (s.2.1 54 x2.toNat)] s K) (hI : cx_I s) (p1 : 0 ≤ (s.1 38 8) ∧ (s.1 38 8) < s.1 11 6) (q2 : 0 ≤ x2 ∧ x2 ≤ (s.2.1 16 (s.1 38 8).toNat) ∧ (s.2.1 16 (s.1 38 8).toNat) ≤ 4) (ps : 0 ≤ (s.1 38 7) ∧ (s.1 38 7) < 32) (rv : -2147483648 ≤ v ∧ v ≤ 2147483647) (h35 : s.2.1 35 (s.1 38 7).toNat ≤ x2) (hK : x2 = (s.2.1 16 (s.1 38 8).toNat) → R 1 s) (hQ0 : x2 < (s.2.1 16 (s.1 38 8).toNat) → (s.2.1 54 x2.toNat < 0 ∨ v < 0) → Q 191 [(0, .inr (.inl 38)), (2, .inl (x2 + 1))] s) (hQ1 : x2 < (s.2.1 16 (s.1 38 8).toNat) → 0 ≤ s.2.1 54 x2.toNat → 0 ≤ v → cx_I (s.1, sx_ua (sx_ua (sx_ua s.2.1 36 ((s.1 38 7) * 4 + s.2.1 35 ((s.1 38 7)).toNat).toNat (v)) 37 ((s.1 38 7) * 4 + s.2.1 35 ((s.1 38 7)).toNat).toNat (x2)) 35 ((s.1 38 7)).toNat (s.2.1 35 ((s.1 38 7)).toNat + 1), s.2.2) → Q 191 [(0, .inr (.inl 38)), (2, .inl (x2 + 1))] (s.1, sx_ua (sx_ua (sx_ua s.2.1 36 ((s.1 38 7) * 4 + s.2.1 35 ((s.1 38 7)).toNat).toNat (v)) 37 ((s.1 38 7) * 4 + s.2.1 35 ((s.1 38 7)).toNat).toNat (x2)) 35 ((s.1 38 7)).toNat (s.2.1 35 ((s.1 38 7)).toNat + 1), s.2.2)) : sx_wp true sL sx eX6_give CALL [(34, [0, 1]), (137, [0, 1, 2]), (191, [0, 2])] Q R 400 191 [(0, .inr (.inl 38)), (2, .inl x2)] [] s := by
  have h0 := hI.fld 11 6 (by decide) rfl
  have r54 := hI.arr 54 (by decide) rfl x2.toNat
  have zzy : sx_w true (x2 + 1) = x2 + 1 := px_wid (by omega) (by omega)
  repeat' (first | (with_reducible (rintro _ rfl)) | (with_reducible intro _) | (refine And.intro ?_ ?_) | (refine h_arity (s.1 38 8) s _ hI (by omega) (fun v v1 v2 => ?_); obtain rfl := v1 p1.1 p1.2) | (refine h_va (by omega) _ ?_) | (refine h_add _ _ _ s _ hI ps (by omega) (by omega) (by omega) (fun zzb => ?_)))
  all_goals (try dsimp only at *)
  all_goals (first | trivial | assumption | omega | (exfalso; omega) | (exact hK (by omega)) | (have zz9 := hQ1 (by omega) (by omega) (by omega) zzb; rw [← zzy] at zz9; exact zz9) | (have zz9 := hQ0 (by omega) (by omega); rw [← zzy] at zz9; exact zz9) | skip)
