/-! ===== the desk's solver: sets of ARGs ===== -/
theorem w_dv_isu {CALL : sx_Ca} {sL : Nat} {sx : Nat → Int32} {Q : Nat → sx_L → sx_S → Prop} {R : Int → sx_S → Prop} (h_kind : ∀ (a0 : Int) (s : sx_S) (K : Int → sx_S → Prop), cx_I s → (-2147483648 ≤ a0 ∧ a0 ≤ 2147483647) → (∀ z : Int, (0 ≤ a0 → a0 < s.1 11 6 → z = s.2.1 12 a0.toNat) → (a0 < 0 → z = -1) → K z s) → CALL 91 [.inr (.inl 11), .inl a0] s K) {s : sx_S} {a0 : Int} (hI : cx_I s) (p0 : 0 ≤ a0 ∧ a0 < s.1 11 6) (hK1 : s.2.1 12 a0.toNat = 3 → R 1 s) (hK0 : s.2.1 12 a0.toNat ≠ 3 → R 0 s) : sx_wp true sL sx eX6_isUnknown CALL [] Q R 400 0 (sx_argsF 0 [.inr (.inl 38), .inl a0]) [] s := by
  have h0 := hI.fld 11 6 (by decide) rfl
  have h12 := hI.arr 12 (by decide) rfl a0.toNat
  repeat' (first | (with_reducible (rintro _ rfl)) | (with_reducible intro _) | (refine And.intro ?_ ?_) | (refine h_kind _ _ _ hI (by omega) (fun v v1 v2 => ?_); obtain rfl := v1 p0.1 p0.2))
  all_goals (try dsimp only at *)
  all_goals (first | trivial | assumption | omega | (exfalso; omega) | (exact hK1 (by omega)) | (exact hK0 (by omega)) | skip)
theorem c_dv_isu {sL : Nat} {sx : Nat → Int32} (hsL : sL ≤ 3072) (d : Nat) (hd : 3 ≤ d) : ∀ (a0 : Int) (s : sx_S) (K : Int → sx_S → Prop), cx_I s → (0 ≤ a0 ∧ a0 < s.1 11 6) → (s.2.1 12 a0.toNat = 3 → K 1 s) → (s.2.1 12 a0.toNat ≠ 3 → K 0 s) → sx_C sL sx d 74 [.inr (.inl 38), .inl a0] s K := by
  intro a0 s K hI p0 hK1 hK0
  obtain ⟨d, rfl⟩ : ∃ e, d = e + 2 := ⟨d - 2, by omega⟩
  exact sx_meth (wr := true) (n := 400) hsL (e := eX6_isUnknown) rfl (w_dv_isu (Q := fun _ _ _ => False) (c_dz_kind hsL (d + 1) (by omega)) hI p0 hK1 hK0)
theorem dv_pow4 {n : Nat} (h : n ≤ 4) : (2 : Nat) ^ n ≤ 16 ∧ 1 ≤ (2 : Nat) ^ n := by
  have : n = 0 ∨ n = 1 ∨ n = 2 ∨ n = 3 ∨ n = 4 := by omega
  rcases this with rfl | rfl | rfl | rfl | rfl <;> decide
theorem w_dv_ala {CALL : sx_Ca} {sL : Nat} {sx : Nat → Int32} {Q : Nat → sx_L → sx_S → Prop} {R : Int → sx_S → Prop} (h_arity : ∀ (a0 : Int) (s : sx_S) (K : Int → sx_S → Prop), cx_I s → (-2147483648 ≤ a0 ∧ a0 ≤ 2147483647) → (∀ z : Int, (0 ≤ a0 → a0 < s.1 11 6 → z = s.2.1 16 a0.toNat) → (a0 < 0 → z = 0) → K z s) → CALL 94 [.inr (.inl 11), .inl a0] s K) {s : sx_S} {a0 : Int} {n : Nat} (hI : cx_I s) (p0 : 0 ≤ a0 ∧ a0 < s.1 11 6) (e16 : s.2.1 16 a0.toNat = (n : Int)) (hn : n ≤ 4) (hK : R (((2 ^ n : Nat) : Int) - 1) s) : sx_wp true sL sx eX6_allArguments CALL [] Q R 400 0 (sx_argsF 0 [.inr (.inl 38), .inl a0]) [] s := by
  have h0 := hI.fld 11 6 (by decide) rfl
  have hp := dv_pow4 hn
  have zz1 : sx_w true (dv_shl 1 (n : Int) - 1) = ((2 ^ n : Nat) : Int) - 1 := by
    rw [dv_shl1 (by omega), px_wid (by omega) (by omega)]
  repeat' (first | (with_reducible (rintro _ rfl)) | (with_reducible intro _) | (refine And.intro ?_ ?_) | (refine h_arity _ _ _ hI (by omega) (fun v v1 v2 => ?_); obtain rfl : v = (n : Int) := (v1 p0.1 p0.2).trans e16))
  all_goals (try dsimp only at *)
  all_goals (first | trivial | assumption | omega | (exfalso; omega) | (show R _ _; rw [← zz1] at hK; exact hK) | (rw [← zz1] at hK; exact hK) | skip)
theorem c_dv_ala {sL : Nat} {sx : Nat → Int32} (hsL : sL ≤ 3072) (d : Nat) (hd : 3 ≤ d) : ∀ (a0 : Int) (n : Nat) (s : sx_S) (K : Int → sx_S → Prop), cx_I s → (0 ≤ a0 ∧ a0 < s.1 11 6) → s.2.1 16 a0.toNat = (n : Int) → n ≤ 4 → K (((2 ^ n : Nat) : Int) - 1) s → sx_C sL sx d 75 [.inr (.inl 38), .inl a0] s K := by
  intro a0 n s K hI p0 e16 hn hK
  obtain ⟨d, rfl⟩ : ∃ e, d = e + 2 := ⟨d - 2, by omega⟩
  exact sx_meth (wr := true) (n := 400) hsL (e := eX6_allArguments) rfl (w_dv_ala (Q := fun _ _ _ => False) (c_dz_arity hsL (d + 1) (by omega)) hI p0 e16 hn hK)
theorem w_dv_eqa {CALL : sx_Ca} {sL : Nat} {sx : Nat → Int32} {Q : Nat → sx_L → sx_S → Prop} {R : Int → sx_S → Prop} {s : sx_S} (hQ : Q 4 [(0, .inr (.inl 38)), (1, .inl 0), (2, .inl 0)] s) : sx_wp true sL sx eX6_equalArguments CALL [(4, [0, 1, 2])] Q R 400 0 (sx_argsF 0 [.inr (.inl 38)]) [] s := hQ
theorem w_dv_eqa4 {CALL : sx_Ca} {sL : Nat} {sx : Nat → Int32} {Q : Nat → sx_L → sx_S → Prop} {R : Int → sx_S → Prop} (h_arity : ∀ (a0 : Int) (s : sx_S) (K : Int → sx_S → Prop), cx_I s → (-2147483648 ≤ a0 ∧ a0 ≤ 2147483647) → (∀ z : Int, (0 ≤ a0 → a0 < s.1 11 6 → z = s.2.1 16 a0.toNat) → (a0 < 0 → z = 0) → K z s) → CALL 94 [.inr (.inl 11), .inl a0] s K) (h_head : ∀ (a0 : Int) (s : sx_S) (K : Int → sx_S → Prop), cx_I s → (-2147483648 ≤ a0 ∧ a0 ≤ 2147483647) → (∀ z : Int, (0 ≤ a0 → a0 < s.1 11 6 → z = s.2.1 13 a0.toNat) → (a0 < 0 → z = -1) → K z s) → CALL 92 [.inr (.inl 11), .inl a0] s K) {s : sx_S} {x1 x2 w w' lv lv' n : Int} (h_arg1 : x2 < n → ∀ K : Int → sx_S → Prop, K w s → CALL 95 [.inr (.inl 11), .inl (s.1 38 8), .inl x2] s K) (h_arg2 : x2 < n → ∀ K : Int → sx_S → Prop, K w' s → CALL 95 [.inr (.inl 11), .inl (s.1 38 10), .inl x2] s K) (h_of1 : x2 < n → ∀ K : Int → sx_S → Prop, K lv s → CALL 47 [.inr (.inl 29), .inl (s.1 38 9), .inl (s.2.1 13 w.toNat)] s K) (h_of2 : x2 < n → ∀ K : Int → sx_S → Prop, K lv' s → CALL 47 [.inr (.inl 29), .inl (s.1 38 11), .inl (s.2.1 13 w'.toNat)] s K) (hI : cx_I s) (p0 : 0 ≤ (s.1 38 8) ∧ (s.1 38 8) < s.1 11 6) (q1 : -2147483648 ≤ x1 ∧ x1 ≤ 2147483647) (q2 : 0 ≤ x2 ∧ x2 ≤ n ∧ n ≤ 4) (en : s.2.1 16 (s.1 38 8).toNat = n) (qw : x2 < n → (0 ≤ w ∧ w < s.1 11 6) ∧ (0 ≤ w' ∧ w' < s.1 11 6)) (rl : -2147483648 ≤ lv ∧ lv ≤ 2147483647) (rl' : -2147483648 ≤ lv' ∧ lv' ≤ 2147483647) (hK : x2 = n → R x1 s) (hQ1 : x2 < n → lv = lv' → Q 4 [(0, .inr (.inl 38)), (1, .inl (dv_or x1 (dv_shl 1 x2))), (2, .inl (x2 + 1))] s) (hQ2 : x2 < n → lv ≠ lv' → Q 4 [(0, .inr (.inl 38)), (1, .inl (dv_or x1 0)), (2, .inl (x2 + 1))] s) : sx_wp true sL sx eX6_equalArguments CALL [(4, [0, 1, 2])] Q R 400 4 [(0, .inr (.inl 38)), (1, .inl x1), (2, .inl x2)] [] s := by
  have h0 := hI.fld 11 6 (by decide) rfl
  have h13 := hI.arr 13 (by decide) rfl w.toNat
  have h13' := hI.arr 13 (by decide) rfl w'.toNat
  have zzy : sx_w true (x2 + 1) = x2 + 1 := px_wid (by omega) (by omega)
  repeat' (first | (with_reducible (rintro _ rfl)) | (with_reducible intro _) | (refine And.intro ?_ ?_) | (refine h_arity _ _ _ hI (by omega) (fun v v1 v2 => ?_); obtain rfl : v = n := (v1 p0.1 p0.2).trans en) | (refine h_arg1 (by omega) _ ?_) | (refine h_arg2 (by omega) _ ?_) | (refine h_head w _ _ hI (by have := qw (by omega); omega) (fun v v1 v2 => ?_); obtain rfl : v = s.2.1 13 w.toNat := v1 (qw (by omega)).1.1 (qw (by omega)).1.2) | (refine h_head w' _ _ hI (by have := qw (by omega); omega) (fun v v1 v2 => ?_); obtain rfl : v = s.2.1 13 w'.toNat := v1 (qw (by omega)).2.1 (qw (by omega)).2.2) | (refine h_of1 (by omega) _ ?_) | (refine h_of2 (by omega) _ ?_))
  all_goals (try dsimp only at *)
  all_goals (first | trivial | assumption | omega | (exfalso; omega) | (exact hK (by omega)) | (have zz9 := hQ1 (by omega) (by omega); rw [← zzy] at zz9; exact zz9) | (have zz9 := hQ2 (by omega) (by omega); rw [← zzy] at zz9; exact zz9) | skip)

theorem c_dv_eqa {sL : Nat} {sx : Nat → Int32} (hsL : sL ≤ 3072) (d : Nat) (hd : 3 ≤ d) : ∀ (F F' : rf_N) (c c' : List (Int × Int)) (hi hi' : Int) (s : sx_S) (K : Int → sx_S → Prop), cx_I s → (0 ≤ (s.1 38 8) ∧ (s.1 38 8) < s.1 11 6) → (0 ≤ (s.1 38 10) ∧ (s.1 38 10) < s.1 11 6) → dz_nd s F (s.2.1 14 (s.1 38 8).toNat) → dz_nd s F' (s.2.1 14 (s.1 38 10).toNat) → s.2.1 16 (s.1 38 8).toNat = (rf_len F : Int) → rf_len F ≤ 4 → rf_len F' = rf_len F → dv_c s c hi (s.1 38 9) → hi ≤ s.1 29 3 → dv_c s c' hi' (s.1 38 11) → hi' ≤ s.1 29 3 → (∀ z : Int, 0 ≤ z → z < ((2 ^ rf_len F : Nat) : Int) → (∀ i : Nat, i < rf_len F → dv_tb z i = decide (dv_lk c ((dz_hs F).getD i (-1)) = dv_lk c' ((dz_hs F').getD i (-1)))) → K z s) → sx_C sL sx d 76 [.inr (.inl 38)] s K := by
  intro F F' c c' hi hi' s K hI p0 p0' hF hF' h16 hl hl' hc hh hc' hh' hK
  have h0 := hI.fld 11 6 (by decide) rfl
  obtain ⟨d, rfl⟩ : ∃ e, d = e + 2 := ⟨d - 2, by omega⟩
  refine sx_methL (wr := true) (n := 400) (n' := 400) (stop := [(4, [0, 1, 2])]) (fun nn pc ls u => pc = 4 ∧ u = s ∧ ∃ (x1 : Int) (x2 : Nat), ls = [(0, .inr (.inl 38)), (1, .inl x1), (2, .inl (x2 : Int))] ∧ (0 ≤ x1 ∧ x1 < ((2 ^ x2 : Nat) : Int)) ∧ (∀ i : Nat, i < x2 → dv_tb x1 i = decide (dv_lk c ((dz_hs F).getD i (-1)) = dv_lk c' ((dz_hs F').getD i (-1)))) ∧ x2 ≤ rf_len F ∧ nn = rf_len F - x2) hsL (e := eX6_equalArguments) rfl ?_ ?_
  · exact w_dv_eqa ⟨_, rfl, rfl, 0, 0, rfl, ⟨by omega, by decide⟩, fun i hi => absurd hi (by omega), by omega, rfl⟩
  · rintro nn pc ls u ⟨rfl, rfl, x1, x2, rfl, i1, i2, i3, rfl⟩
    have hp := dv_pow4 (n := x2) (by omega)
    by_cases hx : x2 < rf_len F
    · obtain ⟨w, hw⟩ := dv_drx x2 hF
      obtain ⟨w1, w2⟩ := dv_nth hx hw
      obtain ⟨w', hw'⟩ := dv_drx x2 hF'
      obtain ⟨w1', w2'⟩ := dv_nth (by omega) hw'
      have r13 := hI.arr 13 (by decide) rfl w.toNat
      have r13' := hI.arr 13 (by decide) rfl w'.toNat
      obtain ⟨a1, a2, a3⟩ := dv_add i1.1 (by omega) i1.2
      have stp : ∀ y : Int, (0 ≤ y ∧ y < ((2 ^ (x2 + 1) : Nat) : Int)) → (∀ i : Nat, i < x2 + 1 → dv_tb y i = decide (dv_lk c ((dz_hs F).getD i (-1)) = dv_lk c' ((dz_hs F').getD i (-1)))) → ∃ m', m' < rf_len F - x2 ∧ (4 = 4 ∧ u = u ∧ ∃ (x1 : Int) (x3 : Nat), ([(0, .inr (.inl 38)), (1, .inl y), (2, .inl ((x2 : Int) + 1))] : sx_L) = [(0, .inr (.inl 38)), (1, .inl x1), (2, .inl (x3 : Int))] ∧ (0 ≤ x1 ∧ x1 < ((2 ^ x3 : Nat) : Int)) ∧ (∀ i : Nat, i < x3 → dv_tb x1 i = decide (dv_lk c ((dz_hs F).getD i (-1)) = dv_lk c' ((dz_hs F').getD i (-1)))) ∧ x3 ≤ rf_len F ∧ m' = rf_len F - x3) := fun y y1 y2 => ⟨rf_len F - (x2 + 1), by omega, rfl, rfl, y, x2 + 1, rfl, y1, y2, by omega, rfl⟩
      refine w_dv_eqa4 (w := w) (w' := w') (lv := dv_lk c ((dz_hs F).getD x2 (-1))) (lv' := dv_lk c' ((dz_hs F').getD x2 (-1))) (n := (rf_len F : Int)) (c_dz_arity hsL (d + 1) (by omega)) (c_dz_head hsL (d + 1) (by omega)) (fun _ K hK => ?_) (fun _ K hK => ?_) (fun _ K hK => ?_) (fun _ K hK => ?_) hI p0 (by omega) (by omega) h16 (fun _ => ⟨w1, w1'⟩) (dv_lk_rng hI hc _) (dv_lk_rng hI hc' _) (fun h => absurd h (by omega)) (fun _ he => ?_) (fun _ he => ?_)
      · refine c_dz_arg hsL (d + 1) (by omega) _ _ F _ _ hI p0 (by omega) hF (fun z _ z2 => ?_)
        rw [show ((x2 : Int)).toNat = x2 by omega] at z2
        rw [dv_nd1 z2 hw]
        exact hK
      · refine c_dz_arg hsL (d + 1) (by omega) _ _ F' _ _ hI p0' (by omega) hF' (fun z _ z2 => ?_)
        rw [show ((x2 : Int)).toNat = x2 by omega] at z2
        rw [dv_nd1 z2 hw']
        exact hK
      · rw [w2] at r13 ⊢
        exact c_dv_of hsL (d + 1) (by omega) _ _ hi c _ _ hI r13 hc hh hK
      · rw [w2'] at r13' ⊢
        exact c_dv_of hsL (d + 1) (by omega) _ _ hi' c' _ _ hI r13' hc' hh' hK
      · rw [a1]
        refine stp _ ⟨by omega, a2⟩ (fun i hi'' => ?_)
        rw [a3 i (by omega)]
        by_cases hq : i = x2
        · rw [hq, decide_eq_true he]
          simp
        · rw [i2 i (by omega)]
          simp [hq]
      · rw [dv_or0 i1.1 (by omega)]
        have p' : (2 : Nat) ^ (x2 + 1) = 2 * 2 ^ x2 := Nat.pow_succ'
        refine stp _ ⟨i1.1, by omega⟩ (fun i hi'' => ?_)
        by_cases hq : i = x2
        · rw [hq, decide_eq_false he]
          exact dv_tb_hi i1.2 (Nat.le_refl _)
        · exact i2 i (by omega)
    · have hx' : x2 = rf_len F := by omega
      refine w_dv_eqa4 (w := 0) (w' := 0) (lv := 0) (lv' := 0) (n := (rf_len F : Int)) (c_dz_arity hsL (d + 1) (by omega)) (c_dz_head hsL (d + 1) (by omega)) (fun h => absurd h (by omega)) (fun h => absurd h (by omega)) (fun h => absurd h (by omega)) (fun h => absurd h (by omega)) hI p0 (by omega) (by omega) h16 (fun h => absurd h (by omega)) (by omega) (by omega) (fun _ => ?_) (fun h => absurd h (by omega)) (fun h => absurd h (by omega))
      rw [hx'] at i1 i2
      exact hK x1 i1.1 i1.2 i2
/-- allowed: bound inside, or one of the own -/
def dv_al (s : sx_S) (v : Int) : Prop := s.1 38 12 ≤ v ∨ (0 ≤ v ∧ ∃ j : Nat, j < 4 ∧ s.2.1 54 j = v)
theorem dv_or1 {b : Int} (h : b = 0 ∨ b = 1) : dv_or b 1 = 1 ∧ dv_or b 0 = b := by
  rcases h with rfl | rfl <;> decide
theorem w_dv_isa {CALL : sx_Ca} {sL : Nat} {sx : Nat → Int32} {Q : Nat → sx_L → sx_S → Prop} {R : Int → sx_S → Prop} {s : sx_S} {a0 : Int} (hI : cx_I s) (p0 : -2147483648 ≤ a0 ∧ a0 ≤ 2147483647) (hQ1 : s.1 38 12 ≤ a0 → Q 16 [(0, .inr (.inl 38)), (1, .inl a0), (2, .inl 1), (3, .inl 0)] s) (hQ0 : a0 < s.1 38 12 → Q 16 [(0, .inr (.inl 38)), (1, .inl a0), (2, .inl 0), (3, .inl 0)] s) : sx_wp true sL sx eX6_isAllowed CALL [(16, [0, 1, 2, 3])] Q R 400 0 (sx_argsF 0 [.inr (.inl 38), .inl a0]) [] s := by
  have h12 := hI.fld 38 12 (by decide) rfl
  repeat' (first | (with_reducible (rintro _ rfl)) | (with_reducible intro _) | (refine And.intro ?_ ?_))
  all_goals (try dsimp only at *)
  all_goals (first | trivial | assumption | omega | (exfalso; omega) | (exact hQ1 (by omega)) | (exact hQ0 (by omega)) | skip)
theorem w_dv_isa16 {CALL : sx_Ca} {sL : Nat} {sx : Nat → Int32} {Q : Nat → sx_L → sx_S → Prop} {R : Int → sx_S → Prop} {s : sx_S} {a0 x2 x3 : Int} (hI : cx_I s) (p0 : -2147483648 ≤ a0 ∧ a0 ≤ 2147483647) (q2 : x2 = 0 ∨ x2 = 1) (q3 : 0 ≤ x3 ∧ x3 ≤ 4) (hK : x3 = 4 → R x2 s) (hQ1 : x3 < 4 → 0 ≤ a0 → s.2.1 54 x3.toNat = a0 → Q 16 [(0, .inr (.inl 38)), (1, .inl a0), (2, .inl (dv_or x2 1)), (3, .inl (x3 + 1))] s) (hQ0 : x3 < 4 → (a0 < 0 ∨ s.2.1 54 x3.toNat ≠ a0) → Q 16 [(0, .inr (.inl 38)), (1, .inl a0), (2, .inl (dv_or x2 0)), (3, .inl (x3 + 1))] s) : sx_wp true sL sx eX6_isAllowed CALL [(16, [0, 1, 2, 3])] Q R 400 16 [(0, .inr (.inl 38)), (1, .inl a0), (2, .inl x2), (3, .inl x3)] [] s := by
  have h54 := hI.arr 54 (by decide) rfl x3.toNat
  have zzy : sx_w true (x3 + 1) = x3 + 1 := px_wid (by omega) (by omega)
  repeat' (first | (with_reducible (rintro _ rfl)) | (with_reducible intro _) | (refine And.intro ?_ ?_))
  all_goals (try dsimp only at *)
  all_goals (first | trivial | assumption | omega | (exfalso; omega) | (exact hK (by omega)) | (have zz9 := hQ1 (by omega) (by omega) (by omega); rw [← zzy] at zz9; exact zz9) | (have zz9 := hQ0 (by omega) (by omega); rw [← zzy] at zz9; exact zz9) | skip)
theorem c_dv_isa {sL : Nat} {sx : Nat → Int32} (hsL : sL ≤ 3072) (d : Nat) (hd : 2 ≤ d) : ∀ (a0 : Int) (s : sx_S) (K : Int → sx_S → Prop), cx_I s → (-2147483648 ≤ a0 ∧ a0 ≤ 2147483647) → (dv_al s a0 → K 1 s) → (¬ dv_al s a0 → K 0 s) → sx_C sL sx d 83 [.inr (.inl 38), .inl a0] s K := by
  intro a0 s K hI p0 hK1 hK0
  obtain ⟨d, rfl⟩ : ∃ e, d = e + 2 := ⟨d - 2, by omega⟩
  refine sx_methL (wr := true) (n := 400) (n' := 400) (stop := [(16, [0, 1, 2, 3])]) (fun nn pc ls u => pc = 16 ∧ u = s ∧ ∃ (x2 : Int) (x3 : Nat), ls = [(0, .inr (.inl 38)), (1, .inl a0), (2, .inl x2), (3, .inl (x3 : Int))] ∧ (x2 = 0 ∨ x2 = 1) ∧ (x2 = 1 ↔ s.1 38 12 ≤ a0 ∨ (0 ≤ a0 ∧ ∃ j : Nat, j < x3 ∧ s.2.1 54 j = a0)) ∧ x3 ≤ 4 ∧ nn = 4 - x3) hsL (e := eX6_isAllowed) rfl ?_ ?_
  · refine w_dv_isa hI p0 (fun h => ⟨_, rfl, rfl, 1, 0, rfl, Or.inr rfl, ⟨fun _ => Or.inl h, fun _ => rfl⟩, by omega, rfl⟩) (fun h => ⟨_, rfl, rfl, 0, 0, rfl, Or.inl rfl, ⟨fun q => absurd q (by decide), fun q => ?_⟩, by omega, rfl⟩)
    rcases q with q | ⟨_, j, hj, _⟩
    · omega
    · omega
  · rintro nn pc ls u ⟨rfl, rfl, x2, x3, rfl, i1, i2, i3, rfl⟩
    obtain ⟨o1, o2⟩ := dv_or1 i1
    refine w_dv_isa16 hI p0 i1 (by omega) (fun h => ?_) (fun h h1 h2 => ?_) (fun h h1 => ?_)
    · have e4 : x3 = 4 := by omega
      rw [e4] at i2
      rcases i1 with q | q
      · rw [q]
        exact hK0 (fun ha => by
          have := i2.mpr ha
          omega)
      · rw [q]
        exact hK1 (i2.mp q)
    · rw [o1]
      exact ⟨4 - (x3 + 1), by omega, rfl, rfl, 1, x3 + 1, rfl, Or.inr rfl, ⟨fun _ => Or.inr ⟨h1, x3, by omega, h2⟩, fun _ => rfl⟩, by omega, rfl⟩
    · rw [o2]
      refine ⟨4 - (x3 + 1), by omega, rfl, rfl, x2, x3 + 1, rfl, i1, ⟨fun q => ?_, fun q => i2.mpr ?_⟩, by omega, rfl⟩
      · rcases i2.mp q with q | ⟨q1, j, q2, q3⟩
        · exact Or.inl q
        · exact Or.inr ⟨q1, j, by omega, q3⟩
      · rcases q with q | ⟨q1, j, q2, q3⟩
        · exact Or.inl q
        · refine Or.inr ⟨q1, j, ?_, q3⟩
          by_cases hj : j = x3
          · rw [hj] at q3
            rcases h1 with h1 | h1
            · omega
            · exact absurd q3 h1
          · omega
theorem w_dv_alw {CALL : sx_Ca} {sL : Nat} {sx : Nat → Int32} {Q : Nat → sx_L → sx_S → Prop} {R : Int → sx_S → Prop} {s : sx_S} {a0 a1 : Int} (hQ : Q 5 [(0, .inr (.inl 38)), (1, .inl a0), (2, .inl a1), (3, .inl 0), (4, .inl 0)] s) : sx_wp true sL sx eX6_allowedArguments CALL [(5, [0, 1, 2, 3, 4])] Q R 400 0 (sx_argsF 0 [.inr (.inl 38), .inl a0, .inl a1]) [] s := hQ
theorem w_dv_alw5 {CALL : sx_Ca} {sL : Nat} {sx : Nat → Int32} {Q : Nat → sx_L → sx_S → Prop} {R : Int → sx_S → Prop} (h_arity : ∀ (a0 : Int) (s : sx_S) (K : Int → sx_S → Prop), cx_I s → (-2147483648 ≤ a0 ∧ a0 ≤ 2147483647) → (∀ z : Int, (0 ≤ a0 → a0 < s.1 11 6 → z = s.2.1 16 a0.toNat) → (a0 < 0 → z = 0) → K z s) → CALL 94 [.inr (.inl 11), .inl a0] s K) (h_head : ∀ (a0 : Int) (s : sx_S) (K : Int → sx_S → Prop), cx_I s → (-2147483648 ≤ a0 ∧ a0 ≤ 2147483647) → (∀ z : Int, (0 ≤ a0 → a0 < s.1 11 6 → z = s.2.1 13 a0.toNat) → (a0 < 0 → z = -1) → K z s) → CALL 92 [.inr (.inl 11), .inl a0] s K) (h_isa : ∀ (a0 : Int) (s : sx_S) (K : Int → sx_S → Prop), cx_I s → (-2147483648 ≤ a0 ∧ a0 ≤ 2147483647) → (dv_al s a0 → K 1 s) → (¬ dv_al s a0 → K 0 s) → CALL 83 [.inr (.inl 38), .inl a0] s K) {s : sx_S} {a0 a1 x3 x4 w lv n : Int} (h_arg : x4 < n → ∀ K : Int → sx_S → Prop, K w s → CALL 95 [.inr (.inl 11), .inl a0, .inl x4] s K) (h_of : x4 < n → ∀ K : Int → sx_S → Prop, K lv s → CALL 47 [.inr (.inl 29), .inl a1, .inl (s.2.1 13 w.toNat)] s K) (hI : cx_I s) (p0 : 0 ≤ a0 ∧ a0 < s.1 11 6) (p1 : -2147483648 ≤ a1 ∧ a1 ≤ 2147483647) (q3 : -2147483648 ≤ x3 ∧ x3 ≤ 2147483647) (q4 : 0 ≤ x4 ∧ x4 ≤ n ∧ n ≤ 4) (en : s.2.1 16 a0.toNat = n) (qw : x4 < n → 0 ≤ w ∧ w < s.1 11 6) (rl : -2147483648 ≤ lv ∧ lv ≤ 2147483647) (hK : x4 = n → R x3 s) (hQ1 : x4 < n → dv_al s lv → Q 5 [(0, .inr (.inl 38)), (1, .inl a0), (2, .inl a1), (3, .inl (dv_or x3 (dv_shl 1 x4))), (4, .inl (x4 + 1))] s) (hQ2 : x4 < n → ¬ dv_al s lv → Q 5 [(0, .inr (.inl 38)), (1, .inl a0), (2, .inl a1), (3, .inl (dv_or x3 0)), (4, .inl (x4 + 1))] s) : sx_wp true sL sx eX6_allowedArguments CALL [(5, [0, 1, 2, 3, 4])] Q R 400 5 [(0, .inr (.inl 38)), (1, .inl a0), (2, .inl a1), (3, .inl x3), (4, .inl x4)] [] s := by
  have h0 := hI.fld 11 6 (by decide) rfl
  have h13 := hI.arr 13 (by decide) rfl w.toNat
  have zzy : sx_w true (x4 + 1) = x4 + 1 := px_wid (by omega) (by omega)
  repeat' (first | (with_reducible (rintro _ rfl)) | (with_reducible intro _) | (refine And.intro ?_ ?_) | (refine h_arity _ _ _ hI (by omega) (fun v v1 v2 => ?_); obtain rfl : v = n := (v1 p0.1 p0.2).trans en) | (refine h_arg (by omega) _ ?_) | (refine h_head w _ _ hI (by have := qw (by omega); omega) (fun v v1 v2 => ?_); obtain rfl : v = s.2.1 13 w.toNat := v1 (qw (by omega)).1 (qw (by omega)).2) | (refine h_of (by omega) _ ?_) | (refine h_isa _ _ _ hI rl (fun zza => ?_) (fun zza => ?_)))
  all_goals (try dsimp only at *)
  all_goals (first | trivial | assumption | omega | (exfalso; omega) | (exact hK (by omega)) | (have zz9 := hQ1 (by omega) zza; rw [← zzy] at zz9; exact zz9) | (have zz9 := hQ2 (by omega) zza; rw [← zzy] at zz9; exact zz9) | skip)
theorem c_dv_alw {sL : Nat} {sx : Nat → Int32} (hsL : sL ≤ 3072) (d : Nat) (hd : 3 ≤ d) : ∀ (a0 a1 : Int) (F : rf_N) (c : List (Int × Int)) (hi : Int) (s : sx_S) (K : Int → sx_S → Prop), cx_I s → (0 ≤ a0 ∧ a0 < s.1 11 6) → dz_nd s F (s.2.1 14 a0.toNat) → s.2.1 16 a0.toNat = (rf_len F : Int) → rf_len F ≤ 4 → dv_c s c hi a1 → hi ≤ s.1 29 3 → (∀ z : Int, 0 ≤ z → z < ((2 ^ rf_len F : Nat) : Int) → (∀ i : Nat, i < rf_len F → (dv_tb z i = true ↔ dv_al s (dv_lk c ((dz_hs F).getD i (-1))))) → K z s) → sx_C sL sx d 82 [.inr (.inl 38), .inl a0, .inl a1] s K := by
  intro a0 a1 F c hi s K hI p0 hF h16 hl hc hh hK
  have h0 := hI.fld 11 6 (by decide) rfl
  have rc := dv_ch_rng hc
  have h29 := hI.fld 29 3 (by decide) rfl
  obtain ⟨d, rfl⟩ : ∃ e, d = e + 2 := ⟨d - 2, by omega⟩
  refine sx_methL (wr := true) (n := 400) (n' := 400) (stop := [(5, [0, 1, 2, 3, 4])]) (fun nn pc ls u => pc = 5 ∧ u = s ∧ ∃ (x3 : Int) (x4 : Nat), ls = [(0, .inr (.inl 38)), (1, .inl a0), (2, .inl a1), (3, .inl x3), (4, .inl (x4 : Int))] ∧ (0 ≤ x3 ∧ x3 < ((2 ^ x4 : Nat) : Int)) ∧ (∀ i : Nat, i < x4 → (dv_tb x3 i = true ↔ dv_al s (dv_lk c ((dz_hs F).getD i (-1))))) ∧ x4 ≤ rf_len F ∧ nn = rf_len F - x4) hsL (e := eX6_allowedArguments) rfl ?_ ?_
  · exact w_dv_alw ⟨_, rfl, rfl, 0, 0, rfl, ⟨by omega, by decide⟩, fun i hi => absurd hi (by omega), by omega, rfl⟩
  · rintro nn pc ls u ⟨rfl, rfl, x3, x4, rfl, i1, i2, i3, rfl⟩
    have hp := dv_pow4 (n := x4) (by omega)
    by_cases hx : x4 < rf_len F
    · obtain ⟨w, hw⟩ := dv_drx x4 hF
      obtain ⟨w1, w2⟩ := dv_nth hx hw
      have r13 := hI.arr 13 (by decide) rfl w.toNat
      obtain ⟨b1, b2, b3⟩ := dv_add i1.1 (by omega) i1.2
      have stp : ∀ y : Int, (0 ≤ y ∧ y < ((2 ^ (x4 + 1) : Nat) : Int)) → (∀ i : Nat, i < x4 + 1 → (dv_tb y i = true ↔ dv_al u (dv_lk c ((dz_hs F).getD i (-1))))) → ∃ m', m' < rf_len F - x4 ∧ (5 = 5 ∧ u = u ∧ ∃ (x3 : Int) (x5 : Nat), ([(0, .inr (.inl 38)), (1, .inl a0), (2, .inl a1), (3, .inl y), (4, .inl ((x4 : Int) + 1))] : sx_L) = [(0, .inr (.inl 38)), (1, .inl a0), (2, .inl a1), (3, .inl x3), (4, .inl (x5 : Int))] ∧ (0 ≤ x3 ∧ x3 < ((2 ^ x5 : Nat) : Int)) ∧ (∀ i : Nat, i < x5 → (dv_tb x3 i = true ↔ dv_al u (dv_lk c ((dz_hs F).getD i (-1))))) ∧ x5 ≤ rf_len F ∧ m' = rf_len F - x5) := fun y y1 y2 => ⟨rf_len F - (x4 + 1), by omega, rfl, rfl, y, x4 + 1, rfl, y1, y2, by omega, rfl⟩
      refine w_dv_alw5 (w := w) (lv := dv_lk c ((dz_hs F).getD x4 (-1))) (n := (rf_len F : Int)) (c_dz_arity hsL (d + 1) (by omega)) (c_dz_head hsL (d + 1) (by omega)) (c_dv_isa hsL (d + 1) (by omega)) (fun _ K hK => ?_) (fun _ K hK => ?_) hI p0 (by omega) (by omega) (by omega) h16 (fun _ => w1) (dv_lk_rng hI hc _) (fun h => absurd h (by omega)) (fun _ he => ?_) (fun _ he => ?_)
      · refine c_dz_arg hsL (d + 1) (by omega) _ _ F _ _ hI p0 (by omega) hF (fun z _ z2 => ?_)
        rw [show ((x4 : Int)).toNat = x4 by omega] at z2
        rw [dv_nd1 z2 hw]
        exact hK
      · rw [w2] at r13 ⊢
        exact c_dv_of hsL (d + 1) (by omega) _ _ hi c _ _ hI r13 hc hh hK
      · rw [b1]
        refine stp _ ⟨by omega, b2⟩ (fun i hi'' => ?_)
        rw [b3 i (by omega)]
        by_cases hq : i = x4
        · rw [hq]
          exact ⟨fun _ => he, fun _ => by simp⟩
        · rw [← i2 i (by omega)]
          simp [hq]
      · rw [dv_or0 i1.1 (by omega)]
        have p' : (2 : Nat) ^ (x4 + 1) = 2 * 2 ^ x4 := Nat.pow_succ'
        refine stp _ ⟨i1.1, by omega⟩ (fun i hi'' => ?_)
        by_cases hq : i = x4
        · rw [hq, dv_tb_hi i1.2 (Nat.le_refl _)]
          exact ⟨fun q => absurd q (by decide), fun q => absurd q he⟩
        · exact i2 i (by omega)
    · have hx' : x4 = rf_len F := by omega
      refine w_dv_alw5 (w := 0) (lv := 0) (n := (rf_len F : Int)) (c_dz_arity hsL (d + 1) (by omega)) (c_dz_head hsL (d + 1) (by omega)) (c_dv_isa hsL (d + 1) (by omega)) (fun h => absurd h (by omega)) (fun h => absurd h (by omega)) hI p0 (by omega) (by omega) (by omega) h16 (fun h => absurd h (by omega)) (by omega) (fun _ => ?_) (fun h => absurd h (by omega)) (fun h => absurd h (by omega))
      rw [hx'] at i1 i2
      exact hK x3 i1.1 i1.2 i2
