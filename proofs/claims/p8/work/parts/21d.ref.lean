section
/-! ===== the reference: names are looked up ===== -/
def rf_bs (s : sx_S) (y : rf_Y) (i : Int) : Prop := rf_by (s.2.1 115) (s.2.1 116) (s.2.1 117) (s.1 66 71) y i
def rf_yl : rf_Y → Nat
  | .leaf => 0
  | .inner _ _ _ _ r => rf_yl r + 1
theorem w_look_0 {CALL : sx_Ca} {sL : Nat} {sx : Nat → Int32} {Q : Nat → sx_L → sx_S → Prop} {R : Int → sx_S → Prop} {s : sx_S} {a0 a1 : Int} (hI : cx_I s) (hQ : Q 5 [(0, .inr (.inl 66)), (3, .inl a0), (4, .inl a1)] s) : sx_wp true sL sx eX12_look CALL [(5, [0, 3, 4])] Q R 400 0 (sx_argsF 0 [.inr (.inl 66), .inl a0, .inl a1]) [] s := by
  exact hQ
theorem w_look_l {CALL : sx_Ca} {sL : Nat} {sx : Nat → Int32} {Q : Nat → sx_L → sx_S → Prop} {R : Int → sx_S → Prop} {s : sx_S} {x3 x4 : Int} (hI : cx_I s) (h3 : x3 = -1) (h4 : -2147483648 ≤ x4 ∧ x4 ≤ 2147483647) (hK : R x4 s) : sx_wp true sL sx eX12_look CALL [(5, [0, 3, 4])] Q R 400 5 [(0, .inr (.inl 66)), (3, .inl x3), (4, .inl x4)] [] s := by
  repeat' (first | (with_reducible intro _) | (refine And.intro ?_ ?_) | (exact hK))
  all_goals (try dsimp only)
  all_goals (first | trivial | omega | (dsimp only at *; omega) | (exfalso; omega) | (subst_vars; omega) | (exfalso; subst_vars; omega))
theorem w_look_o {CALL : sx_Ca} {sL : Nat} {sx : Nat → Int32} {Q : Nat → sx_L → sx_S → Prop} {R : Int → sx_S → Prop} {s : sx_S} {x3 x4 f t : Int} (hI : cx_I s) (h3 : 0 ≤ x3 ∧ x3 < 400000) (h4 : -2147483648 ≤ x4 ∧ x4 ≤ 2147483647) (hf : s.2.1 115 x3.toNat = f) (hfn : f ≠ -1) (ht : s.2.1 116 x3.toNat = t) (hK : ∀ z, z = t → f = x4 → R z s) (hQ : ∀ u, u = s.2.1 117 x3.toNat → f ≠ x4 → Q 5 [(0, .inr (.inl 66)), (3, .inl u), (4, .inl x4)] s) : sx_wp true sL sx eX12_look CALL [(5, [0, 3, 4])] Q R 400 5 [(0, .inr (.inl 66)), (3, .inl x3), (4, .inl x4)] [] s := by
  repeat' (first | (with_reducible intro _) | (refine And.intro ?_ ?_) | (refine hK _ ?_ ?_) | (refine hQ _ ?_ ?_))
  all_goals (try dsimp only)
  all_goals (first | trivial | omega | (dsimp only at *; omega) | (exfalso; omega) | (subst_vars; omega) | (exfalso; subst_vars; omega))
theorem w_look_a {CALL : sx_Ca} {sL : Nat} {sx : Nat → Int32} {Q : Nat → sx_L → sx_S → Prop} {R : Int → sx_S → Prop} {s : sx_S} {x3 x4 z0 : Int} (hI : cx_I s) (h3 : 0 ≤ x3 ∧ x3 < 400000) (h4 : -2147483648 ≤ x4 ∧ x4 ≤ 2147483647) (hf : s.2.1 115 x3.toNat = -1) (hC : ∀ (u : Int) (K : Int → sx_S → Prop), u = s.2.1 116 x3.toNat → K z0 s → CALL 186 [.inr (.inl 66), .inl u, .inl x4] s K) (hQ : ∀ u, u = s.2.1 117 x3.toNat → Q 5 [(0, .inr (.inl 66)), (3, .inl u), (4, .inl z0)] s) : sx_wp true sL sx eX12_look CALL [(5, [0, 3, 4])] Q R 400 5 [(0, .inr (.inl 66)), (3, .inl x3), (4, .inl x4)] [] s := by
  repeat' (first | (with_reducible intro _) | (refine And.intro ?_ ?_) | (refine hC _ _ ?_ ?_) | (refine hQ _ ?_))
  all_goals (try dsimp only)
  all_goals (first | trivial | omega | (dsimp only at *; omega) | (exfalso; omega) | (subst_vars; omega) | (exfalso; subst_vars; omega))
theorem rf_look_in {s : sx_S} (hI : cx_I s) : ∀ {y : rf_Y} {i v : Int}, rf_bs s y i → (-2147483648 ≤ v ∧ v ≤ 2147483647) → (-2147483648 ≤ rf_look y v ∧ rf_look y v ≤ 2147483647)
  | .leaf, _, v, _, h => h
  | .inner 0 k _ _ r, i, v, hy, h => by
    show _ ≤ (if k.1 = v then k.2 else rf_look r v) ∧ (if k.1 = v then k.2 else rf_look r v) ≤ _
    split
    · have := hI.arr 116 (by decide) rfl i.toNat
      rw [hy.2.2.1] at this
      exact this
    · exact rf_look_in hI hy.2.2.2 h
  | .inner (_ + 1) _ _ a r, i, v, hy, h => rf_look_in hI (y := r) hy.2.2.2 (rf_look_in hI (y := a) hy.2.2.1 h)
theorem c_r_look {sL : Nat} {sx : Nat → Int32} (hsL : sL ≤ 3072) : ∀ (D : Nat) (d : Nat), D + 2 ≤ d → ∀ (y : rf_Y) (a0 a1 : Int) (s : sx_S) (K : Int → sx_S → Prop), cx_I s → rf_dp y ≤ D → rf_bs s y a0 → (-2147483648 ≤ a1 ∧ a1 ≤ 2147483647) → K (rf_look y a1) s → sx_C sL sx d 186 [.inr (.inl 66), .inl a0, .inl a1] s K := by
  intro D
  induction D with
  | zero =>
    intro d hd y a0 a1 s K hI hD hy h1 hK
    obtain ⟨d, rfl⟩ : ∃ e, d = e + 2 := ⟨d - 2, by omega⟩
    have h71 := hI.fld 66 71 (by decide) rfl
    refine sx_methL (wr := true) (n := 400) (n' := 400) (stop := [(5, [0, 3, 4])]) (fun n pc ls u => (pc = 5 ∧ ∃ (x3 x4 : Int) (y' : rf_Y), ls = [(0, .inr (.inl 66)), (3, .inl x3), (4, .inl x4)] ∧ u = s ∧ rf_bs s y' x3 ∧ rf_dp y' ≤ 0 ∧ (-2147483648 ≤ x4 ∧ x4 ≤ 2147483647) ∧ rf_look y' x4 = rf_look y a1 ∧ n = rf_yl y')) hsL (e := eX12_look) rfl ?_ ?_
    · exact w_look_0 hI ⟨_, rfl, a0, a1, y, rfl, rfl, hy, hD, h1, rfl, rfl⟩
    · rintro n pc ls u ⟨rfl, x3, x4, y', rfl, rfl, g1, g2, g3, g4, rfl⟩
      match y', g1, g2, g4 with
      | .leaf, g1, g2, g4 => exact w_look_l hI g1 g3 (by have e : x4 = rf_look y a1 := g4; rw [e]; exact hK)
      | .inner 0 k _ l r, g1, g2, g4 =>
        refine w_look_o hI ⟨g1.1.1, by have := g1.1.2.1; omega⟩ g3 g1.2.1 g1.1.2.2 g1.2.2.1 (fun z hz e => ?_) (fun v hv e => ⟨_, ?_, rfl, v, x4, r, rfl, rfl, by rw [hv]; exact g1.2.2.2, g2, g3, ?_, rfl⟩)
        · have q : (if k.1 = x4 then k.2 else rf_look r x4) = rf_look y a1 := g4
          rw [if_pos e] at q
          rw [hz, q]
          exact hK
        · exact Nat.lt_succ_self _
        · have q : (if k.1 = x4 then k.2 else rf_look r x4) = rf_look y a1 := g4
          rw [if_neg e] at q
          exact q
      | .inner (m + 1) k _ l r, g1, g2, g4 =>
        exfalso
        have q : max (rf_dp l + 1) (rf_dp r) ≤ 0 := g2
        omega
  | succ D ih =>
    intro d hd y a0 a1 s K hI hD hy h1 hK
    obtain ⟨d, rfl⟩ : ∃ e, d = e + 2 := ⟨d - 2, by omega⟩
    have h71 := hI.fld 66 71 (by decide) rfl
    refine sx_methL (wr := true) (n := 400) (n' := 400) (stop := [(5, [0, 3, 4])]) (fun n pc ls u => (pc = 5 ∧ ∃ (x3 x4 : Int) (y' : rf_Y), ls = [(0, .inr (.inl 66)), (3, .inl x3), (4, .inl x4)] ∧ u = s ∧ rf_bs s y' x3 ∧ rf_dp y' ≤ D + 1 ∧ (-2147483648 ≤ x4 ∧ x4 ≤ 2147483647) ∧ rf_look y' x4 = rf_look y a1 ∧ n = rf_yl y')) hsL (e := eX12_look) rfl ?_ ?_
    · exact w_look_0 hI ⟨_, rfl, a0, a1, y, rfl, rfl, hy, hD, h1, rfl, rfl⟩
    · rintro n pc ls u ⟨rfl, x3, x4, y', rfl, rfl, g1, g2, g3, g4, rfl⟩
      match y', g1, g2, g4 with
      | .leaf, g1, g2, g4 => exact w_look_l hI g1 g3 (by have e : x4 = rf_look y a1 := g4; rw [e]; exact hK)
      | .inner 0 k _ l r, g1, g2, g4 =>
        refine w_look_o hI ⟨g1.1.1, by have := g1.1.2.1; omega⟩ g3 g1.2.1 g1.1.2.2 g1.2.2.1 (fun z hz e => ?_) (fun v hv e => ⟨_, ?_, rfl, v, x4, r, rfl, rfl, by rw [hv]; exact g1.2.2.2, g2, g3, ?_, rfl⟩)
        · have q : (if k.1 = x4 then k.2 else rf_look r x4) = rf_look y a1 := g4
          rw [if_pos e] at q
          rw [hz, q]
          exact hK
        · exact Nat.lt_succ_self _
        · have q : (if k.1 = x4 then k.2 else rf_look r x4) = rf_look y a1 := g4
          rw [if_neg e] at q
          exact q
      | .inner (m + 1) k _ l r, g1, g2, g4 =>
        have q : max (rf_dp l + 1) (rf_dp r) ≤ D + 1 := g2
        refine w_look_a hI ⟨g1.1.1, by have := g1.1.2; omega⟩ g3 g1.2.1 (z0 := rf_look l x4) (fun v K' hv hK' => ?_) (fun v hv => ⟨_, ?_, rfl, v, rf_look l x4, r, rfl, rfl, by rw [hv]; exact g1.2.2.2, by omega, rf_look_in hI g1.2.2.1 g3, g4, rfl⟩)
        · exact ih (d + 1) (by omega) l v x4 _ K' hI (by omega) (by rw [hv]; exact g1.2.2.1) g3 hK'
        · exact Nat.lt_succ_self _
end
section
/-! ===== the reference: numbers and names are put ===== -/
theorem rf_dv {v t : Int} (ht : 1 ≤ t) (h : 9 < v.tdiv t) : t * 10 ≤ v := by
  have hv : 0 ≤ v := by
    by_cases c : 0 ≤ v
    · exact c
    · exfalso
      have e : v.tdiv t = -((-v).tdiv t) := by rw [← Int.neg_tdiv, Int.neg_neg]
      rw [Int.tdiv_eq_ediv_of_nonneg (a := -v) (by omega)] at e
      have := Int.ediv_nonneg (a := -v) (b := t) (by omega) (by omega)
      omega
  rw [Int.tdiv_eq_ediv_of_nonneg hv] at h
  have h1 := Int.mul_ediv_self_le (x := v) (k := t) (by omega)
  have h2 : t * 10 ≤ t * (v / t) := Int.mul_le_mul_of_nonneg_left (by omega) (by omega)
  omega
theorem rf_rm (q : Int) : -9 ≤ q - q.tdiv 10 * 10 ∧ q - q.tdiv 10 * 10 ≤ 9 := by
  have e : q - q.tdiv 10 * 10 = q.tmod 10 := by
    have := Int.tmod_add_mul_tdiv q 10
    omega
  rw [e]
  have h1 := Int.tmod_lt_of_pos q (b := 10) (by decide)
  have h2 := Int.lt_tmod_of_pos q (b := 10) (by decide)
  omega
theorem rf_d10 {t : Int} (h : 0 ≤ t) : t.tdiv 10 = t / 10 := Int.tdiv_eq_ediv_of_nonneg h
theorem rf_dvin {v t : Int} (hv : -2147483648 ≤ v ∧ v ≤ 2147483647) (ht : 1 ≤ t) : -2147483648 ≤ v.tdiv t ∧ v.tdiv t ≤ 2147483647 := by
  by_cases c : 0 ≤ v
  · rw [Int.tdiv_eq_ediv_of_nonneg c]
    have := Int.ediv_nonneg (a := v) (b := t) c (by omega)
    have := Int.ediv_le_self (a := v) t c
    omega
  · have e : v.tdiv t = -((-v).tdiv t) := by rw [← Int.neg_tdiv, Int.neg_neg]
    rw [Int.tdiv_eq_ediv_of_nonneg (a := -v) (by omega)] at e
    have := Int.ediv_nonneg (a := -v) (b := t) (by omega) (by omega)
    have := Int.ediv_le_self (a := -v) t (by omega)
    omega
theorem w_r_newMeta {CALL : sx_Ca} {sL : Nat} {sx : Nat → Int32} {Q : Nat → sx_L → sx_S → Prop} {R : Int → sx_S → Prop} {s : sx_S} (hI : cx_I s) (p0 : (s.1 66 61 ≤ 2999)) (hK : ∀ (z : Int) (t : sx_S), cx_I t → cx_F [(66, 66), (108, 109), (111, 111), (124, 124)] s t → (z = s.1 66 61) → (t.1 66 61 = s.1 66 61 + 1) → (rf_f [61] s t) → (rf_ag 108 111 (s.1 66 61) s t) → (t.2.1 108 z.toNat = 0) → (t.2.1 109 z.toNat = s.1 66 64) → (t.2.1 111 z.toNat = 0) → R z t) : sx_wp true sL sx eX12_newMeta CALL [] Q R 400 0 (sx_argsF 0 [.inr (.inl 66)]) [] s := by
  repeat' (first | (with_reducible intro _) | (refine And.intro ?_ ?_) | (refine hK _ _ ?_ ?_ ?_ ?_ ?_ ?_ ?_ ?_ ?_))
  all_goals (try dsimp only)
  repeat' (first | (with_reducible assumption) | ((with_reducible (change cx_I (sx_uf _ _ _ _, _))); refine cx_I_uf rfl rfl ?_ ?_ ?_) | ((with_reducible (change cx_I (_, sx_ua _ _ _ _, _))); refine cx_I_ua rfl rfl ?_ ?_ ?_) | ((with_reducible (change cx_I (_, sx_ua _ 16 _ _, _))); refine cx_I_ari ?_ ?_ ?_) | ((with_reducible (change cx_I (sx_uf _ 11 6 _, _))); refine cx_I_ufA rfl ?_ ?_ ?_ ?_) | (with_reducible exact cx_F_refl _ _) | ((with_reducible (change cx_F _ _ (sx_uf _ _ _ _, _))); refine cx_F_uf rfl ?_) | ((with_reducible (change cx_F _ _ (_, sx_ua _ _ _ _, _))); refine cx_F_ua rfl ?_) | ((with_reducible (change cx_I (_, sx_cpy _ _ _ _ _ _, _))); refine cx_I_cpy rfl rfl rfl (by decide) ?_) | ((with_reducible (change cx_F _ _ (_, sx_cpy _ _ _ _ _ _, _))); refine cx_F_cpy rfl ?_) | ((with_reducible (change cx_F _ _ _)); refine cx_F_step (by assumption) rfl ?_) | ((with_reducible (change rf_f _ _ (sx_uf _ 66 _ _, _))); refine rf_f_uf rfl ?_) | ((with_reducible (change rf_f _ _ _)); exact (fun _ _ => rfl)) | ((with_reducible (change rf_f _ _ (_, sx_ua _ _ _ _, _))); refine rf_f_ua ?_) | ((with_reducible (change rf_f _ _ _)); assumption) | ((with_reducible (change rf_f _ _ _)); refine rf_f_step (by assumption) rfl ?_) | ((with_reducible (change rf_f _ _ _)); refine rf_f_F (by assumption) rfl ?_) | ((with_reducible (change rf_A _ (sx_uf _ _ _ _, _))); refine rf_A_uf ?_) | ((with_reducible (change rf_A _ (_, sx_ua _ _ _ _, _))); refine rf_A_ua rfl ?_) | ((with_reducible (change rf_A _ _)); assumption) | ((with_reducible (change rf_A _ _)); refine rf_A_F (by assumption) rfl ?_) | ((with_reducible (change rf_ag _ _ _ _ _)); assumption) | ((with_reducible (change rf_ag _ _ _ _ _)); exact rf_ag_refl _ _ _ _) | ((with_reducible (change rf_ag _ _ _ _ (sx_uf _ _ _ _, _))); refine rf_ag_uf ?_) | ((with_reducible (change rf_ag _ _ _ _ (_, sx_ua _ _ _ _, _))); refine rf_ag_uo rfl ?_) | ((with_reducible (change rf_ag _ _ _ _ (_, sx_ua _ _ _ _, _))); refine rf_ag_ua (by (first | omega | (dsimp only at *; omega) | (simp only [sx_uf_if, sx_ua_if, sx_w_t, true_and, and_true, and_self, and_false, false_and, if_true, if_false, reduceIte] at *; omega) | rfl)) (by (first | omega | (dsimp only at *; omega) | (simp only [sx_uf_if, sx_ua_if, sx_w_t, true_and, and_true, and_self, and_false, false_and, if_true, if_false, reduceIte] at *; omega) | rfl)) ?_) | ((with_reducible (change rf_ag _ _ _ _ _)); refine rf_ag_F (by assumption) rfl ?_) | ((with_reducible (change rf_ag _ _ _ _ _)); refine rf_ag_trans (by assumption) (by (first | omega | (dsimp only at *; omega) | (simp only [sx_uf_if, sx_ua_if, sx_w_t, true_and, and_true, and_self, and_false, false_and, if_true, if_false, reduceIte] at *; omega) | rfl)) ?_) | fail)
  repeat' (first | (with_reducible assumption) | ((with_reducible (change cx_I (sx_uf _ _ _ _, _))); refine cx_I_uf rfl rfl ?_ ?_ ?_) | ((with_reducible (change cx_I (_, sx_ua _ _ _ _, _))); refine cx_I_ua rfl rfl ?_ ?_ ?_) | ((with_reducible (change cx_I (_, sx_ua _ 16 _ _, _))); refine cx_I_ari ?_ ?_ ?_) | ((with_reducible (change cx_I (sx_uf _ 11 6 _, _))); refine cx_I_ufA rfl ?_ ?_ ?_ ?_) | (with_reducible exact cx_F_refl _ _) | ((with_reducible (change cx_F _ _ (sx_uf _ _ _ _, _))); refine cx_F_uf rfl ?_) | ((with_reducible (change cx_F _ _ (_, sx_ua _ _ _ _, _))); refine cx_F_ua rfl ?_) | ((with_reducible (change cx_I (_, sx_cpy _ _ _ _ _ _, _))); refine cx_I_cpy rfl rfl rfl (by decide) ?_) | ((with_reducible (change cx_F _ _ (_, sx_cpy _ _ _ _ _ _, _))); refine cx_F_cpy rfl ?_) | ((with_reducible (change cx_F _ _ _)); refine cx_F_step (by assumption) rfl ?_) | ((with_reducible (change rf_f _ _ (sx_uf _ 66 _ _, _))); refine rf_f_uf rfl ?_) | ((with_reducible (change rf_f _ _ _)); exact (fun _ _ => rfl)) | ((with_reducible (change rf_f _ _ (_, sx_ua _ _ _ _, _))); refine rf_f_ua ?_) | ((with_reducible (change rf_f _ _ _)); assumption) | ((with_reducible (change rf_f _ _ _)); refine rf_f_step (by assumption) rfl ?_) | ((with_reducible (change rf_f _ _ _)); refine rf_f_F (by assumption) rfl ?_) | ((with_reducible (change rf_A _ (sx_uf _ _ _ _, _))); refine rf_A_uf ?_) | ((with_reducible (change rf_A _ (_, sx_ua _ _ _ _, _))); refine rf_A_ua rfl ?_) | ((with_reducible (change rf_A _ _)); assumption) | ((with_reducible (change rf_A _ _)); refine rf_A_F (by assumption) rfl ?_) | fail)
  all_goals (first | trivial | omega | (dsimp only at *; omega) | (simp only [sx_uf_if, sx_ua_if, sx_w_t, true_and, and_true, and_self, and_false, false_and, if_true, if_false, reduceIte] at *; omega) | (subst_vars; omega) | (subst_vars; simp only [sx_uf_if, sx_ua_if, sx_w_t, true_and, and_true, and_self, and_false, false_and, if_true, if_false, reduceIte] at *; omega) | (subst_vars; rfl) | (subst_vars; decide) | (simp only [sx_uf_if, sx_ua_if, sx_w_t, true_and, and_true, and_self, and_false, false_and, if_true, if_false, reduceIte]; done) | (subst_vars; simp only [sx_uf_if, sx_ua_if, sx_w_t, true_and, and_true, and_self, and_false, false_and, if_true, if_false, reduceIte]; done))

theorem c_r_newMeta {sL : Nat} {sx : Nat → Int32} (hsL : sL ≤ 3072) (d : Nat) (hd : 2 ≤ d) : ∀ (s : sx_S) (K : Int → sx_S → Prop), cx_I s → (s.1 66 61 ≤ 2999) → (∀ (z : Int) (t : sx_S), cx_I t → cx_F [(66, 66), (108, 109), (111, 111), (124, 124)] s t → (z = s.1 66 61) → (t.1 66 61 = s.1 66 61 + 1) → (rf_f [61] s t) → (rf_ag 108 111 (s.1 66 61) s t) → (t.2.1 108 z.toNat = 0) → (t.2.1 109 z.toNat = s.1 66 64) → (t.2.1 111 z.toNat = 0) → K z t) → sx_C sL sx d 189 [.inr (.inl 66)] s K := by
  intro  s K hI p0 hK
  obtain ⟨d, rfl⟩ : ∃ e, d = e + 2 := ⟨d - 2, by omega⟩
  exact sx_meth (wr := true) (n := 400) hsL (e := eX12_newMeta) rfl (w_r_newMeta (Q := fun _ _ _ => False)  hI p0 hK)
end
section
/-! ===== the reference: names of a body ===== -/
theorem rf_wid {z : Int} (h0 : -2147483648 ≤ z) (h1 : z ≤ 2147483647) : sx_w true z = z := by
  rw [sx_w_t]
  omega
def rf_vo (s : sx_S) (y : rf_Y) (n : Int) (k : Nat) : Int := rf_look y (s.2.1 105 (s.2.1 104 n.toNat + (k : Int)).toNat)
theorem w_varOf {CALL : sx_Ca} {sL : Nat} {sx : Nat → Int32} {Q : Nat → sx_L → sx_S → Prop} {R : Int → sx_S → Prop} {s : sx_S} {a0 a1 a2 z0 : Int} (hI : cx_I s) (p0 : 0 ≤ a0 ∧ a0 ≤ 59999) (p2 : 0 ≤ a2 ∧ a2 ≤ 4) (p3 : s.2.1 104 a0.toNat + a2 ≤ 119999) (hC : ∀ (u : Int) (K : Int → sx_S → Prop), u = s.2.1 105 (s.2.1 104 a0.toNat + a2).toNat → K z0 s → CALL 186 [.inr (.inl 66), .inl a1, .inl u] s K) (hK : R z0 s) : sx_wp true sL sx eX12_varOf CALL [] Q R 400 0 (sx_argsF 0 [.inr (.inl 66), .inl a0, .inl a1, .inl a2]) [] s := by
  repeat' (first | (with_reducible intro _) | (refine And.intro ?_ ?_) | (exact hK) | (refine hC _ _ ?_ ?_))
  all_goals (try dsimp only)
  all_goals (first | trivial | omega | (dsimp only at *; omega) | (simp only [sx_w_t] at *; omega) | (subst_vars; dsimp only at *; rw [rf_wid (z := s.2.1 104 a0.toNat + a2) (by omega) (by omega)]) | (subst_vars; simp only [sx_w_t] at *; omega))
theorem c_r_varOf {sL : Nat} {sx : Nat → Int32} (hsL : sL ≤ 3072) (D d : Nat) (hd : D + 3 ≤ d) : ∀ (y : rf_Y) (a0 a1 a2 : Int) (s : sx_S) (K : Int → sx_S → Prop), cx_I s → (0 ≤ a0 ∧ a0 ≤ 59999) → (0 ≤ a2 ∧ a2 ≤ 4) → s.2.1 104 a0.toNat + a2 ≤ 119999 → rf_dp y ≤ D → rf_bs s y a1 → K (rf_vo s y a0 a2.toNat) s → sx_C sL sx d 187 [.inr (.inl 66), .inl a0, .inl a1, .inl a2] s K := by
  intro y a0 a1 a2 s K hI p0 p2 p3 hD hy hK
  obtain ⟨d, rfl⟩ : ∃ e, d = e + 2 := ⟨d - 2, by omega⟩
  have e : ((a2.toNat : Nat) : Int) = a2 := by omega
  unfold rf_vo at hK
  rw [e] at hK
  exact sx_meth (wr := true) (n := 400) hsL (e := eX12_varOf) rfl (w_varOf (Q := fun _ _ _ => False) hI p0 p2 p3 (fun u K' hu hK' => c_r_look hsL D (d + 1) (by omega) y a1 u s K' hI hD hy (by rw [hu]; exact hI.arr 105 (by decide) rfl _) (by rw [hu]; exact hK')) hK)
/-- the names of a body, then a row -/
def rf_bh (a b : rf_Y) : rf_Y := match a with
  | .leaf => b
  | .inner n k u l r => match b with
    | .leaf => .inner n k u l r
    | .inner n' k' u' l' r' => rf_app (.inner n k u l r) (.inner n' k' u' l' r')
theorem rf_bh_look (a b : rf_Y) (v : Int) : rf_look (rf_bh a b) v = rf_look b (rf_look a v) := by
  cases a with
  | leaf => rfl
  | inner n k u l r =>
    cases b with
    | leaf => rfl
    | inner n' k' u' l' r' => rfl
theorem rf_bh_dp (a b : rf_Y) : rf_dp (rf_bh a b) ≤ max (rf_dp a + 1) (rf_dp b) := by
  cases a with
  | leaf => exact Nat.le_max_right _ _
  | inner n k u l r =>
    cases b with
    | leaf =>
      show rf_dp (.inner n k u l r) ≤ _
      omega
    | inner n' k' u' l' r' => exact Nat.le_refl _
theorem rf_bs_nil {s : sx_S} {y : rf_Y} {i : Int} (h : rf_bs s y i) (e : i = -1) : y = .leaf := by
  match y, h with
  | .leaf, _ => rfl
  | .inner 0 _ _ _ _, h => exact absurd h.1.1 (by omega)
  | .inner (_ + 1) _ _ _ _, h => exact absurd h.1.1 (by omega)
theorem rf_bs_cons {s : sx_S} {y : rf_Y} {i : Int} (h : rf_bs s y i) (e : i ≠ -1) : y ≠ .leaf := by
  intro q
  subst q
  exact e h
theorem rf_bs_up {s t : sx_S} {y : rf_Y} {i : Int} (h : rf_bs s y i) (ha : rf_ag 115 117 (s.1 66 71) s t) (hn : s.1 66 71 ≤ t.1 66 71) : rf_bs t y i :=
  rf_by_mono (fun j hj => ⟨ha 115 j (by omega) (by omega) hj, ha 116 j (by omega) (by omega) hj, ha 117 j (by omega) (by omega) hj⟩) hn h
theorem rf_bs_one {s : sx_S} {y : rf_Y} {z a b i : Int} (hz : 0 ≤ z ∧ z < s.1 66 71) (hn : rf_nm s z a b i) (ha : a ≠ -1) (h : rf_bs s y i) : rf_bs s (rf_one a b y) z := by
  obtain ⟨h1, h2, h3⟩ := hn trivial
  refine ⟨⟨hz.1, hz.2, ha⟩, h1, h2, ?_⟩
  rw [h3]
  exact h
theorem rf_bs_app {s : sx_S} {y w : rf_Y} {z i j : Int} (hz : 0 ≤ z ∧ z < s.1 66 71) (hn : rf_nm s z (-1) i j) (h : rf_bs s y i) (g : rf_bs s w j) : rf_bs s (rf_app y w) z := by
  obtain ⟨h1, h2, h3⟩ := hn trivial
  refine ⟨hz, h1, ?_, ?_⟩
  · rw [h2]
    exact h
  · rw [h3]
    exact g
theorem w_behind {CALL : sx_Ca} {sL : Nat} {sx : Nat → Int32} {Q : Nat → sx_L → sx_S → Prop} {R : Int → sx_S → Prop} {s : sx_S} (h_name : ∀ (a0 a1 a2 : Int) (s : sx_S) (K : Int → sx_S → Prop), cx_I s → (-2147483648 ≤ a0 ∧ a0 ≤ 2147483647) → (-2147483648 ≤ a1 ∧ a1 ≤ 2147483647) → (-1 ≤ a2 ∧ a2 ≤ 399999) → (s.1 66 71 ≤ 399999) → (∀ (z : Int) (t : sx_S), cx_I t → cx_F [(66, 66), (115, 117)] s t → (z = s.1 66 71) → (t.1 66 71 = s.1 66 71 + 1) → (rf_f [71] s t) → (rf_ag 115 117 (s.1 66 71) s t) → (rf_nm t z a0 a1 a2) → K z t) → CALL 184 [.inr (.inl 66), .inl a0, .inl a1, .inl a2] s K) {a0 a1 : Int} (hI : cx_I s) (p0 : -1 ≤ a0 ∧ a0 ≤ 399999) (p1 : -1 ≤ a1 ∧ a1 ≤ 399999) (p2 : s.1 66 71 ≤ 399999) (hK1 : a0 = -1 → R a1 s) (hK2 : a0 ≠ -1 → a1 = -1 → R a0 s) (hK3 : ∀ (z : Int) (t : sx_S), a0 ≠ -1 → a1 ≠ -1 → cx_I t → cx_F [(66, 66), (115, 117)] s t → z = s.1 66 71 → t.1 66 71 = s.1 66 71 + 1 → rf_f [71] s t → rf_ag 115 117 (s.1 66 71) s t → rf_nm t z (-1) a0 a1 → R z t) : sx_wp true sL sx eX12_behind CALL [] Q R 400 0 (sx_argsF 0 [.inr (.inl 66), .inl a0, .inl a1]) [] s := by
  repeat' (first | (with_reducible intro _) | (refine And.intro ?_ ?_) | (exact hK1 (by omega)) | (exact hK2 (by omega) (by omega)) | (exact hK3 _ _ (by omega) (by omega) (by assumption) (by assumption) (by assumption) (by assumption) (by assumption) (by assumption) (by assumption)) | (refine h_name _ _ _ _ _ ?_ ?_ ?_ ?_ ?_ ?_))
  all_goals (try dsimp only)
  all_goals (first | trivial | omega | assumption)
theorem c_r_behind {sL : Nat} {sx : Nat → Int32} (hsL : sL ≤ 3072) (d : Nat) (hd : 3 ≤ d) : ∀ (y w : rf_Y) (a0 a1 : Int) (s : sx_S) (K : Int → sx_S → Prop), cx_I s → s.1 66 71 ≤ 399999 → rf_bs s y a0 → rf_bs s w a1 → (∀ (z : Int) (t : sx_S), cx_I t → cx_F [(66, 66), (115, 117)] s t → (s.1 66 71 ≤ t.1 66 71 ∧ t.1 66 71 ≤ s.1 66 71 + 1) → rf_f [71] s t → rf_ag 115 117 (s.1 66 71) s t → rf_bs t (rf_bh y w) z → K z t) → sx_C sL sx d 185 [.inr (.inl 66), .inl a0, .inl a1] s K := by
  intro y w a0 a1 s K hI p2 hy hw hK
  obtain ⟨d, rfl⟩ : ∃ e, d = e + 2 := ⟨d - 2, by omega⟩
  have r0 := rf_by_hi hy
  have r1 := rf_by_hi hw
  have r2 := hI.fld 66 71 (by decide) rfl
  refine sx_meth (wr := true) (n := 400) hsL (e := eX12_behind) rfl (w_behind (Q := fun _ _ _ => False) (c_r_name hsL (d + 1) (by omega)) hI (by omega) (by omega) p2 (fun e => ?_) (fun e e1 => ?_) (fun z t e e1 j1 j2 j3 j4 j5 j6 j7 => ?_))
  · have q := rf_bs_nil hy e
    subst q
    exact hK _ _ hI (cx_F_refl _ _) ⟨Int.le_refl _, by omega⟩ (rf_f_refl _ _) (rf_ag_refl _ _ _ _) hw
  · have q := rf_bs_nil hw e1
    subst q
    refine hK _ _ hI (cx_F_refl _ _) ⟨Int.le_refl _, by omega⟩ (rf_f_refl _ _) (rf_ag_refl _ _ _ _) ?_
    cases y with
    | leaf => exact hy
    | inner n k u l r => exact hy
  · refine hK _ _ j1 j2 ⟨by omega, by omega⟩ j5 j6 ?_
    have q1 := rf_bs_cons hy e
    have q2 := rf_bs_cons hw e1
    have g1 := rf_bs_up hy j6 (by omega)
    have g2 := rf_bs_up hw j6 (by omega)
    cases y with
    | leaf => exact absurd rfl q1
    | inner n k u l r =>
      cases w with
      | leaf => exact absurd rfl q2
      | inner n' k' u' l' r' => exact rf_bs_app ⟨by omega, by omega⟩ j7 g1 g2
end
section
/-! ===== the reference: a body is entered ===== -/
theorem w_enter {CALL : sx_Ca} {sL : Nat} {sx : Nat → Int32} {Q : Nat → sx_L → sx_S → Prop} {R : Int → sx_S → Prop} {s : sx_S} {a0 a1 : Int} (hI : cx_I s) (p0 : 0 ≤ a0 ∧ a0 ≤ 59999) (hQ : ∀ x3 : Int, x3 = s.2.1 101 a0.toNat → Q 13 [(0, .inr (.inl 66)), (1, .inl a0), (2, .inl a1), (3, .inl x3), (4, .inl (-1)), (5, .inl 0)] s) : sx_wp true sL sx eX12_enter CALL [(13, [0, 1, 2, 3, 4, 5])] Q R 400 0 (sx_argsF 0 [.inr (.inl 66), .inl a0, .inl a1]) [] s := by
  repeat' (first | (with_reducible intro _) | (refine And.intro ?_ ?_) | (refine hQ _ ?_))
  all_goals (try dsimp only)
  all_goals (first | trivial | omega | assumption)
theorem w_enter_13 {CALL : sx_Ca} {sL : Nat} {sx : Nat → Int32} {Q : Nat → sx_L → sx_S → Prop} {R : Int → sx_S → Prop} (h_name : ∀ (a0 a1 a2 : Int) (s : sx_S) (K : Int → sx_S → Prop), cx_I s → (-2147483648 ≤ a0 ∧ a0 ≤ 2147483647) → (-2147483648 ≤ a1 ∧ a1 ≤ 2147483647) → (-1 ≤ a2 ∧ a2 ≤ 399999) → (s.1 66 71 ≤ 399999) → (∀ (z : Int) (t : sx_S), cx_I t → cx_F [(66, 66), (115, 117)] s t → (z = s.1 66 71) → (t.1 66 71 = s.1 66 71 + 1) → (rf_f [71] s t) → (rf_ag 115 117 (s.1 66 71) s t) → (rf_nm t z a0 a1 a2) → K z t) → CALL 184 [.inr (.inl 66), .inl a0, .inl a1, .inl a2] s K) {t : sx_S} {a0 a1 x3 x4 x5 w : Int} {PB : Int → sx_S → Prop} (hI : cx_I t) (p0 : 0 ≤ a0 ∧ a0 ≤ 59999) (q3 : 0 ≤ x3 ∧ x3 ≤ 2999) (q4 : -1 ≤ x4 ∧ x4 ≤ 399999) (q5 : 0 ≤ x5 ∧ x5 ≤ 4) (hn : t.1 66 71 ≤ 399990) (hs : x5 < t.2.1 108 x3.toNat → t.2.1 112 x3.toNat + x5 ≤ 119999) (hw : -2147483648 ≤ w ∧ w ≤ 2147483647) (hV : x5 < t.2.1 108 x3.toNat → ∀ K : Int → sx_S → Prop, K w t → CALL 187 [.inr (.inl 66), .inl a0, .inl a1, .inl x5] t K) (hB : t.2.1 108 x3.toNat ≤ x5 → ∀ (u : Int) (K : Int → sx_S → Prop), u = t.2.1 114 x3.toNat → (∀ z t', PB z t' → K z t') → CALL 185 [.inr (.inl 66), .inl u, .inl x4] t K) (hK : ∀ z t', PB z t' → R z t') (hQ : ∀ (f y5 z : Int) (t' : sx_S), rf_nm t' z f w x4 → x5 < t.2.1 108 x3.toNat → f = t.2.1 105 (t.2.1 112 x3.toNat + x5).toNat → y5 = x5 + 1 → cx_I t' → cx_F [(66, 66), (115, 117)] t t' → z = t.1 66 71 → t'.1 66 71 = t.1 66 71 + 1 → rf_f [71] t t' → rf_ag 115 117 (t.1 66 71) t t' → Q 13 [(0, .inr (.inl 66)), (1, .inl a0), (2, .inl a1), (3, .inl x3), (4, .inl z), (5, .inl y5)] t') : sx_wp true sL sx eX12_enter CALL [(13, [0, 1, 2, 3, 4, 5])] Q R 400 13 [(0, .inr (.inl 66)), (1, .inl a0), (2, .inl a1), (3, .inl x3), (4, .inl x4), (5, .inl x5)] [] t := by
  have h112 := hI.arr 112 (by decide) rfl x3.toNat
  have h108 := hI.arr 108 (by decide) rfl x3.toNat
  repeat' (first | (with_reducible intro _) | (refine And.intro ?_ ?_) | (refine hK _ _ ?_) | (refine hQ _ _ _ _ (by assumption) ?_ ?_ ?_ ?_ ?_ ?_ ?_ ?_ ?_) | (refine hV (by first | omega | (dsimp only at *; omega)) _ ?_) | (refine hB (by first | omega | (dsimp only at *; omega)) _ _ ?_ ?_) | (refine h_name _ _ _ _ _ ?_ ?_ ?_ ?_ ?_ ?_))
  all_goals (try dsimp only)
  all_goals (first | trivial | assumption | omega | (dsimp only at *; omega) | (simp only [sx_w_t] at *; omega) | (subst_vars; dsimp only at *; rw [rf_wid (z := t.2.1 112 x3.toNat + x5) (by omega) (by omega)]) | (subst_vars; assumption) | (subst_vars; dsimp only at *; simp only [sx_w_t] at *; omega))
theorem c_r_enter {sL : Nat} {sx : Nat → Int32} (hsL : sL ≤ 3072) (D d : Nat) (hd : D + 4 ≤ d) : ∀ (y ys : rf_Y) (a0 a1 m : Int) (s : sx_S) (K : Int → sx_S → Prop), cx_I s → (0 ≤ a0 ∧ a0 ≤ 59999) → m = s.2.1 101 a0.toNat → (0 ≤ m ∧ m ≤ 2999) → s.1 66 71 ≤ 399980 → (∀ k : Nat, (k : Int) < s.2.1 108 m.toNat → s.2.1 112 m.toNat + (k : Int) ≤ 119999 ∧ s.2.1 104 a0.toNat + (k : Int) ≤ 119999 ∧ s.2.1 105 (s.2.1 112 m.toNat + (k : Int)).toNat ≠ -1) → rf_dp y ≤ D → rf_bs s y a1 → rf_bs s ys (s.2.1 114 m.toNat) → (∀ (z : Int) (t : sx_S), cx_I t → cx_F [(66, 66), (115, 117)] s t → rf_f [71] s t → rf_ag 115 117 (s.1 66 71) s t → (s.1 66 71 ≤ t.1 66 71 ∧ t.1 66 71 ≤ s.1 66 71 + s.2.1 108 m.toNat + 1) → rf_bs t (rf_bh ys (rf_row (fun k => s.2.1 105 (s.2.1 112 m.toNat + (k : Int)).toNat) (rf_vo s y a0) (s.2.1 108 m.toNat).toNat)) z → K z t) → sx_C sL sx d 188 [.inr (.inl 66), .inl a0, .inl a1] s K := by
  intro y ys a0 a1 m s K hI p0 hm p1 hn hrow hD hy hys hK
  obtain ⟨d, rfl⟩ : ∃ e, d = e + 2 := ⟨d - 2, by omega⟩
  have h108 := hI.arr 108 (by decide) rfl m.toNat
  have h71 := hI.fld 66 71 (by decide) rfl
  subst hm
  generalize hmm : s.2.1 101 a0.toNat = m at *
  refine sx_methL (wr := true) (n := 400) (n' := 400) (stop := [(13, [0, 1, 2, 3, 4, 5])]) (fun n pc ls u => (pc = 13 ∧ ∃ (x4 x5 : Int), ls = [(0, .inr (.inl 66)), (1, .inl a0), (2, .inl a1), (3, .inl m), (4, .inl x4), (5, .inl x5)] ∧ cx_I u ∧ cx_F [(66, 66), (115, 117)] s u ∧ rf_f [71] s u ∧ rf_ag 115 117 (s.1 66 71) s u ∧ u.1 66 71 = s.1 66 71 + x5 ∧ (0 ≤ x5 ∧ x5 ≤ s.2.1 108 m.toNat) ∧ rf_bs u (rf_row (fun k => s.2.1 105 (s.2.1 112 m.toNat + (k : Int)).toNat) (rf_vo s y a0) x5.toNat) x4 ∧ n = (4 - x5).toNat)) hsL (e := eX12_enter) rfl ?_ ?_
  · refine w_enter hI p0 (fun x3 h3 => ?_)
    rw [hmm] at h3
    subst h3
    exact ⟨_, rfl, -1, 0, rfl, hI, cx_F_refl _ _, rf_f_refl _ _, rf_ag_refl _ _ _ _, by omega, by omega, rfl, rfl⟩
  · rintro n pc ls u ⟨rfl, x4, x5, rfl, j1, j2, j3, j4, j5, j6, j7, rfl⟩
    have e101 := (j2.same 101 rfl).2
    have e104 := (j2.same 104 rfl).2
    have e105 := (j2.same 105 rfl).2
    have e108 := (j2.same 108 rfl).2
    have e112 := (j2.same 112 rfl).2
    have e114 := (j2.same 114 rfl).2
    have hr4 := rf_by_hi j7
    have hyu := rf_bs_up hy j4 (by omega)
    have hysu := rf_bs_up hys j4 (by omega)
    have hvo : ∀ k, rf_vo u y a0 k = rf_vo s y a0 k := fun k => by
      unfold rf_vo
      rw [e105, e104]
    refine w_enter_13 (w := rf_vo s y a0 x5.toNat) (PB := fun z t => cx_I t ∧ cx_F [(66, 66), (115, 117)] s t ∧ rf_f [71] s t ∧ rf_ag 115 117 (s.1 66 71) s t ∧ (s.1 66 71 ≤ t.1 66 71 ∧ t.1 66 71 ≤ s.1 66 71 + s.2.1 108 m.toNat + 1) ∧ rf_bs t (rf_bh ys (rf_row (fun k => s.2.1 105 (s.2.1 112 m.toNat + (k : Int)).toNat) (rf_vo s y a0) (s.2.1 108 m.toNat).toNat)) z) (c_r_name hsL (d + 1) (by omega)) j1 p0 p1 (by omega) (by omega) (by omega) ?_ ?_ ?_ ?_ ?_ ?_
    · intro hx
      rw [e108] at hx
      rw [e112]
      have := (hrow x5.toNat (by omega)).1
      omega
    · exact rf_look_in hI hy (hI.arr 105 (by decide) rfl _)
    · intro hx K' hK'
      rw [e108] at hx
      have h4 := (hrow x5.toNat (by omega)).2.1
      refine c_r_varOf hsL D (d + 1) (by omega) y a0 a1 x5 u K' j1 p0 (by omega) (by rw [e104]; omega) hD hyu ?_
      rw [hvo]
      exact hK'
    · intro hx v K' hv hK'
      rw [e108] at hx
      rw [e114] at hv
      subst hv
      have ex : x5 = s.2.1 108 m.toNat := by omega
      refine c_r_behind hsL (d + 1) (by omega) ys _ _ x4 u K' j1 (by omega) hysu j7 (fun z t g1 g2 g3 g4 g5 g6 => hK' z t ⟨g1, cx_F_step g2 rfl j2, rf_f_step g4 rfl j3, rf_ag_trans g5 (by omega) j4, by omega, ?_⟩)
      rw [← ex]
      exact g6
    · rintro z t ⟨g1, g2, g3, g4, g5, g6⟩
      exact hK z t g1 g2 g3 g4 g5 g6
    · intro f y5 z t' g7 hx hf hy5 g1 g2 g3 g4 g5 g6
      rw [e108] at hx
      rw [e105, e112] at hf
      subst hy5
      refine ⟨_, ?_, rfl, z, x5 + 1, rfl, g1, cx_F_step g2 rfl j2, rf_f_step g5 rfl j3, rf_ag_trans g6 (by omega) j4, by omega, by omega, ?_, rfl⟩
      · have h9 := h108.2
        omega
      · have ek : (x5 + 1).toNat = x5.toNat + 1 := by omega
        rw [ek]
        have hfk : f = s.2.1 105 (s.2.1 112 m.toNat + ((x5.toNat : Nat) : Int)).toNat := by
          rw [hf, show ((x5.toNat : Nat) : Int) = x5 from by omega]
        rw [hfk] at g7
        exact rf_bs_one ⟨by omega, by omega⟩ g7 (hrow x5.toNat (by omega)).2.2 (rf_bs_up j7 g6 (by omega))
end
section
/-! ===== the reference: nodes as typed trees ===== -/
def rf_no (s : sx_S) (n : rf_N) (i : Int) : Prop := rf_nd (s.2.1 100) (s.2.1 101) (s.2.1 102) (s.2.1 103) (s.1 66 50) n i
/-- the variables from place i up to place e take the type x to the type y -/
def rf_rp (s : sx_S) (y : rf_T) : rf_T → Int → Int → Prop
  | .leaf, i, e => y = .leaf ∧ i = e
  | .inner n u v A B, i, e => (y = .inner n u v A B ∧ i = e) ∨ (rf_vt s (s.2.1 105 i.toNat) A ∧ rf_rp s y B (i + 1) e)
/-- the unknown of a node before variables, what is left being y -/
def rf_mp (s : sx_S) (j : Nat) (r : Int) (y : rf_T) (e : Int) : Prop := ∃ x : rf_T, ((0 ≤ r ∧ r < s.1 66 45) ∧ rf_at x ≤ 5 ∧ 0 ≤ s.2.1 104 j ∧ e ≤ s.1 66 56) ∧ rf_is s x (s.2.1 123 r.toNat) ∧ rf_rp s y x (s.2.1 104 j) e
def rf_H (s : sx_S) (j : Nat) (k r : Int) (u : rf_T) : Prop := (k = 0 ∧ rf_vt s r u) ∨ (k = 1 ∧ (0 ≤ r ∧ r < s.1 66 42) ∧ rf_is s u (s.2.1 96 r.toNat)) ∨ (k = 2 ∧ rf_vt s r u) ∨ (k = 3 ∧ u = .leaf ∧ ∃ e, rf_mp s j r .leaf e)
def rf_P (_ : Nat) (t : rf_T) : Prop := t = .leaf
/-- variables, types, constants, unknowns, rows are as they were, or more -/
def rf_xu (s t : sx_S) : Prop := rf_tu s t ∧ ∀ j : Nat, (s.1 66 58 ≤ t.1 66 58 ∧ s.1 66 56 ≤ t.1 66 56 ∧ s.1 66 50 ≤ t.1 66 50 ∧ t.1 66 42 = s.1 66 42 ∧ t.1 66 45 = s.1 66 45) ∧ ((j : Int) < s.1 66 58 → t.2.1 106 j = s.2.1 106 j) ∧ ((j : Int) < s.1 66 56 → t.2.1 105 j = s.2.1 105 j) ∧ ((j : Int) < s.1 66 50 → t.2.1 104 j = s.2.1 104 j) ∧ t.2.1 96 j = s.2.1 96 j ∧ t.2.1 123 j = s.2.1 123 j
theorem rf_xu_refl (s : sx_S) : rf_xu s s := ⟨rf_tu_refl s, fun _ => ⟨⟨Int.le_refl _, Int.le_refl _, Int.le_refl _, rfl, rfl⟩, fun _ => rfl, fun _ => rfl, fun _ => rfl, rfl, rfl⟩⟩
theorem rf_xu_trans {s t u : sx_S} (h2 : rf_xu t u) (h1 : rf_xu s t) : rf_xu s u := by
  refine ⟨rf_tu_trans h2.1 h1.1, fun j => ?_⟩
  obtain ⟨⟨a1, a2, a3, a4, a5⟩, a6, a7, a8, a9, a10⟩ := h1.2 j
  obtain ⟨⟨b1, b2, b3, b4, b5⟩, b6, b7, b8, b9, b10⟩ := h2.2 j
  exact ⟨⟨by omega, by omega, by omega, by omega, by omega⟩, fun h => (b6 (by omega)).trans (a6 h), fun h => (b7 (by omega)).trans (a7 h), fun h => (b8 (by omega)).trans (a8 h), b9.trans a9, b10.trans a10⟩
theorem rf_vt_up {s t : sx_S} (h : rf_xu s t) {v : Int} {x : rf_T} (g : rf_vt s v x) : rf_vt t v x := by
  obtain ⟨⟨g1, g2⟩, g3⟩ := g
  obtain ⟨⟨a1, _⟩, a6, _⟩ := h.2 v.toNat
  refine ⟨⟨g1, by omega⟩, ?_⟩
  rw [a6 (by omega)]
  exact rf_is_up g3 h.1
theorem rf_rp_up {s t : sx_S} (h : rf_xu s t) {y : rf_T} : ∀ {x : rf_T} {i e : Int}, 0 ≤ i → e ≤ s.1 66 56 → rf_rp s y x i e → rf_rp t y x i e ∧ i ≤ e
  | .leaf, i, e, h0, h1, g => ⟨g, by have := g.2; omega⟩
  | .inner n u v A B, i, e, h0, h1, g => by
    rcases g with ⟨g1, g2⟩ | ⟨g1, g2⟩
    · exact ⟨Or.inl ⟨g1, g2⟩, by omega⟩
    · obtain ⟨q1, q2⟩ := rf_rp_up h (by omega) h1 g2
      obtain ⟨_, _, a7, _⟩ := h.2 i.toNat
      refine ⟨Or.inr ⟨?_, q1⟩, by omega⟩
      rw [a7 (by omega)]
      exact rf_vt_up h g1
theorem rf_mp_up {s t : sx_S} (h : rf_xu s t) {j : Nat} (hj : (j : Int) < s.1 66 50) {r : Int} {y : rf_T} {e : Int} (g : rf_mp s j r y e) : rf_mp t j r y e := by
  obtain ⟨x, ⟨g1, g2, g3, g4⟩, g5, g6⟩ := g
  obtain ⟨⟨a1, a2, a3, a4, a5⟩, a6, a7, a8, a9, a10⟩ := h.2 j
  have b10 := (h.2 r.toNat).2.2.2.2.2
  refine ⟨x, ⟨by omega, g2, by rw [a8 hj]; exact g3, by omega⟩, ?_, ?_⟩
  · rw [b10]
    exact rf_is_up g5 h.1
  · rw [a8 hj]
    exact (rf_rp_up h g3 g4 g6).1
theorem rf_H_up {s t : sx_S} (h : rf_xu s t) {j : Nat} (hj : (j : Int) < s.1 66 50) {k r : Int} {u : rf_T} (g : rf_H s j k r u) : rf_H t j k r u := by
  rcases g with ⟨g1, g2⟩ | ⟨g1, g2, g3⟩ | ⟨g1, g2⟩ | ⟨g1, g2, e, g3⟩
  · exact Or.inl ⟨g1, rf_vt_up h g2⟩
  · refine Or.inr (Or.inl ⟨g1, ?_, ?_⟩)
    · have := (h.2 0).1
      omega
    · rw [(h.2 r.toNat).2.2.2.2.1]
      exact rf_is_up g3 h.1
  · exact Or.inr (Or.inr (Or.inl ⟨g1, rf_vt_up h g2⟩))
  · exact Or.inr (Or.inr (Or.inr ⟨g1, g2, e, rf_mp_up h hj g3⟩))
theorem rf_gt_up {s t : sx_S} (h : rf_xu s t) {n : rf_N} {i : Int} (hn : rf_no s n i) : (∀ x, (rf_gt (rf_H s) rf_P n).1 x → (rf_gt (rf_H t) rf_P n).1 x) ∧ (∀ x y, (rf_gt (rf_H s) rf_P n).2 x y → (rf_gt (rf_H t) rf_P n).2 x y) :=
  rf_gt_mono (fun j hj => ⟨fun k r u g => rf_H_up h (rf_nd_lt hn j hj) g, fun _ g => g⟩)
/-! chains of LAMs -/
def rf_ch : List (Nat × Int) → rf_N → rf_N
  | [], b => b
  | c :: l, b => rf_n c.1 0 c.2 (rf_ch l b) .leaf
def rf_cl : List (Nat × Int) → Nat → Nat
  | [], d => d
  | c :: l, _ => rf_cl l c.1
def rf_ct (s : sx_S) : List (Nat × Int) → rf_T → rf_T → Prop
  | [], x, y => x = y
  | c :: l, x, y => ∃ A B, x = rf_a A B ∧ rf_vt s c.2 A ∧ rf_ct s l B y
theorem rf_ct_up {s t : sx_S} (h : rf_xu s t) : ∀ {C : List (Nat × Int)} {x y : rf_T}, rf_ct s C x y → rf_ct t C x y
  | [], _, _, g => g
  | c :: l, _, _, ⟨A, B, g1, g2, g3⟩ => ⟨A, B, g1, rf_vt_up h g2, rf_ct_up h g3⟩
theorem rf_ct_snoc {s : sx_S} {j : Nat} {v : Int} {A B : rf_T} (hv : rf_vt s v A) : ∀ {C : List (Nat × Int)} {x : rf_T}, rf_ct s C x (rf_a A B) → rf_ct s (C ++ [(j, v)]) x B
  | [], x, g => ⟨A, B, g, hv, rfl⟩
  | c :: l, x, ⟨A', B', g1, g2, g3⟩ => ⟨A', B', g1, g2, rf_ct_snoc hv g3⟩
/-- a chain over what is of the type left -/
theorem rf_ct_gt {s : sx_S} {b : rf_N} : ∀ {C : List (Nat × Int)} {x y : rf_T}, rf_ct s C x y → (rf_gt (rf_H s) rf_P b).1 y → (rf_gt (rf_H s) rf_P (rf_ch C b)).1 x
  | [], x, y, g, h => by
    have e : x = y := g
    rw [e]
    exact h
  | c :: l, x, y, ⟨A, B, g1, g2, g3⟩, h => Or.inl ⟨rfl, A, B, g1, Or.inl ⟨rfl, g2⟩, rf_ct_gt g3 h⟩
theorem rf_ch_idx {b : rf_N} : ∀ {C : List (Nat × Int)} {j : Nat}, j ∈ rf_idx (rf_ch C b) ↔ j ∈ C.map Prod.fst ∨ j ∈ rf_idx b
  | [], j => ⟨Or.inr, fun h => h.elim (fun q => absurd q List.not_mem_nil) id⟩
  | c :: l, j => by
    have ih := rf_ch_idx (b := b) (C := l) (j := j)
    show j ∈ c.1 :: (rf_idx (rf_ch l b) ++ []) ↔ j ∈ c.1 :: l.map Prod.fst ∨ _
    rw [List.append_nil, List.mem_cons, List.mem_cons, ih, or_assoc]
theorem rf_ch_nodup {b : rf_N} (hb : (rf_idx b).Nodup) : ∀ {C : List (Nat × Int)}, (C.map Prod.fst).Nodup → (∀ j ∈ C.map Prod.fst, j ∉ rf_idx b) → (rf_idx (rf_ch C b)).Nodup
  | [], _, _ => hb
  | c :: l, h, hd => by
    obtain ⟨h1, h2⟩ := List.nodup_cons.mp h
    show (c.1 :: (rf_idx (rf_ch l b) ++ [])).Nodup
    rw [List.append_nil]
    refine List.nodup_cons.mpr ⟨fun q => ?_, rf_ch_nodup hb h2 (fun j hj => hd j (List.mem_cons_of_mem _ hj))⟩
    rcases rf_ch_idx.mp q with q | q
    · exact h1 q
    · exact hd c.1 List.mem_cons_self q
theorem rf_cl_mem : ∀ {C : List (Nat × Int)} {d : Nat}, C ≠ [] → rf_cl C d ∈ C.map Prod.fst
  | [], _, h => absurd rfl h
  | [c], _, _ => List.mem_cons_self
  | c :: c' :: l, d, _ => List.mem_cons_of_mem _ (rf_cl_mem (C := c' :: l) (d := c.1) (fun h => by cases h))
theorem rf_cl_snoc {j : Nat} {v : Int} : ∀ {C : List (Nat × Int)} {d : Nat}, rf_cl (C ++ [(j, v)]) d = j
  | [], _ => rfl
  | c :: l, d => rf_cl_snoc (C := l) (d := c.1)
/-- what the last LAM of a chain gets as its body -/
theorem rf_ch_set {K R F X F' : Nat → Int} {N p : Int} {tp : rf_N} (hp : rf_nd K R F' X N tp p) : ∀ {C : List (Nat × Int)} {i : Int} {d : Nat}, C ≠ [] → (C.map Prod.fst).Nodup → (∀ j, j ≠ rf_cl C d → F' j = F j) → F' (rf_cl C d) = p → rf_nd K R F X N (rf_ch C .leaf) i → rf_nd K R F' X N (rf_ch C tp) i
  | [], _, _, h, _, _, _, _ => absurd rfl h
  | [c], i, d, _, _, hF, hl, g => by
    obtain ⟨g1, g2, g3, g4⟩ := g
    refine ⟨g1, g2, ?_, g4⟩
    have e : F' c.1 = p := hl
    rw [e]
    exact hp
  | c :: c' :: l, i, d, _, hn, hF, hl, g => by
    obtain ⟨g1, g2, g3, g4⟩ := g
    obtain ⟨n1, n2⟩ := List.nodup_cons.mp hn
    refine ⟨g1, g2, ?_, g4⟩
    have hm : rf_cl (c' :: l) c.1 ∈ (c' :: l).map Prod.fst := rf_cl_mem (fun h => by cases h)
    have e : F' c.1 = F c.1 := hF c.1 (fun q => n1 (by rw [q]; exact hm))
    rw [e]
    exact rf_ch_set hp (C := c' :: l) (d := c.1) (fun h => by cases h) n2 hF hl g3
theorem rf_ch_snoc {j : Nat} {v : Int} {b : rf_N} : ∀ {C : List (Nat × Int)}, rf_ch (C ++ [(j, v)]) b = rf_ch C (rf_n j 0 v b .leaf)
  | [] => rfl
  | c :: l => by
    show rf_n c.1 0 c.2 (rf_ch (l ++ [(j, v)]) b) .leaf = _
    rw [rf_ch_snoc (C := l)]
    rfl
theorem rf_ch_wh {b : rf_N} : ∀ {C : List (Nat × Int)}, (rf_wh (rf_ch C b)).1 = C.length + (rf_wh b).1
  | [] => (Nat.zero_add _).symm
  | c :: l => by
    show (if (0 : Int) = 3 then 5 else if (0 : Int) = 0 then 1 + (rf_wh (rf_ch l b)).1 else 1 + (rf_wh (rf_ch l b)).2) = _
    rw [if_neg (by decide), if_pos rfl, rf_ch_wh (C := l), List.length_cons]
    omega
theorem rf_ch_oc {b : rf_N} {m : Int} : ∀ {C : List (Nat × Int)}, (rf_oc (rf_ch C b)).1 m ↔ (rf_oc b).1 m
  | [] => Iff.rfl
  | c :: l => by
    have ih := rf_ch_oc (b := b) (m := m) (C := l)
    constructor
    · rintro (⟨h, _⟩ | ⟨_, h⟩ | ⟨h, _⟩)
      · exact absurd (show (0 : Int) = 3 from h) (by decide)
      · exact ih.mp h
      · exact absurd (show (0 : Int) = 1 ∨ (0 : Int) = 2 from h) (by decide)
    · exact fun h => Or.inr (Or.inl ⟨rfl, ih.mpr h⟩)
theorem rf_ct_len {s : sx_S} : ∀ {C : List (Nat × Int)} {x y : rf_T}, rf_ct s C x y → C.length + rf_at y ≤ rf_at x
  | [], x, y, g => by
    have e : x = y := g
    rw [e]
    exact Nat.le_of_eq (Nat.zero_add _)
  | c :: l, x, y, ⟨A, B, g1, g2, g3⟩ => by
    have := rf_ct_len g3
    have h1 := rf_at_pos A
    rw [g1, List.length_cons]
    show _ ≤ rf_at A + rf_at B
    omega
end
section
/-! ===== the reference: the variable that a long form is ===== -/
/-- j LAMs down from n is b -/
def rf_dn (b : rf_N) : Nat → rf_N → Prop
  | 0, n => n = b
  | _ + 1, .leaf => False
  | j + 1, .inner _ k _ f _ => k.1 = 0 ∧ rf_dn b j f
theorem rf_dn_snoc {i : Nat} {k : Int × Int} {u : Unit} {f x : rf_N} (hk : k.1 = 0) : ∀ {j : Nat} {n : rf_N}, rf_dn (.inner i k u f x) j n → rf_dn f (j + 1) n
  | 0, n, h => by
    have e : n = .inner i k u f x := h
    rw [e]
    exact ⟨hk, rfl⟩
  | j + 1, .leaf, h => h.elim
  | j + 1, .inner _ _ _ _ _, h => ⟨h.1, rf_dn_snoc hk h.2⟩
theorem w_var {CALL : sx_Ca} {sL : Nat} {sx : Nat → Int32} {Q : Nat → sx_L → sx_S → Prop} {R : Int → sx_S → Prop} {s : sx_S} {a0 : Int} (hI : cx_I s) (hQ : Q 4 [(0, .inr (.inl 66)), (1, .inl a0), (2, .inl 0), (3, .inl a0)] s) : sx_wp true sL sx eX12_variable CALL [(4, [0, 1, 2, 3]), (52, [0, 2, 3, 4, 5, 6])] Q R 400 0 (sx_argsF 0 [.inr (.inl 66), .inl a0]) [] s := by
  exact hQ
theorem w_var_4 {CALL : sx_Ca} {sL : Nat} {sx : Nat → Int32} {Q : Nat → sx_L → sx_S → Prop} {R : Int → sx_S → Prop} {s : sx_S} {a0 x2 x3 : Int} (hI : cx_I s) (q2 : 0 ≤ x2 ∧ x2 ≤ 1000000) (q3 : 0 ≤ x3 ∧ x3 ≤ 59999) (hQ4 : s.2.1 100 x3.toNat = 0 → ∀ u y2 : Int, u = s.2.1 102 x3.toNat → y2 = x2 + 1 → Q 4 [(0, .inr (.inl 66)), (1, .inl a0), (2, .inl y2), (3, .inl u)] s) (hQ52 : s.2.1 100 x3.toNat = 2 → ∀ u : Int, u = s.2.1 102 x3.toNat → Q 52 [(0, .inr (.inl 66)), (2, .inl x2), (3, .inl x3), (4, .inl a0), (5, .inl u), (6, .inl 0)] s) (hK : s.2.1 100 x3.toNat ≠ 0 → s.2.1 100 x3.toNat ≠ 2 → R (-1) s) : sx_wp true sL sx eX12_variable CALL [(4, [0, 1, 2, 3]), (52, [0, 2, 3, 4, 5, 6])] Q R 400 4 [(0, .inr (.inl 66)), (1, .inl a0), (2, .inl x2), (3, .inl x3)] [] s := by
  repeat' (first | (with_reducible intro _) | (refine And.intro ?_ ?_) | (refine hK ?_ ?_) | (refine hQ4 ?_ _ _ ?_ ?_) | (refine hQ52 ?_ _ ?_))
  all_goals (try dsimp only)
  all_goals (first | trivial | assumption | omega | (dsimp only at *; omega) | (simp only [sx_w_t] at *; omega) | (exfalso; omega) | (subst_vars; omega) | (subst_vars; assumption) | (subst_vars; dsimp only at *; omega) | (subst_vars; dsimp only at *; simp only [sx_w_t] at *; omega) | (exfalso; subst_vars; omega))
theorem rf_vt_inj {s : sx_S} {v : Int} {x y : rf_T} (h : rf_vt s v x) (g : rf_vt s v y) : x = y := rf_ty_inj h.2 g.2
theorem rf_H_0 {s : sx_S} {j : Nat} {k r : Int} {u : rf_T} (h : rf_H s j k r u) (hk : k = 0) : rf_vt s r u := by
  rcases h with ⟨_, h⟩ | ⟨h, _⟩ | ⟨h, _⟩ | ⟨h, _⟩
  · exact h
  · omega
  · omega
  · omega
theorem rf_H_2 {s : sx_S} {j : Nat} {k r : Int} {u : rf_T} (h : rf_H s j k r u) (hk : k = 2) : rf_vt s r u := by
  rcases h with ⟨h, _⟩ | ⟨h, _⟩ | ⟨_, h⟩ | ⟨h, _⟩
  · omega
  · omega
  · exact h
  · omega
theorem rf_wh_0 {j : Nat} {k : Int × Int} {u : Unit} {f x : rf_N} (h : k.1 = 0) : (rf_wh (.inner j k u f x)).1 = 1 + (rf_wh f).1 := by
  show (if k.1 = 3 then 5 else if k.1 = 0 then 1 + (rf_wh f).1 else 1 + (rf_wh f).2) = _
  rw [if_neg (by omega), if_pos h]
theorem rf_wh_2 {j : Nat} {k : Int × Int} {u : Unit} {f x : rf_N} (h : k.1 = 1 ∨ k.1 = 2) : (rf_wh (.inner j k u f x)).1 = 1 + (rf_wh f).2 := by
  show (if k.1 = 3 then 5 else if k.1 = 0 then 1 + (rf_wh f).1 else 1 + (rf_wh f).2) = _
  rw [if_neg (by omega), if_neg (by omega)]
theorem rf_wh_pos {j : Nat} {k : Int × Int} {u : Unit} {f x : rf_N} : 1 ≤ (rf_wh (.inner j k u f x)).1 := by
  show 1 ≤ (if k.1 = 3 then 5 else if k.1 = 0 then 1 + (rf_wh f).1 else 1 + (rf_wh f).2)
  split
  · decide
  · split <;> omega
theorem rf_wh_le {j : Nat} {k : Int × Int} {u : Unit} {f x : rf_N} : (rf_wh (.inner j k u f x)).1 ≤ (rf_wh (.inner j k u f x)).2 ∧ (rf_wh x).2 ≤ (rf_wh (.inner j k u f x)).2 := ⟨Nat.le_max_left _ _, Nat.le_max_right _ _⟩
end
section
/-! ===== the reference: metas are given; actual variables ===== -/
def rf_ro (a b : Nat) (r : Int) (s t : sx_S) : Prop := ∀ p j : Nat, a ≤ p → p ≤ b → (j : Int) ≠ r → t.2.1 p j = s.2.1 p j
theorem rf_ro_refl (a b : Nat) (r : Int) (s : sx_S) : rf_ro a b r s s := fun _ _ _ _ _ => rfl
theorem rf_ro_uf {a b : Nat} {r : Int} {s : sx_S} {F : Nat → Nat → Int} {B : (Nat → Nat → Int) × (Nat → Nat → Int) × Nat} {p k : Nat} {v : Int} (h : rf_ro a b r s (F, B)) : rf_ro a b r s (sx_uf F p k v, B) := h
theorem rf_ro_ua {a b : Nat} {r : Int} {s : sx_S} {F A : Nat → Nat → Int} {B : (Nat → Nat → Int) × Nat} {p : Nat} {k v : Int} (hk : k = r) (hk0 : 0 ≤ k) (h : rf_ro a b r s (F, A, B)) : rf_ro a b r s (F, sx_ua A p k.toNat v, B) := by
  intro q j h1 h2 h3
  show sx_ua A p k.toNat v q j = _
  rw [sx_ua_if]
  split
  · rw [if_neg (by omega)]
    exact h q j h1 h2 h3
  · exact h q j h1 h2 h3
theorem rf_ro_uo {a b : Nat} {r : Int} {s : sx_S} {F A : Nat → Nat → Int} {B : (Nat → Nat → Int) × Nat} {p k : Nat} {v : Int} (hp : (Nat.blt p a || Nat.blt b p) = true) (h : rf_ro a b r s (F, A, B)) : rf_ro a b r s (F, sx_ua A p k v, B) := by
  intro q j h1 h2 h3
  show sx_ua A p k v q j = _
  rw [Bool.or_eq_true] at hp
  have hp' : p < a ∨ b < p := hp.elim (fun z => Or.inl (Nat.ble_eq.mp z)) (fun z => Or.inr (Nat.ble_eq.mp z))
  rw [sx_ua_ne (by omega)]
  exact h q j h1 h2 h3

theorem w_r_assign {CALL : sx_Ca} {sL : Nat} {sx : Nat → Int32} {Q : Nat → sx_L → sx_S → Prop} {R : Int → sx_S → Prop} {s : sx_S} {a0 a1 a2 a3 : Int} (hI : cx_I s) (p0 : (0 ≤ a0 ∧ a0 ≤ 2999)) (p1 : (0 ≤ a1 ∧ a1 ≤ 120000)) (p2 : (0 ≤ a2 ∧ a2 ≤ 59999)) (p3 : (-1 ≤ a3 ∧ a3 ≤ 399999)) (p4 : (0 ≤ s.1 66 70 ∧ s.1 66 70 ≤ 1000000)) (hK : ∀ (z : Int) (t : sx_S), cx_I t → cx_F [(66, 66), (111, 114)] s t → (rf_f [70] s t) → (t.1 66 70 = s.1 66 70 + 1) → (rf_ro 111 114 a0 s t) → (t.2.1 111 a0.toNat = 1 ∧ t.2.1 112 a0.toNat = a1 ∧ t.2.1 113 a0.toNat = a2 ∧ t.2.1 114 a0.toNat = a3) → R z t) : sx_wp true sL sx eX12_assign CALL [] Q R 400 0 (sx_argsF 0 [.inr (.inl 66), .inl a0, .inl a1, .inl a2, .inl a3]) [] s := by
  repeat' (first | (with_reducible intro _) | (refine And.intro ?_ ?_) | (refine hK _ _ ?_ ?_ ?_ ?_ ?_ ?_))
  all_goals (try dsimp only)
  repeat' (first | (with_reducible assumption) | ((with_reducible (change cx_I (sx_uf _ _ _ _, _))); refine cx_I_uf rfl rfl ?_ ?_ ?_) | ((with_reducible (change cx_I (_, sx_ua _ _ _ _, _))); refine cx_I_ua rfl rfl ?_ ?_ ?_) | ((with_reducible (change cx_I (_, sx_ua _ 16 _ _, _))); refine cx_I_ari ?_ ?_ ?_) | ((with_reducible (change cx_I (sx_uf _ 11 6 _, _))); refine cx_I_ufA rfl ?_ ?_ ?_ ?_) | (with_reducible exact cx_F_refl _ _) | ((with_reducible (change cx_F _ _ (sx_uf _ _ _ _, _))); refine cx_F_uf rfl ?_) | ((with_reducible (change cx_F _ _ (_, sx_ua _ _ _ _, _))); refine cx_F_ua rfl ?_) | ((with_reducible (change cx_I (_, sx_cpy _ _ _ _ _ _, _))); refine cx_I_cpy rfl rfl rfl (by decide) ?_) | ((with_reducible (change cx_F _ _ (_, sx_cpy _ _ _ _ _ _, _))); refine cx_F_cpy rfl ?_) | ((with_reducible (change cx_F _ _ _)); refine cx_F_step (by assumption) rfl ?_) | ((with_reducible (change rf_f _ _ (sx_uf _ 66 _ _, _))); refine rf_f_uf rfl ?_) | ((with_reducible (change rf_f _ _ _)); exact (fun _ _ => rfl)) | ((with_reducible (change rf_f _ _ (_, sx_ua _ _ _ _, _))); refine rf_f_ua ?_) | ((with_reducible (change rf_f _ _ _)); assumption) | ((with_reducible (change rf_f _ _ _)); refine rf_f_step (by assumption) rfl ?_) | ((with_reducible (change rf_f _ _ _)); refine rf_f_F (by assumption) rfl ?_) | ((with_reducible (change rf_A _ (sx_uf _ _ _ _, _))); refine rf_A_uf ?_) | ((with_reducible (change rf_A _ (_, sx_ua _ _ _ _, _))); refine rf_A_ua rfl ?_) | ((with_reducible (change rf_A _ _)); assumption) | ((with_reducible (change rf_A _ _)); refine rf_A_F (by assumption) rfl ?_) | ((with_reducible (change rf_ag _ _ _ _ _)); assumption) | ((with_reducible (change rf_ag _ _ _ _ _)); exact rf_ag_refl _ _ _ _) | ((with_reducible (change rf_ag _ _ _ _ (sx_uf _ _ _ _, _))); refine rf_ag_uf ?_) | ((with_reducible (change rf_ag _ _ _ _ (_, sx_ua _ _ _ _, _))); refine rf_ag_uo rfl ?_) | ((with_reducible (change rf_ag _ _ _ _ (_, sx_ua _ _ _ _, _))); refine rf_ag_ua (by (first | omega | (dsimp only at *; omega) | (simp only [sx_uf_if, sx_ua_if, sx_w_t, true_and, and_true, and_self, and_false, false_and, if_true, if_false, reduceIte] at *; omega) | rfl)) (by (first | omega | (dsimp only at *; omega) | (simp only [sx_uf_if, sx_ua_if, sx_w_t, true_and, and_true, and_self, and_false, false_and, if_true, if_false, reduceIte] at *; omega) | rfl)) ?_) | ((with_reducible (change rf_ag _ _ _ _ _)); refine rf_ag_F (by assumption) rfl ?_) | ((with_reducible (change rf_ag _ _ _ _ _)); refine rf_ag_trans (by assumption) (by (first | omega | (dsimp only at *; omega) | (simp only [sx_uf_if, sx_ua_if, sx_w_t, true_and, and_true, and_self, and_false, false_and, if_true, if_false, reduceIte] at *; omega) | rfl)) ?_) | ((with_reducible (change rf_ro _ _ _ _ _)); assumption) | ((with_reducible (change rf_ro _ _ _ _ _)); exact rf_ro_refl _ _ _ _) | ((with_reducible (change rf_ro _ _ _ _ (sx_uf _ _ _ _, _))); refine rf_ro_uf ?_) | ((with_reducible (change rf_ro _ _ _ _ (_, sx_ua _ _ _ _, _))); refine rf_ro_uo rfl ?_) | ((with_reducible (change rf_ro _ _ _ _ (_, sx_ua _ _ _ _, _))); refine rf_ro_ua (by (first | omega | (dsimp only at *; omega) | (simp only [sx_uf_if, sx_ua_if, sx_w_t, true_and, and_true, and_self, and_false, false_and, if_true, if_false, reduceIte] at *; omega) | rfl)) (by (first | omega | (dsimp only at *; omega) | (simp only [sx_uf_if, sx_ua_if, sx_w_t, true_and, and_true, and_self, and_false, false_and, if_true, if_false, reduceIte] at *; omega) | rfl)) ?_) | fail)
  repeat' (first | (with_reducible assumption) | ((with_reducible (change cx_I (sx_uf _ _ _ _, _))); refine cx_I_uf rfl rfl ?_ ?_ ?_) | ((with_reducible (change cx_I (_, sx_ua _ _ _ _, _))); refine cx_I_ua rfl rfl ?_ ?_ ?_) | ((with_reducible (change cx_I (_, sx_ua _ 16 _ _, _))); refine cx_I_ari ?_ ?_ ?_) | ((with_reducible (change cx_I (sx_uf _ 11 6 _, _))); refine cx_I_ufA rfl ?_ ?_ ?_ ?_) | (with_reducible exact cx_F_refl _ _) | ((with_reducible (change cx_F _ _ (sx_uf _ _ _ _, _))); refine cx_F_uf rfl ?_) | ((with_reducible (change cx_F _ _ (_, sx_ua _ _ _ _, _))); refine cx_F_ua rfl ?_) | ((with_reducible (change cx_I (_, sx_cpy _ _ _ _ _ _, _))); refine cx_I_cpy rfl rfl rfl (by decide) ?_) | ((with_reducible (change cx_F _ _ (_, sx_cpy _ _ _ _ _ _, _))); refine cx_F_cpy rfl ?_) | ((with_reducible (change cx_F _ _ _)); refine cx_F_step (by assumption) rfl ?_) | ((with_reducible (change rf_f _ _ (sx_uf _ 66 _ _, _))); refine rf_f_uf rfl ?_) | ((with_reducible (change rf_f _ _ _)); exact (fun _ _ => rfl)) | ((with_reducible (change rf_f _ _ (_, sx_ua _ _ _ _, _))); refine rf_f_ua ?_) | ((with_reducible (change rf_f _ _ _)); assumption) | ((with_reducible (change rf_f _ _ _)); refine rf_f_step (by assumption) rfl ?_) | ((with_reducible (change rf_f _ _ _)); refine rf_f_F (by assumption) rfl ?_) | ((with_reducible (change rf_A _ (sx_uf _ _ _ _, _))); refine rf_A_uf ?_) | ((with_reducible (change rf_A _ (_, sx_ua _ _ _ _, _))); refine rf_A_ua rfl ?_) | ((with_reducible (change rf_A _ _)); assumption) | ((with_reducible (change rf_A _ _)); refine rf_A_F (by assumption) rfl ?_) | fail)
  all_goals (first | trivial | omega | (dsimp only at *; omega) | (simp only [sx_uf_if, sx_ua_if, sx_w_t, true_and, and_true, and_self, and_false, false_and, if_true, if_false, reduceIte] at *; omega) | (subst_vars; omega) | (subst_vars; simp only [sx_uf_if, sx_ua_if, sx_w_t, true_and, and_true, and_self, and_false, false_and, if_true, if_false, reduceIte] at *; omega) | (subst_vars; rfl) | (subst_vars; decide) | (simp only [sx_uf_if, sx_ua_if, sx_w_t, true_and, and_true, and_self, and_false, false_and, if_true, if_false, reduceIte]; done) | (subst_vars; simp only [sx_uf_if, sx_ua_if, sx_w_t, true_and, and_true, and_self, and_false, false_and, if_true, if_false, reduceIte]; done))

theorem c_r_assign {sL : Nat} {sx : Nat → Int32} (hsL : sL ≤ 3072) (d : Nat) (hd : 2 ≤ d) : ∀ (a0 a1 a2 a3 : Int) (s : sx_S) (K : Int → sx_S → Prop), cx_I s → (0 ≤ a0 ∧ a0 ≤ 2999) → (0 ≤ a1 ∧ a1 ≤ 120000) → (0 ≤ a2 ∧ a2 ≤ 59999) → (-1 ≤ a3 ∧ a3 ≤ 399999) → (0 ≤ s.1 66 70 ∧ s.1 66 70 ≤ 1000000) → (∀ (z : Int) (t : sx_S), cx_I t → cx_F [(66, 66), (111, 114)] s t → (rf_f [70] s t) → (t.1 66 70 = s.1 66 70 + 1) → (rf_ro 111 114 a0 s t) → (t.2.1 111 a0.toNat = 1 ∧ t.2.1 112 a0.toNat = a1 ∧ t.2.1 113 a0.toNat = a2 ∧ t.2.1 114 a0.toNat = a3) → K z t) → sx_C sL sx d 191 [.inr (.inl 66), .inl a0, .inl a1, .inl a2, .inl a3] s K := by
  intro a0 a1 a2 a3 s K hI p0 p1 p2 p3 p4 hK
  obtain ⟨d, rfl⟩ : ∃ e, d = e + 2 := ⟨d - 2, by omega⟩
  exact sx_meth (wr := true) (n := 400) hsL (e := eX12_assign) rfl (w_r_assign (Q := fun _ _ _ => False)  hI p0 p1 p2 p3 p4 hK)

theorem w_r_addType {CALL : sx_Ca} {sL : Nat} {sx : Nat → Int32} {Q : Nat → sx_L → sx_S → Prop} {R : Int → sx_S → Prop} {s : sx_S} {a0 a1 : Int} (hI : cx_I s) (p0 : (0 ≤ a0 ∧ a0 ≤ 2999)) (p1 : (0 ≤ a1 ∧ a1 ≤ 5999)) (p2 : (s.1 66 64 ≤ 19999)) (p3 : (s.2.1 108 a0.toNat ≤ 3)) (hK : ∀ (z : Int) (t : sx_S), cx_I t → cx_F [(66, 66), (108, 108), (110, 110)] s t → (rf_f [64] s t) → (t.1 66 64 = s.1 66 64 + 1) → (rf_ag 110 110 (s.1 66 64) s t) → (t.2.1 110 (s.1 66 64).toNat = a1) → (rf_ro 108 108 a0 s t) → (t.2.1 108 a0.toNat = s.2.1 108 a0.toNat + 1) → R z t) : sx_wp true sL sx eX12_addType CALL [] Q R 400 0 (sx_argsF 0 [.inr (.inl 66), .inl a0, .inl a1]) [] s := by
  repeat' (first | (with_reducible intro _) | (refine And.intro ?_ ?_) | (refine hK _ _ ?_ ?_ ?_ ?_ ?_ ?_ ?_ ?_))
  all_goals (try dsimp only)
  repeat' (first | (with_reducible assumption) | ((with_reducible (change cx_I (sx_uf _ _ _ _, _))); refine cx_I_uf rfl rfl ?_ ?_ ?_) | ((with_reducible (change cx_I (_, sx_ua _ _ _ _, _))); refine cx_I_ua rfl rfl ?_ ?_ ?_) | ((with_reducible (change cx_I (_, sx_ua _ 16 _ _, _))); refine cx_I_ari ?_ ?_ ?_) | ((with_reducible (change cx_I (sx_uf _ 11 6 _, _))); refine cx_I_ufA rfl ?_ ?_ ?_ ?_) | (with_reducible exact cx_F_refl _ _) | ((with_reducible (change cx_F _ _ (sx_uf _ _ _ _, _))); refine cx_F_uf rfl ?_) | ((with_reducible (change cx_F _ _ (_, sx_ua _ _ _ _, _))); refine cx_F_ua rfl ?_) | ((with_reducible (change cx_I (_, sx_cpy _ _ _ _ _ _, _))); refine cx_I_cpy rfl rfl rfl (by decide) ?_) | ((with_reducible (change cx_F _ _ (_, sx_cpy _ _ _ _ _ _, _))); refine cx_F_cpy rfl ?_) | ((with_reducible (change cx_F _ _ _)); refine cx_F_step (by assumption) rfl ?_) | ((with_reducible (change rf_f _ _ (sx_uf _ 66 _ _, _))); refine rf_f_uf rfl ?_) | ((with_reducible (change rf_f _ _ _)); exact (fun _ _ => rfl)) | ((with_reducible (change rf_f _ _ (_, sx_ua _ _ _ _, _))); refine rf_f_ua ?_) | ((with_reducible (change rf_f _ _ _)); assumption) | ((with_reducible (change rf_f _ _ _)); refine rf_f_step (by assumption) rfl ?_) | ((with_reducible (change rf_f _ _ _)); refine rf_f_F (by assumption) rfl ?_) | ((with_reducible (change rf_A _ (sx_uf _ _ _ _, _))); refine rf_A_uf ?_) | ((with_reducible (change rf_A _ (_, sx_ua _ _ _ _, _))); refine rf_A_ua rfl ?_) | ((with_reducible (change rf_A _ _)); assumption) | ((with_reducible (change rf_A _ _)); refine rf_A_F (by assumption) rfl ?_) | ((with_reducible (change rf_ag _ _ _ _ _)); assumption) | ((with_reducible (change rf_ag _ _ _ _ _)); exact rf_ag_refl _ _ _ _) | ((with_reducible (change rf_ag _ _ _ _ (sx_uf _ _ _ _, _))); refine rf_ag_uf ?_) | ((with_reducible (change rf_ag _ _ _ _ (_, sx_ua _ _ _ _, _))); refine rf_ag_uo rfl ?_) | ((with_reducible (change rf_ag _ _ _ _ (_, sx_ua _ _ _ _, _))); refine rf_ag_ua (by (first | omega | (dsimp only at *; omega) | (simp only [sx_uf_if, sx_ua_if, sx_w_t, true_and, and_true, and_self, and_false, false_and, if_true, if_false, reduceIte] at *; omega) | rfl)) (by (first | omega | (dsimp only at *; omega) | (simp only [sx_uf_if, sx_ua_if, sx_w_t, true_and, and_true, and_self, and_false, false_and, if_true, if_false, reduceIte] at *; omega) | rfl)) ?_) | ((with_reducible (change rf_ag _ _ _ _ _)); refine rf_ag_F (by assumption) rfl ?_) | ((with_reducible (change rf_ag _ _ _ _ _)); refine rf_ag_trans (by assumption) (by (first | omega | (dsimp only at *; omega) | (simp only [sx_uf_if, sx_ua_if, sx_w_t, true_and, and_true, and_self, and_false, false_and, if_true, if_false, reduceIte] at *; omega) | rfl)) ?_) | ((with_reducible (change rf_ro _ _ _ _ _)); assumption) | ((with_reducible (change rf_ro _ _ _ _ _)); exact rf_ro_refl _ _ _ _) | ((with_reducible (change rf_ro _ _ _ _ (sx_uf _ _ _ _, _))); refine rf_ro_uf ?_) | ((with_reducible (change rf_ro _ _ _ _ (_, sx_ua _ _ _ _, _))); refine rf_ro_uo rfl ?_) | ((with_reducible (change rf_ro _ _ _ _ (_, sx_ua _ _ _ _, _))); refine rf_ro_ua (by (first | omega | (dsimp only at *; omega) | (simp only [sx_uf_if, sx_ua_if, sx_w_t, true_and, and_true, and_self, and_false, false_and, if_true, if_false, reduceIte] at *; omega) | rfl)) (by (first | omega | (dsimp only at *; omega) | (simp only [sx_uf_if, sx_ua_if, sx_w_t, true_and, and_true, and_self, and_false, false_and, if_true, if_false, reduceIte] at *; omega) | rfl)) ?_) | fail)
  repeat' (first | (with_reducible assumption) | ((with_reducible (change cx_I (sx_uf _ _ _ _, _))); refine cx_I_uf rfl rfl ?_ ?_ ?_) | ((with_reducible (change cx_I (_, sx_ua _ _ _ _, _))); refine cx_I_ua rfl rfl ?_ ?_ ?_) | ((with_reducible (change cx_I (_, sx_ua _ 16 _ _, _))); refine cx_I_ari ?_ ?_ ?_) | ((with_reducible (change cx_I (sx_uf _ 11 6 _, _))); refine cx_I_ufA rfl ?_ ?_ ?_ ?_) | (with_reducible exact cx_F_refl _ _) | ((with_reducible (change cx_F _ _ (sx_uf _ _ _ _, _))); refine cx_F_uf rfl ?_) | ((with_reducible (change cx_F _ _ (_, sx_ua _ _ _ _, _))); refine cx_F_ua rfl ?_) | ((with_reducible (change cx_I (_, sx_cpy _ _ _ _ _ _, _))); refine cx_I_cpy rfl rfl rfl (by decide) ?_) | ((with_reducible (change cx_F _ _ (_, sx_cpy _ _ _ _ _ _, _))); refine cx_F_cpy rfl ?_) | ((with_reducible (change cx_F _ _ _)); refine cx_F_step (by assumption) rfl ?_) | ((with_reducible (change rf_f _ _ (sx_uf _ 66 _ _, _))); refine rf_f_uf rfl ?_) | ((with_reducible (change rf_f _ _ _)); exact (fun _ _ => rfl)) | ((with_reducible (change rf_f _ _ (_, sx_ua _ _ _ _, _))); refine rf_f_ua ?_) | ((with_reducible (change rf_f _ _ _)); assumption) | ((with_reducible (change rf_f _ _ _)); refine rf_f_step (by assumption) rfl ?_) | ((with_reducible (change rf_f _ _ _)); refine rf_f_F (by assumption) rfl ?_) | ((with_reducible (change rf_A _ (sx_uf _ _ _ _, _))); refine rf_A_uf ?_) | ((with_reducible (change rf_A _ (_, sx_ua _ _ _ _, _))); refine rf_A_ua rfl ?_) | ((with_reducible (change rf_A _ _)); assumption) | ((with_reducible (change rf_A _ _)); refine rf_A_F (by assumption) rfl ?_) | fail)
  all_goals (first | trivial | omega | (dsimp only at *; omega) | (simp only [sx_uf_if, sx_ua_if, sx_w_t, true_and, and_true, and_self, and_false, false_and, if_true, if_false, reduceIte] at *; omega) | (subst_vars; omega) | (subst_vars; simp only [sx_uf_if, sx_ua_if, sx_w_t, true_and, and_true, and_self, and_false, false_and, if_true, if_false, reduceIte] at *; omega) | (subst_vars; rfl) | (subst_vars; decide) | (simp only [sx_uf_if, sx_ua_if, sx_w_t, true_and, and_true, and_self, and_false, false_and, if_true, if_false, reduceIte]; done) | (subst_vars; simp only [sx_uf_if, sx_ua_if, sx_w_t, true_and, and_true, and_self, and_false, false_and, if_true, if_false, reduceIte]; done))

theorem c_r_addType {sL : Nat} {sx : Nat → Int32} (hsL : sL ≤ 3072) (d : Nat) (hd : 2 ≤ d) : ∀ (a0 a1 : Int) (s : sx_S) (K : Int → sx_S → Prop), cx_I s → (0 ≤ a0 ∧ a0 ≤ 2999) → (0 ≤ a1 ∧ a1 ≤ 5999) → (s.1 66 64 ≤ 19999) → (s.2.1 108 a0.toNat ≤ 3) → (∀ (z : Int) (t : sx_S), cx_I t → cx_F [(66, 66), (108, 108), (110, 110)] s t → (rf_f [64] s t) → (t.1 66 64 = s.1 66 64 + 1) → (rf_ag 110 110 (s.1 66 64) s t) → (t.2.1 110 (s.1 66 64).toNat = a1) → (rf_ro 108 108 a0 s t) → (t.2.1 108 a0.toNat = s.2.1 108 a0.toNat + 1) → K z t) → sx_C sL sx d 190 [.inr (.inl 66), .inl a0, .inl a1] s K := by
  intro a0 a1 s K hI p0 p1 p2 p3 hK
  obtain ⟨d, rfl⟩ : ∃ e, d = e + 2 := ⟨d - 2, by omega⟩
  exact sx_meth (wr := true) (n := 400) hsL (e := eX12_addType) rfl (w_r_addType (Q := fun _ _ _ => False)  hI p0 p1 p2 p3 hK)

theorem w_same {CALL : sx_Ca} {sL : Nat} {sx : Nat → Int32} {Q : Nat → sx_L → sx_S → Prop} {R : Int → sx_S → Prop} {s : sx_S} {a0 a1 a2 a3 : Int} (hI : cx_I s) (hQ : Q 6 [(0, .inr (.inl 66)), (1, .inl a0), (2, .inl a1), (3, .inl a2), (4, .inl a3), (5, .inl 1), (6, .inl 0)] s) : sx_wp true sL sx eX12_sameVars CALL [(6, [0, 1, 2, 3, 4, 5, 6])] Q R 400 0 (sx_argsF 0 [.inr (.inl 66), .inl a0, .inl a1, .inl a2, .inl a3]) [] s := by
  exact hQ
theorem w_act {CALL : sx_Ca} {sL : Nat} {sx : Nat → Int32} {Q : Nat → sx_L → sx_S → Prop} {R : Int → sx_S → Prop} {s : sx_S} {a0 a1 : Int} (hI : cx_I s) (hQ : ∀ x3 : Int, x3 = s.1 66 56 → Q 8 [(0, .inr (.inl 66)), (1, .inl a0), (2, .inl a1), (3, .inl x3), (4, .inl 0)] s) : sx_wp true sL sx eX12_actual CALL [(8, [0, 1, 2, 3, 4])] Q R 400 0 (sx_argsF 0 [.inr (.inl 66), .inl a0, .inl a1]) [] s := by
  repeat' (first | (with_reducible intro _) | (refine And.intro ?_ ?_) | (refine hQ _ ?_))
  all_goals (try dsimp only)
  all_goals (first | trivial | assumption | omega)
theorem w_act_8 {CALL : sx_Ca} {sL : Nat} {sx : Nat → Int32} {Q : Nat → sx_L → sx_S → Prop} {R : Int → sx_S → Prop} {s : sx_S} {a0 a1 x3 x4 ar w : Int} (hI : cx_I s) (p0 : 0 ≤ a0 ∧ a0 ≤ 59999) (har : ar = s.2.1 108 (s.2.1 101 a0.toNat).toNat) (hm : 0 ≤ s.2.1 101 a0.toNat ∧ s.2.1 101 a0.toNat ≤ 2999) (q3 : 0 ≤ x3 ∧ x3 ≤ 119990) (q4 : 0 ≤ x4 ∧ x4 ≤ 4) (h1 : -2147483648 ≤ w ∧ w ≤ 2147483647) (hV : x4 < ar → ∀ K : Int → sx_S → Prop, K w s → CALL 187 [.inr (.inl 66), .inl a0, .inl a1, .inl x4] s K) (hK : ar ≤ x4 → ∀ v : Int, v = x3 + ar → R x3 (sx_uf s.1 66 56 v, s.2)) (hQ : x4 < ar → ∀ n y4 : Int, n = x3 + x4 → y4 = x4 + 1 → Q 8 [(0, .inr (.inl 66)), (1, .inl a0), (2, .inl a1), (3, .inl x3), (4, .inl y4)] (s.1, sx_ua s.2.1 105 n.toNat w, s.2.2)) : sx_wp true sL sx eX12_actual CALL [(8, [0, 1, 2, 3, 4])] Q R 400 8 [(0, .inr (.inl 66)), (1, .inl a0), (2, .inl a1), (3, .inl x3), (4, .inl x4)] [] s := by
  repeat' (first | (with_reducible intro _) | (refine And.intro ?_ ?_) | (refine hK ?_ _ ?_) | (refine hQ ?_ _ _ ?_ ?_) | (refine hV ?_ _ ?_))
  all_goals (try dsimp only)
  all_goals (first | trivial | assumption | omega | (dsimp only at *; omega) | (subst_vars; omega) | (subst_vars; dsimp only at *; omega) | (simp only [sx_w_t] at *; omega) | (subst_vars; dsimp only at *; simp only [sx_w_t] at *; omega))
end
section
theorem c_r_actual {sL : Nat} {sx : Nat → Int32} (hsL : sL ≤ 3072) (D d : Nat) (hd : D + 4 ≤ d) : ∀ (y : rf_Y) (a0 a1 ar : Int) (s : sx_S) (K : Int → sx_S → Prop), cx_I s → (0 ≤ a0 ∧ a0 ≤ 59999) → (0 ≤ s.2.1 101 a0.toNat ∧ s.2.1 101 a0.toNat ≤ 2999) → ar = s.2.1 108 (s.2.1 101 a0.toNat).toNat → s.1 66 56 ≤ 119980 → (∀ k : Nat, (k : Int) < ar → s.2.1 104 a0.toNat + (k : Int) < s.1 66 56) → rf_dp y ≤ D → rf_bs s y a1 → (∀ (z : Int) (t : sx_S), cx_I t → cx_F [(66, 66), (105, 105)] s t → rf_f [56] s t → z = s.1 66 56 → t.1 66 56 = s.1 66 56 + ar → rf_ag 105 105 (s.1 66 56) s t → (∀ k : Nat, (k : Int) < ar → t.2.1 105 (z + (k : Int)).toNat = rf_vo s y a0 k) → K z t) → sx_C sL sx d 192 [.inr (.inl 66), .inl a0, .inl a1] s K := by
  intro y a0 a1 ar s K hI p0 hm har hv hrow hy by1 hK
  obtain ⟨d, rfl⟩ : ∃ e, d = e + 2 := ⟨d - 2, by omega⟩
  have h108 := hI.arr 108 (by decide) rfl (s.2.1 101 a0.toNat).toNat
  rw [← har] at h108
  have h56 := hI.fld 66 56 (by decide) rfl
  have h104 := hI.arr 104 (by decide) rfl a0.toNat
  refine sx_methL (wr := true) (n := 400) (n' := 400) (stop := [(8, [0, 1, 2, 3, 4])]) (fun n pc ls u => (pc = 8 ∧ ∃ (x3 x4 : Int), ls = [(0, .inr (.inl 66)), (1, .inl a0), (2, .inl a1), (3, .inl x3), (4, .inl x4)] ∧ x3 = s.1 66 56 ∧ cx_I u ∧ cx_F [(66, 66), (105, 105)] s u ∧ u.1 = s.1 ∧ u.2.2 = s.2.2 ∧ rf_ag 105 105 (s.1 66 56) s u ∧ (0 ≤ x4 ∧ x4 ≤ ar) ∧ (∀ k : Nat, (k : Int) < x4 → u.2.1 105 (s.1 66 56 + (k : Int)).toNat = rf_vo s y a0 k) ∧ n = (4 - x4).toNat)) hsL (e := eX12_actual) rfl ?_ ?_
  · refine w_act hI (fun x3 h3 => ⟨_, rfl, x3, 0, rfl, h3, hI, cx_F_refl _ _, rfl, rfl, rf_ag_refl _ _ _ _, by omega, fun k hk => by omega, rfl⟩)
  · rintro n pc ls u ⟨rfl, x3, x4, rfl, h3, j1, j2, j3, j3', j4, j5, j6, rfl⟩
    have e101 := (j2.same 101 rfl).2
    have e104 := (j2.same 104 rfl).2
    have e108 := (j2.same 108 rfl).2
    have e115 := (j2.same 115 rfl).2
    have e116 := (j2.same 116 rfl).2
    have e117 := (j2.same 117 rfl).2
    have hyu : rf_bs u y a1 := by
      unfold rf_bs
      rw [e115, e116, e117, j3]
      exact by1
    have hvo : ∀ k : Nat, (k : Int) < ar → rf_vo u y a0 k = rf_vo s y a0 k := fun k hk => by
      unfold rf_vo
      rw [e104, j4 105 _ (by omega) (by omega) (by have := hrow k hk; omega)]
    have haru : ar = u.2.1 108 (u.2.1 101 a0.toNat).toNat := by
      rw [e108, e101]
      exact har
    refine w_act_8 (w := rf_vo s y a0 x4.toNat) j1 p0 haru (by rw [e101]; exact hm) (by omega) (by omega) (rf_look_in hI by1 (hI.arr 105 (by decide) rfl _)) ?_ ?_ ?_
    · intro hx K' hK'
      have h4 := hrow x4.toNat (by omega)
      refine c_r_varOf hsL D (d + 1) (by omega) y a0 a1 x4 u K' j1 p0 (by omega) (by rw [e104]; omega) hy hyu ?_
      rw [hvo x4.toNat (by omega)]
      exact hK'
    · intro hx v hv'
      have ex : x4 = ar := by omega
      refine hK x3 _ (cx_I_uf rfl rfl (F := u.1) (B := u.2) j1 (by omega) (by omega)) (cx_F_uf rfl (F := u.1) (B := u.2) j2) (rf_f_uf rfl (F := u.1) (B := u.2) (fun k _ => by rw [show ((u.1, u.2) : sx_S).1 = s.1 from j3])) h3 ?_ j4 ?_
      · show sx_uf u.1 66 56 v 66 56 = _
        rw [sx_uf_if, if_pos ⟨rfl, rfl⟩]
        omega
      · intro k hk
        rw [h3]
        exact j6 k (by omega)
    · intro hx n' y4 hn' hy4
      have hw := rf_look_in hI by1 (hI.arr 105 (by decide) rfl (s.2.1 104 a0.toNat + ((x4.toNat : Nat) : Int)).toNat)
      subst hy4
      refine ⟨_, by omega, rfl, x3, x4 + 1, rfl, h3, cx_I_ua rfl rfl (F := u.1) (A := u.2.1) (B := u.2.2) j1 hw.1 hw.2, cx_F_ua rfl (F := u.1) (A := u.2.1) (B := u.2.2) j2, j3, j3', ?_, by omega, ?_, rfl⟩
      · exact rf_ag_ua (F := u.1) (A := u.2.1) (B := u.2.2) (by omega) (by omega) j4
      · intro k hk
        show sx_ua u.2.1 105 n'.toNat _ 105 _ = _
        rw [sx_ua_same]
        dsimp only
        by_cases e : (k : Int) = x4
        · rw [if_pos (by omega)]
          congr 1
          omega
        · rw [if_neg (by omega)]
          exact j6 k (by omega)
end
section
/-! ===== long forms of variables ===== -/
/-- (with these binders around, what stands there is the long form of v; these parts are the long forms of these variables) -/
def rf_lf2 : rf_N → (List Int → Int → Prop) × (List Int → Prop)
  | .leaf => (fun _ _ => False, fun us => us = [])
  | .inner _ k _ f x => (fun us v => (k.1 = 0 ∧ (rf_lf2 f).1 (us ++ [k.2]) v) ∨ (k.1 = 2 ∧ k.2 = v ∧ v ∉ us ∧ (rf_lf2 f).2 us), fun us => ∃ u us', us = u :: us' ∧ ((k.1 = 0 ∧ (rf_lf2 f).1 ([] ++ [k.2]) u) ∨ (k.1 = 2 ∧ k.2 = u ∧ u ∉ ([] : List Int) ∧ (rf_lf2 f).2 [])) ∧ (rf_lf2 x).2 us')
def rf_lf (n : rf_N) (v : Int) : Prop := (rf_lf2 n).1 [] v
theorem rf_lf2_c {j : Nat} {k : Int × Int} {u : Unit} {f x : rf_N} {us : List Int} : (rf_lf2 (.inner j k u f x)).2 us ↔ ∃ w us', us = w :: us' ∧ rf_lf (.inner j k u f x) w ∧ (rf_lf2 x).2 us' := Iff.rfl
theorem rf_lf2_snoc {n : rf_N} {v : Int} (hn : rf_nx n) (h : rf_lf n v) : ∀ {f : rf_N} {us : List Int}, (rf_lf2 f).2 us → (rf_lf2 (rf_snoc f n)).2 (us ++ [v])
  | .leaf, us, q => by
    have e : us = [] := q
    subst e
    cases n with
    | leaf => exact h.elim
    | inner j k u f x =>
      have e : x = .leaf := hn
      subst e
      exact ⟨v, [], rfl, h, rfl⟩
  | .inner j k u f x, us, ⟨w, us', q1, q2, q3⟩ => by
    subst q1
    exact ⟨w, us' ++ [v], rfl, q2, rf_lf2_snoc hn h q3⟩
def rf_G0 : Nat → Int → List Int → Prop := fun _ _ _ => False
/-- every variable stands in its scope; G: what is asked of an unknown -/
def rf_sc (G : Nat → Int → List Int → Prop) : rf_N → (List Int → Prop) × (List Int → Prop)
  | .leaf => (fun _ => True, fun _ => True)
  | .inner j k _ f x => (fun Γ => (k.1 = 0 ∧ (rf_sc G f).1 (k.2 :: Γ)) ∨ (k.1 ≠ 0 ∧ (k.1 = 2 → k.2 ∈ Γ) ∧ (k.1 = 3 → G j k.2 Γ) ∧ (rf_sc G f).2 Γ), fun Γ => ((k.1 = 0 ∧ (rf_sc G f).1 (k.2 :: Γ)) ∨ (k.1 ≠ 0 ∧ (k.1 = 2 → k.2 ∈ Γ) ∧ (k.1 = 3 → G j k.2 Γ) ∧ (rf_sc G f).2 Γ)) ∧ (rf_sc G x).2 Γ)
theorem rf_sc_mono {G G' : Nat → Int → List Int → Prop} : ∀ {n : rf_N}, (∀ j ∈ rf_idx n, ∀ (r : Int) (Γ Γ' : List Int), (∀ v ∈ Γ, v ∈ Γ') → G j r Γ → G' j r Γ') → (∀ Γ Γ' : List Int, (∀ v ∈ Γ, v ∈ Γ') → (rf_sc G n).1 Γ → (rf_sc G' n).1 Γ') ∧ (∀ Γ Γ' : List Int, (∀ v ∈ Γ, v ∈ Γ') → (rf_sc G n).2 Γ → (rf_sc G' n).2 Γ')
  | .leaf, _ => ⟨fun _ _ _ h => h, fun _ _ _ h => h⟩
  | .inner j k v f x, hM => by
    have hf := rf_sc_mono (n := f) (fun q hq => hM q (List.mem_cons_of_mem _ (List.mem_append_left _ hq)))
    have hx := rf_sc_mono (n := x) (fun q hq => hM q (List.mem_cons_of_mem _ (List.mem_append_right _ hq)))
    have hj := hM j List.mem_cons_self
    have h1 : ∀ Γ Γ' : List Int, (∀ v ∈ Γ, v ∈ Γ') → (rf_sc G (.inner j k v f x)).1 Γ → (rf_sc G' (.inner j k v f x)).1 Γ' := by
      rintro Γ Γ' hs (⟨e, q⟩ | ⟨e, q1, q2, q3⟩)
      · refine Or.inl ⟨e, hf.1 _ _ (fun w hw => ?_) q⟩
        rcases List.mem_cons.mp hw with rfl | hw
        · exact List.mem_cons_self
        · exact List.mem_cons_of_mem _ (hs w hw)
      · exact Or.inr ⟨e, fun z => hs _ (q1 z), fun z => hj _ _ _ hs (q2 z), hf.2 _ _ hs q3⟩
    exact ⟨h1, fun Γ Γ' hs q => ⟨h1 Γ Γ' hs q.1, hx.2 Γ Γ' hs q.2⟩⟩
theorem rf_sc_snoc {G : Nat → Int → List Int → Prop} {p : rf_N} {Γ : List Int} : ∀ {n : rf_N}, (rf_sc G n).2 Γ → (rf_sc G p).2 Γ → (rf_sc G (rf_snoc n p)).2 Γ
  | .leaf, _, g => g
  | .inner j k _ f x, h, g => ⟨h.1, rf_sc_snoc h.2 g⟩
theorem rf_sc_ch {G : Nat → Int → List Int → Prop} {b : rf_N} (hG : ∀ j ∈ rf_idx b, ∀ (r : Int) (Γ Γ' : List Int), (∀ v ∈ Γ, v ∈ Γ') → G j r Γ → G j r Γ') {D : List Int} (h : (rf_sc G b).1 D) : ∀ {C : List (Nat × Int)} {Γ : List Int}, (∀ v ∈ D, v ∈ C.map Prod.snd ∨ v ∈ Γ) → (rf_sc G (rf_ch C b)).1 Γ
  | [], Γ, hs => (rf_sc_mono (n := b) (G' := G) hG).1 _ _ (fun v hv => (hs v hv).elim (fun q => absurd q List.not_mem_nil) id) h
  | c :: l, Γ, hs => by
    refine Or.inl ⟨rfl, rf_sc_ch hG h (C := l) (fun v hv => ?_)⟩
    rcases hs v hv with q | q
    · rcases List.mem_cons.mp q with q | q
      · exact Or.inr (q ▸ List.mem_cons_self)
      · exact Or.inl q
    · exact Or.inr (List.mem_cons_of_mem _ q)
theorem rf_sc_12 {G : Nat → Int → List Int → Prop} {n : rf_N} {Γ : List Int} (hn : rf_nx n) (h : (rf_sc G n).1 Γ) : (rf_sc G n).2 Γ := by
  cases n with
  | leaf => exact h
  | inner j k u f x =>
    have e : x = .leaf := hn
    subst e
    exact ⟨h, trivial⟩
/-- what is a long form of v stands where v is in scope -/
theorem rf_lf_sc {G : Nat → Int → List Int → Prop} {v : Int} {Γ : List Int} : ∀ {n : rf_N} {us D : List Int}, (rf_lf2 n).1 us v → (rf_sc G n).1 D → (∀ w ∈ D, w ∈ us ∨ w ∈ Γ) → v ∈ Γ
  | .leaf, _, _, h, _, _ => h.elim
  | .inner j k u f x, us, D, h, g, hs => by
    rcases h with ⟨h1, h2⟩ | ⟨h1, h2, h3, _⟩
    · rcases g with ⟨_, g⟩ | ⟨g, _⟩
      · refine rf_lf_sc h2 g (fun w hw => ?_)
        rcases List.mem_cons.mp hw with rfl | hw
        · exact Or.inl (List.mem_append_right _ List.mem_cons_self)
        · exact (hs w hw).imp (List.mem_append_left _) id
      · exact absurd h1 g
    · rcases g with ⟨g, _⟩ | ⟨_, g, _⟩
      · omega
      · have := hs _ (g h1)
        rw [h2] at this
        exact this.resolve_left h3
theorem rf_snoc_leaf : ∀ f : rf_N, rf_snoc f .leaf = f
  | .leaf => rfl
  | .inner j k u f x => by
    exact congrArg (fun z => (.inner j k () f z : rf_N)) (rf_snoc_leaf x)
theorem rf_snoc_assoc (g n : rf_N) : ∀ f : rf_N, rf_snoc (rf_snoc f g) n = rf_snoc f (rf_snoc g n)
  | .leaf => rfl
  | .inner j k u f x => congrArg (fun z => (.inner j k () f z : rf_N)) (rf_snoc_assoc g n x)
theorem rf_lf2_len : ∀ {g : rf_N} {us : List Int}, (rf_lf2 g).2 us → rf_len g = us.length
  | .leaf, us, h => by
    have e : us = [] := h
    rw [e]
    rfl
  | .inner j k u f x, us, ⟨w, us', h1, _, h3⟩ => by
    rw [h1, List.length_cons, ← rf_lf2_len h3]
    rfl
theorem rf_len_snoc (g : rf_N) : ∀ f : rf_N, rf_len (rf_snoc f g) = rf_len f + rf_len g
  | .leaf => (Nat.zero_add _).symm
  | .inner j k u f x => by
    show rf_len (rf_snoc x g) + 1 = rf_len x + 1 + rf_len g
    rw [rf_len_snoc g x]
    omega
/-- the parts before the last ones -/
theorem rf_lf2_app {g : rf_N} {ws : List Int} (hg : (rf_lf2 g).2 ws) : ∀ {f : rf_N} {us : List Int}, (rf_lf2 (rf_snoc f g)).2 (us ++ ws) ↔ (rf_lf2 f).2 us
  | .leaf, us => by
    constructor
    · intro h
      have h1 := rf_lf2_len h
      have h2 := rf_lf2_len hg
      rw [List.length_append] at h1
      have h3 : rf_len (rf_snoc .leaf g) = rf_len g := rfl
      exact List.eq_nil_of_length_eq_zero (by omega)
    · intro h
      have e : us = [] := h
      rw [e]
      exact hg
  | .inner j k u f x, us => by
    constructor
    · rintro ⟨w, zs, h1, h2, h3⟩
      cases us with
      | nil =>
        exfalso
        have h4 := rf_lf2_len h3
        have h5 := rf_lf2_len hg
        rw [rf_len_snoc] at h4
        have h6 : ws.length = zs.length + 1 := by
          have := congrArg List.length h1
          simpa using this
        omega
      | cons u' us' =>
        injection h1 with e1 e2
        subst e1
        rw [← e2] at h3
        exact ⟨u', us', rfl, h2, (rf_lf2_app hg).mp h3⟩
    · rintro ⟨w, us', h1, h2, h3⟩
      subst h1
      exact ⟨w, us' ++ ws, rfl, h2, (rf_lf2_app hg).mpr h3⟩
theorem rf_ch_lf_iff {b : rf_N} {v : Int} : ∀ {C : List (Nat × Int)} {us : List Int}, (rf_lf2 (rf_ch C b)).1 us v ↔ (rf_lf2 b).1 (us ++ C.map Prod.snd) v
  | [], us => by
    rw [List.map_nil, List.append_nil]
    exact Iff.rfl
  | c :: l, us => by
    have ih := rf_ch_lf_iff (b := b) (v := v) (C := l) (us := us ++ [c.2])
    constructor
    · rintro (⟨_, h⟩ | ⟨h, _⟩)
      · have := ih.mp h
        rw [List.append_assoc] at this
        exact this
      · exact absurd (show (0 : Int) = 2 from h) (by decide)
    · intro h
      refine Or.inl ⟨rfl, ih.mpr ?_⟩
      rw [List.append_assoc]
      exact h
/-- n variables from place i on -/
def rf_rl (s : sx_S) (i : Int) : Nat → List Int
  | 0 => []
  | n + 1 => rf_rl s i n ++ [s.2.1 105 (i + (n : Int)).toNat]
theorem rf_rl_s (s : sx_S) (i : Int) (n : Nat) : rf_rl s i (n + 1) = rf_rl s i n ++ [s.2.1 105 (i + (n : Int)).toNat] := rfl
theorem rf_rl_eq {s t : sx_S} {i : Int} : ∀ {n : Nat}, (∀ q : Nat, q < n → t.2.1 105 (i + (q : Int)).toNat = s.2.1 105 (i + (q : Int)).toNat) → rf_rl t i n = rf_rl s i n
  | 0, _ => rfl
  | n + 1, h => by
    unfold rf_rl
    rw [rf_rl_eq (n := n) (fun q hq => h q (by omega)), h n (by omega)]
theorem rf_rl_len {s : sx_S} {i : Int} : ∀ n : Nat, (rf_rl s i n).length = n
  | 0 => rfl
  | n + 1 => by
    unfold rf_rl
    rw [List.length_append, rf_rl_len n]
    rfl
/-- the variables of the unknown that is being made -/
def rf_rv (s : sx_S) (x1 : Int) : List Int := rf_rl s (s.2.1 104 x1.toNat) (s.1 66 56 - s.2.1 104 x1.toNat).toNat
end
