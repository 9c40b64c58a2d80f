section
/-! ===== the desk's checker: gives, blame, beginsArgument ===== -/
theorem w_dz_start {CALL : sx_Ca} {sL : Nat} {sx : Nat → Int32} {Q : Nat → sx_L → sx_S → Prop} {R : Int → sx_S → Prop} {s : sx_S} {a0 : Int} (hI : cx_I s) (p0 : (-2147483648 ≤ a0 ∧ a0 ≤ 2147483647)) (hK : ∀ z : Int, (-2147483648 ≤ z ∧ z ≤ 2147483647) → R z s) : sx_wp true sL sx eX8_start CALL [] Q R 400 0 (sx_argsF 0 [.inr (.inl 2), .inl a0]) [] s := by
  repeat' (first | (with_reducible intro _) | (refine And.intro ?_ ?_) | (refine hK _ ?_))
  all_goals (try dsimp only)
  repeat' (first | (with_reducible assumption) | ((with_reducible (change cx_I (sx_uf _ _ _ _, _))); refine cx_I_uf rfl rfl ?_ ?_ ?_) | ((with_reducible (change cx_I (_, sx_ua _ _ _ _, _))); refine cx_I_ua rfl rfl ?_ ?_ ?_) | ((with_reducible (change cx_I (_, sx_ua _ 16 _ _, _))); refine cx_I_ari ?_ ?_ ?_) | ((with_reducible (change cx_I (sx_uf _ 11 6 _, _))); refine cx_I_ufA rfl ?_ ?_ ?_ ?_) | (with_reducible exact cx_F_refl _ _) | ((with_reducible (change cx_F _ _ (sx_uf _ _ _ _, _))); refine cx_F_uf rfl ?_) | ((with_reducible (change cx_F _ _ (_, sx_ua _ _ _ _, _))); refine cx_F_ua rfl ?_) | ((with_reducible (change cx_I (_, sx_cpy _ _ _ _ _ _, _))); refine cx_I_cpy rfl rfl rfl (by decide) ?_) | ((with_reducible (change cx_F _ _ (_, sx_cpy _ _ _ _ _ _, _))); refine cx_F_cpy rfl ?_) | ((with_reducible (change cx_F _ _ _)); refine cx_F_step (by assumption) rfl ?_) | fail)
  all_goals (first | trivial | omega | (dsimp only at *; omega) | (simp only [sx_uf_if, sx_ua_if, sx_w_t, true_and, and_true, and_self, and_false, false_and, if_true, if_false, reduceIte] at *; omega) | (subst_vars; rfl) | (subst_vars; decide))

theorem c_dz_start {sL : Nat} {sx : Nat → Int32} (hsL : sL ≤ 3072) (d : Nat) (hd : 2 ≤ d) : ∀ (a0 : Int) (s : sx_S) (K : Int → sx_S → Prop), cx_I s → (-2147483648 ≤ a0 ∧ a0 ≤ 2147483647) → (∀ z : Int, (-2147483648 ≤ z ∧ z ≤ 2147483647) → K z s) → sx_C sL sx d 102 [.inr (.inl 2), .inl a0] s K := by
  intro a0 s K hI p0 hK
  obtain ⟨d, rfl⟩ : ∃ e, d = e + 2 := ⟨d - 2, by omega⟩
  exact sx_meth (wr := true) (n := 400) hsL (e := eX8_start) rfl (w_dz_start (Q := fun _ _ _ => False)  hI p0 hK)

theorem w_dz_blame {CALL : sx_Ca} {sL : Nat} {sx : Nat → Int32} {Q : Nat → sx_L → sx_S → Prop} {R : Int → sx_S → Prop} (h_dz_start : ∀ (a0 : Int) (s : sx_S) (K : Int → sx_S → Prop), cx_I s → (-2147483648 ≤ a0 ∧ a0 ≤ 2147483647) → (∀ z : Int, (-2147483648 ≤ z ∧ z ≤ 2147483647) → K z s) → CALL 102 [.inr (.inl 2), .inl a0] s K) {s : sx_S} {a0 a1 : Int} (hI : cx_I s) (p0 : (-2147483648 ≤ a0 ∧ a0 ≤ 2147483647)) (p1 : (-2147483648 ≤ a1 ∧ a1 ≤ 2147483647)) (hK : ∀ (z : Int) (t : sx_S), cx_I t → cx_F [(18, 18)] s t → (z = 0) → (t.1 18 9 = s.1 18 9) → (t.1 18 10 = s.1 18 10) → R z t) : sx_wp true sL sx eX1_blame CALL [] Q R 400 0 (sx_argsF 0 [.inr (.inl 18), .inl a0, .inl a1]) [] s := by
  repeat' (first | (with_reducible intro _) | (refine And.intro ?_ ?_) | (refine hK _ _ ?_ ?_ ?_ ?_ ?_) | (refine h_dz_start _ _ _ ?_ ?_ ?_))
  all_goals (try dsimp only)
  repeat' (first | (with_reducible assumption) | ((with_reducible (change cx_I (sx_uf _ _ _ _, _))); refine cx_I_uf rfl rfl ?_ ?_ ?_) | ((with_reducible (change cx_I (_, sx_ua _ _ _ _, _))); refine cx_I_ua rfl rfl ?_ ?_ ?_) | ((with_reducible (change cx_I (_, sx_ua _ 16 _ _, _))); refine cx_I_ari ?_ ?_ ?_) | ((with_reducible (change cx_I (sx_uf _ 11 6 _, _))); refine cx_I_ufA rfl ?_ ?_ ?_ ?_) | (with_reducible exact cx_F_refl _ _) | ((with_reducible (change cx_F _ _ (sx_uf _ _ _ _, _))); refine cx_F_uf rfl ?_) | ((with_reducible (change cx_F _ _ (_, sx_ua _ _ _ _, _))); refine cx_F_ua rfl ?_) | ((with_reducible (change cx_I (_, sx_cpy _ _ _ _ _ _, _))); refine cx_I_cpy rfl rfl rfl (by decide) ?_) | ((with_reducible (change cx_F _ _ (_, sx_cpy _ _ _ _ _ _, _))); refine cx_F_cpy rfl ?_) | ((with_reducible (change cx_F _ _ _)); refine cx_F_step (by assumption) rfl ?_) | fail)
  all_goals (first | trivial | omega | (dsimp only at *; omega) | (simp only [sx_uf_if, sx_ua_if, sx_w_t, true_and, and_true, and_self, and_false, false_and, if_true, if_false, reduceIte] at *; omega) | (subst_vars; rfl) | (subst_vars; decide))

theorem c_dz_blame {sL : Nat} {sx : Nat → Int32} (hsL : sL ≤ 3072) (d : Nat) (hd : 3 ≤ d) : ∀ (a0 a1 : Int) (s : sx_S) (K : Int → sx_S → Prop), cx_I s → (-2147483648 ≤ a0 ∧ a0 ≤ 2147483647) → (-2147483648 ≤ a1 ∧ a1 ≤ 2147483647) → (∀ (z : Int) (t : sx_S), cx_I t → cx_F [(18, 18)] s t → (z = 0) → (t.1 18 9 = s.1 18 9) → (t.1 18 10 = s.1 18 10) → K z t) → sx_C sL sx d 21 [.inr (.inl 18), .inl a0, .inl a1] s K := by
  intro a0 a1 s K hI p0 p1 hK
  obtain ⟨d, rfl⟩ : ∃ e, d = e + 2 := ⟨d - 2, by omega⟩
  exact sx_meth (wr := true) (n := 400) hsL (e := eX1_blame) rfl (w_dz_blame (Q := fun _ _ _ => False) (c_dz_start hsL (d + 1) (by omega)) hI p0 p1 hK)

theorem w_bg {CALL : sx_Ca} {sL : Nat} {sx : Nat → Int32} {Q : Nat → sx_L → sx_S → Prop} {R : Int → sx_S → Prop} {b : Nat → Int} {n : Int} (h_kd : ∀ (t0 : Int) (s : sx_S) (K : Int → sx_S → Prop), cx_I s → (0 ≤ t0 ∧ t0 ≤ 1000) → (px_TK b n s) → (px_lv b n t0.toNat) → (∀ z : Int, (z = px_K b n t0.toNat) → K z s) → CALL 101 [.inr (.inl 2), .inl t0] s K) {s : sx_S} (hI : cx_I s) (hT : px_TK b n s) (hl : px_lv b n (s.1 18 11).toNat) (h0 : 0 ≤ s.1 18 11 ∧ s.1 18 11 ≤ 1000) (hK1 : px_K b n (s.1 18 11).toNat = 2 ∨ px_K b n (s.1 18 11).toNat = 9 → R 1 s) (hK0 : px_K b n (s.1 18 11).toNat ≠ 2 ∧ px_K b n (s.1 18 11).toNat ≠ 9 → R 0 s) : sx_wp true sL sx eX1_beginsArgument CALL [] Q R 400 0 (sx_argsF 0 [.inr (.inl 18)]) [] s := by
  have zzr := px_K_r b n (s.1 18 11).toNat
  repeat' (first | (with_reducible (rintro _ rfl)) | (with_reducible intro _) | (refine And.intro ?_ ?_) | (refine h_kd _ _ _ ?_ ?_ ?_ ?_ ?_))
  all_goals (try dsimp only at *)
  all_goals (first | trivial | assumption | omega | (exfalso; omega) | (exact hK1 (by omega)) | (exact hK0 (by omega)) | skip)
theorem c_dz_beg {sL : Nat} {sx : Nat → Int32} (hsL : sL ≤ 3072) (d : Nat) (hd : 3 ≤ d) (b : Nat → Int) (n : Int) : ∀ (s : sx_S) (R : Int → sx_S → Prop), cx_I s → px_TK b n s → px_lv b n (s.1 18 11).toNat → (0 ≤ s.1 18 11 ∧ s.1 18 11 ≤ 1000) → (px_K b n (s.1 18 11).toNat = 2 ∨ px_K b n (s.1 18 11).toNat = 9 → R 1 s) → (px_K b n (s.1 18 11).toNat ≠ 2 ∧ px_K b n (s.1 18 11).toNat ≠ 9 → R 0 s) → sx_C sL sx d 30 [.inr (.inl 18)] s R := by
  intro s R hI hT hl h0 k1 k0
  obtain ⟨d, rfl⟩ : ∃ e, d = e + 2 := ⟨d - 2, by omega⟩
  exact sx_meth (wr := true) (n := 400) hsL (e := eX1_beginsArgument) rfl (w_bg (Q := fun _ _ _ => False) (c_dx_kind hsL (d + 1) (by omega) b n) hI hT hl h0 k1 k0)
theorem w_gv {CALL : sx_Ca} {sL : Nat} {sx : Nat → Int32} {Q : Nat → sx_L → sx_S → Prop} {R : Int → sx_S → Prop} (h_kind : ∀ (a0 : Int) (s : sx_S) (K : Int → sx_S → Prop), cx_I s → (-2147483648 ≤ a0 ∧ a0 ≤ 2147483647) → (∀ z : Int, (0 ≤ a0 → a0 < s.1 11 6 → z = s.2.1 12 a0.toNat) → (a0 < 0 → z = -1) → K z s) → CALL 91 [.inr (.inl 11), .inl a0] s K) {s : sx_S} {a0 a1 : Int} {Za Zb : sx_S → Prop} {Zv Zp Zq : Int → Prop} {Zn : Int → Int → sx_S → Prop} (hI : cx_I s) (p0 : 0 ≤ a0 ∧ a0 < s.1 11 6) (h_app1 : s.2.1 12 a0.toNat ≠ 3 → ∀ K : Int → sx_S → Prop, (∀ u, Za u → K 0 u) → CALL 90 [.inr (.inl 11), .inl a0, .inl a1] s K) (hKa : ∀ u, Za u → R 1 u) (h_asv : s.2.1 12 a0.toNat = 3 → ∀ K : Int → sx_S → Prop, (∀ z, (-2147483648 ≤ z ∧ z ≤ 2147483647) → Zv z → K z s) → CALL 98 [.inr (.inl 11), .inl a1, .inl 0] s K) (h_has : ∀ z, Zv z → 0 ≤ z → ∀ K : Int → sx_S → Prop, (Zp z → K 1 s) → (Zq z → K 0 s) → CALL 96 [.inr (.inl 11), .inl a0, .inl z] s K) (hK0 : ∀ z, Zv z → z < 0 → R 0 s) (hK1 : ∀ z, Zp z → R 0 s) (h_node : ∀ z, Zq z → ∀ K : Int → sx_S → Prop, (∀ w u, Zn z w u → K w u) → CALL 88 [.inr (.inl 11), .inl 2, .inl z] s K) (h_app2 : ∀ w u, (∃ z, Zn z w u) → ∀ K : Int → sx_S → Prop, (∀ v, Zb v → K 0 v) → CALL 90 [.inr (.inl 11), .inl a0, .inl w] u K) (hKb : ∀ v, Zb v → R 1 v) : sx_wp true sL sx eX1_gives CALL [] Q R 400 0 (sx_argsF 0 [.inr (.inl 18), .inl a0, .inl a1]) [] s := by
  have h0 := hI.fld 11 6 (by decide) rfl
  have zz12 := hI.arr 12 (by decide) rfl a0.toNat
  have zzk : ∀ K : Int → sx_S → Prop, K (s.2.1 12 a0.toNat) s → CALL 91 [.inr (.inl 11), .inl a0] s K := fun K hK => h_kind _ _ _ hI (by omega) (fun z z1 z2 => by
    rw [z1 p0.1 p0.2]
    exact hK)
  by_cases hk : s.2.1 12 a0.toNat = 3
  · have h_asv' := h_asv hk
    repeat' (first | (with_reducible (rintro _ rfl)) | (with_reducible intro _) | (refine And.intro ?_ ?_) | (refine zzk _ ?_) | (refine h_asv' _ ?_) | (refine h_has _ ?_ ?_ _ ?_ ?_) | (refine h_node _ ?_ _ ?_) | (refine h_app2 _ _ ?_ _ ?_))
    all_goals (try dsimp only at *)
    all_goals (first | trivial | assumption | omega | (exfalso; omega) | (exact ⟨_, by assumption⟩) | (exact hKb _ (by assumption)) | (exact hK1 _ (by assumption)) | (exact hK0 _ (by assumption) (by omega)) | skip)
  · have h_app1' := h_app1 hk
    repeat' (first | (with_reducible (rintro _ rfl)) | (with_reducible intro _) | (refine And.intro ?_ ?_) | (refine zzk _ ?_) | (refine h_app1' _ ?_))
    all_goals (try dsimp only at *)
    all_goals (first | trivial | assumption | omega | (exfalso; omega) | (exact hKa _ (by assumption)) | skip)

theorem c_dz_gives {sL : Nat} {sx : Nat → Int32} (hsL : sL ≤ 3072) (d : Nat) (hd : 12 ≤ d) : ∀ (lo a0 a1 k h : Int) (F W : rf_N) (s : sx_S) (R : Int → sx_S → Prop), cx_I s → k ≠ 0 → dz_T lo s (rf_n a0.toNat k h F .leaf) a0 → dz_T lo s W a1 → W ≠ .leaf → (∀ j ∈ rf_idx (rf_n a0.toNat k h F .leaf), j ∉ rf_idx W) → (rf_len F : Int) + 1 ≤ s.1 11 6 → s.1 11 6 < 1024 → (k ≠ 3 → ∀ t, cx_I t → cx_F [(11, 17)] s t → (t.1 11 6 = s.1 11 6 ∧ t.1 11 8 = s.1 11 8 ∧ t.2.1 17 = s.2.1 17) → dz_T lo t (rf_n a0.toNat k h (rf_snoc F W) .leaf) a0 → dz_fr (fun j => (j : Int) < lo) s t → R 1 t) → (k = 3 → ∀ z, (z = -1 ∧ ∀ v, ¬ (dz_av W).1 5 [] v) ∨ (0 ≤ z ∧ (dz_av W).1 5 [] z) → (z = -1 ∨ z ∈ dz_hs F → R 0 s) ∧ (0 ≤ z → z ∉ dz_hs F → ∀ t, cx_I t → cx_F [(11, 17)] s t → (t.1 11 6 = s.1 11 6 + 1 ∧ t.1 11 8 = s.1 11 8 ∧ t.2.1 17 = s.2.1 17) → dz_T lo t (rf_n a0.toNat k h (rf_snoc F (rf_n (s.1 11 6).toNat 2 z .leaf .leaf)) .leaf) a0 → dz_fr (fun j => (j : Int) < lo) s t → R 1 t)) → sx_C sL sx d 33 [.inr (.inl 18), .inl a0, .inl a1] s R := by
  intro lo a0 a1 k h F W s R hI hk hT hW hW0 hdis hlen hN hA hB
  obtain ⟨z1, z2, z3, z4⟩ := dz_T_a0 hT
  have h0 := hI.fld 11 6 (by decide) rfl
  have hlt := dz_T_lt hT
  obtain ⟨t1, t2, t3, t4, t5⟩ := hT trivial
  obtain ⟨w1, w2, w3, w4, w5⟩ := hW trivial
  have hF0 : rf_nd (s.2.1 12) (s.2.1 13) (s.2.1 14) (s.2.1 15) (s.1 11 6) F (s.2.1 14 a0.toNat) := t1.2.2.1
  have hAr : s.2.1 16 a0.toNat = (rf_len F : Int) := t2.1.2.2 hk
  obtain ⟨d, rfl⟩ : ∃ e, d = e + 2 := ⟨d - 2, by omega⟩
  refine sx_meth (wr := true) (n := 400) hsL (e := eX1_gives) rfl (w_gv (Q := fun _ _ _ => False) (Za := fun t => k ≠ 3 ∧ cx_I t ∧ cx_F [(11, 17)] s t ∧ (t.1 = s.1 ∧ t.2.1 17 = s.2.1 17) ∧ dz_T lo t (rf_n a0.toNat k h (rf_snoc F W) .leaf) a0 ∧ dz_fr (fun j => (j : Int) < lo) s t) (Zv := fun z => k = 3 ∧ ((z = -1 ∧ ∀ v, ¬ (dz_av W).1 5 [] v) ∨ (0 ≤ z ∧ (dz_av W).1 5 [] z)) ∧ (-2147483648 ≤ z ∧ z ≤ 2147483647)) (Zp := fun z => k = 3 ∧ ((z = -1 ∧ ∀ v, ¬ (dz_av W).1 5 [] v) ∨ (0 ≤ z ∧ (dz_av W).1 5 [] z)) ∧ z ∈ dz_hs F) (Zq := fun z => (k = 3 ∧ 0 ≤ z ∧ (-2147483648 ≤ z ∧ z ≤ 2147483647)) ∧ ((z = -1 ∧ ∀ v, ¬ (dz_av W).1 5 [] v) ∨ (0 ≤ z ∧ (dz_av W).1 5 [] z)) ∧ z ∉ dz_hs F) (Zn := fun z w u => k = 3 ∧ (0 ≤ z ∧ ((z = -1 ∧ ∀ v, ¬ (dz_av W).1 5 [] v) ∨ (0 ≤ z ∧ (dz_av W).1 5 [] z))) ∧ z ∉ dz_hs F ∧ w = s.1 11 6 ∧ cx_I u ∧ cx_F [(11, 17)] s u ∧ dz_N1 2 z (-1) s u) (Zb := fun t => ∃ z, k = 3 ∧ (0 ≤ z ∧ ((z = -1 ∧ ∀ v, ¬ (dz_av W).1 5 [] v) ∨ (0 ≤ z ∧ (dz_av W).1 5 [] z))) ∧ z ∉ dz_hs F ∧ cx_I t ∧ cx_F [(11, 17)] s t ∧ (t.1 11 6 = s.1 11 6 + 1 ∧ t.1 11 8 = s.1 11 8 ∧ t.2.1 17 = s.2.1 17) ∧ dz_T lo t (rf_n a0.toNat k h (rf_snoc F (rf_n (s.1 11 6).toNat 2 z .leaf .leaf)) .leaf) a0 ∧ dz_fr (fun j => (j : Int) < lo) s t) (c_dz_kind hsL (d + 1) (by omega)) hI ⟨z1, z2⟩ ?_ ?_ ?_ ?_ ?_ ?_ ?_ ?_ ?_)
  · intro q K hK
    rw [z4] at q
    refine c_dz_append hsL (d + 1) (by omega) lo a0 a1 k h F W s K hI hk hT hW hW0 hdis hlen (fun t c1 c2 c3 c4 c5 => hK t ⟨q, c1, c2, c3, c4, dz_fr_w c5 (fun j hj hj' => ?_)⟩)
    have := t4 j hj'
    omega
  · rintro u ⟨q, c1, c2, ⟨c3, c3'⟩, c4, c5⟩
    exact hA q u c1 c2 ⟨by rw [c3], by rw [c3], c3'⟩ c4 c5
  · intro q K hK
    rw [z4] at q
    exact c_dz_asv hsL 5 (by omega) (d + 1) (by omega) W a1 0 s K hI (by omega) w1 w2 (fun z c1 c2 => hK z c1 ⟨q, c2, c1⟩)
  · rintro z ⟨q, c2, c3⟩ hz K k1 k2
    refine c_dz_has hsL (d + 1) (by omega) a0 z F s K hI ⟨z1, z2⟩ c3 hF0 hAr (by omega) (fun w d1 d2 d3 => ?_)
    rcases d1 with rfl | rfl
    · exact k2 ⟨⟨q, hz, c3⟩, c2, d3 rfl⟩
    · exact k1 ⟨q, c2, d2 (by decide)⟩
  · rintro z ⟨q, c2, c3⟩ hz
    exact (hB q z c2).1 (Or.inl (by rcases c2 with c | c <;> omega))
  · rintro z ⟨q, c2, d2⟩
    exact (hB q z c2).1 (Or.inr d2)
  · rintro z ⟨⟨q, hz, c3⟩, c2, d3⟩ K hK
    exact c_dz_node hsL (d + 1) (by omega) 2 z s K hI hN (by omega) c3 (fun t e1 e2 e3 => hK _ t ⟨q, ⟨hz, c2⟩, d3, rfl, e1, e2, e3⟩)
  · rintro w u ⟨z, q, c2, c3, rfl, e1, e2, e3⟩ K hK
    obtain ⟨n1, n2, n3, n4, n5⟩ := e3 trivial
    have hT' := dz_T_fr hT (dz_fr_N1 e3) hlt
    have hP := dz_T_new e3 h0.1 (by omega) c2.1
    refine c_dz_append hsL (d + 1) (by omega) lo a0 (s.1 11 6) k h F _ u K e1 hk hT' (dz_T_lo hP (by omega)) nofun (fun j hj hj' => ?_) (by omega) (fun t c1 c2' c3' c4 c5 => hK t ⟨z, q, c2, c3, c1, cx_F_step c2' rfl e2, ⟨by rw [c3'.1]; exact n1, by rw [c3'.1]; exact n2, by rw [c3'.2]; exact n3⟩, c4, dz_fr_t c5 (dz_fr_w (dz_fr_N1 e3) (fun j hj => by omega)) (fun j hj hj' => ?_)⟩)
    · have a := hlt j hj
      have b := (hP trivial).2.2.2.1 j hj'
      omega
    · have := t4 j hj'
      omega
  · rintro t ⟨z, q, c2, c3, c4, c5, c6, c7, c8⟩
    exact (hB q z c2.2).2 c2.1 c3 t c4 c5 c6 c7 c8
end
section
/-! ===== the desk's checker: a NAME and its ARGs: pieces ===== -/
theorem w_nm {CALL : sx_Ca} {sL : Nat} {sx : Nat → Int32} {Q : Nat → sx_L → sx_S → Prop} {R : Int → sx_S → Prop} (h_dz_blame : ∀ (a0 a1 : Int) (s : sx_S) (K : Int → sx_S → Prop), cx_I s → (-2147483648 ≤ a0 ∧ a0 ≤ 2147483647) → (-2147483648 ≤ a1 ∧ a1 ≤ 2147483647) → (∀ (z : Int) (t : sx_S), cx_I t → cx_F [(18, 18)] s t → (z = 0) → (t.1 18 9 = s.1 18 9) → (t.1 18 10 = s.1 18 10) → K z t) → CALL 21 [.inr (.inl 18), .inl a0, .inl a1] s K) {s : sx_S} {a0 a1 lo : Int} {Zm : sx_S → Prop} {Zx : Prop} (hI : cx_I s) (hlo : 0 ≤ lo ∧ lo ≤ 2000) (hm0 : ∀ t, Zm t → cx_I t) (h_mg : ∀ K : Int → sx_S → Prop, (∀ t, Zm t → K lo t) → (Zx → K (-1) s) → CALL 32 [.inr (.inl 18), .inl (s.1 18 11)] s K) (hX : Zx → (∀ u, cx_I u → u.1 18 9 = s.1 18 9 → R (-1) u)) (hQ : ∀ t, Zm t → ∀ w, w = sx_w true (t.1 18 11 + 1) → ∀ y, y = t.1 18 12 → Q 48 [(0, .inr (.inl 18)), (1, .inl a0), (2, .inl a1), (3, .inl (s.1 18 11)), (4, .inl lo), (5, .inl y), (6, .inl 1), (7, .inl 0)] (sx_uf t.1 18 11 w, t.2)) : sx_wp true sL sx eX1_named CALL [(48, [0, 1, 2, 3, 4, 5, 6, 7]), (80, [0, 1, 2, 3, 4, 5, 6, 7, 8, 9]), (124, [0, 1, 2, 3, 4, 5, 6, 7, 9]), (153, [0, 3, 4, 5, 6])] Q R 400 0 (sx_argsF 0 [.inr (.inl 18), .inl a0, .inl a1]) [] s := by
  have h11 := hI.fld 18 11 (by decide) rfl
  have zzI : ∀ t : sx_S, cx_I t → cx_I (sx_uf t.1 18 11 (sx_w true (t.1 18 11 + 1)), t.2) := fun t h => cx_I_uf rfl rfl h (by rw [sx_w_t]; omega) (by rw [sx_w_t]; omega)
  repeat' (first | (with_reducible (rintro _ rfl)) | (with_reducible intro _) | (refine And.intro ?_ ?_) | (refine h_mg _ ?_ ?_) | (refine h_dz_blame _ _ _ _ ?_ ?_ ?_ ?_))
  all_goals (try dsimp only at *)
  all_goals (first | trivial | assumption | omega | (exfalso; omega) | (exact hm0 _ (by assumption)) | (exact zzI _ (hm0 _ (by assumption))) | (refine hQ _ ?_ _ ?_ _ ?_ <;> first | assumption | rfl) | (refine hX ?_ _ ?_ ?_ <;> assumption) | skip)
theorem w_nm_48 {CALL : sx_Ca} {sL : Nat} {sx : Nat → Int32} {Q : Nat → sx_L → sx_S → Prop} {R : Int → sx_S → Prop} {s : sx_S} {a0 a1 a3 x4 x5 x6 x7 : Int} {B : Prop} {Zt : Int → sx_S → Prop} (hI : cx_I s) (q7 : 0 ≤ x7 ∧ x7 < 240) (qa : a1 = 0 ∨ a1 = 1) (h_bg : a1 = 1 → ∀ K : Int → sx_S → Prop, (B → K 1 s) → (¬ B → K 0 s) → CALL 30 [.inr (.inl 18)] s K) (h_arg : a1 = 1 → B → ∀ K : Int → sx_S → Prop, (∀ w t, Zt w t → K w t) → CALL 31 [.inr (.inl 18), .inl a0] s K) (hQ : ∀ w t, Zt w t → Q 80 [(0, .inr (.inl 18)), (1, .inl a0), (2, .inl a1), (3, .inl a3), (4, .inl x4), (5, .inl x5), (6, .inl x6), (7, .inl x7), (8, .inl (s.1 18 11)), (9, .inl w)] t) (hE : a1 = 0 ∨ ¬ B → Q 153 [(0, .inr (.inl 18)), (3, .inl a3), (4, .inl x4), (5, .inl x5), (6, .inl x6)] s) : sx_wp true sL sx eX1_named CALL [(48, [0, 1, 2, 3, 4, 5, 6, 7]), (80, [0, 1, 2, 3, 4, 5, 6, 7, 8, 9]), (124, [0, 1, 2, 3, 4, 5, 6, 7, 9]), (153, [0, 3, 4, 5, 6])] Q R 400 48 [(0, .inr (.inl 18)), (1, .inl a0), (2, .inl a1), (3, .inl a3), (4, .inl x4), (5, .inl x5), (6, .inl x6), (7, .inl x7)] [] s := by
  have h11 := hI.fld 18 11 (by decide) rfl
  rcases qa with qa | qa
  · have hE' := hE (Or.inl qa)
    subst qa
    clear h_arg h_bg hQ
    repeat' (first | (with_reducible (rintro _ rfl)) | (with_reducible intro _) | (refine And.intro ?_ ?_) | (fail))
    all_goals (try dsimp only at *)
    all_goals (first | trivial | assumption | omega | (exfalso; omega) | skip)
  · have h_bg' := h_bg qa
    have h_arg' := h_arg qa
    have hE' := fun q => hE (Or.inr q)
    subst qa
    clear h_arg h_bg hE
    repeat' (first | (with_reducible (rintro _ rfl)) | (with_reducible intro _) | (refine And.intro ?_ ?_) | (refine h_bg' _ ?_ ?_) | (refine h_arg' ?_ _ ?_))
    all_goals (try dsimp only at *)
    all_goals (first | trivial | assumption | omega | (exfalso; omega) | (exact hE' (by assumption)) | (exact hQ _ _ (by assumption)) | skip)
theorem w_nm_80 {CALL : sx_Ca} {sL : Nat} {sx : Nat → Int32} {Q : Nat → sx_L → sx_S → Prop} {R : Int → sx_S → Prop} (h_dz_blame : ∀ (a0 a1 : Int) (s : sx_S) (K : Int → sx_S → Prop), cx_I s → (-2147483648 ≤ a0 ∧ a0 ≤ 2147483647) → (-2147483648 ≤ a1 ∧ a1 ≤ 2147483647) → (∀ (z : Int) (t : sx_S), cx_I t → cx_F [(18, 18)] s t → (z = 0) → (t.1 18 9 = s.1 18 9) → (t.1 18 10 = s.1 18 10) → K z t) → CALL 21 [.inr (.inl 18), .inl a0, .inl a1] s K) {s : sx_S} {a0 a1 a3 x4 x5 x6 x7 x8 x9 Af Ag : Int} (hI : cx_I s) (r8 : -2147483648 ≤ x8 ∧ x8 ≤ 2147483647) (r5 : -2147483648 ≤ Af ∧ Af ≤ 2147483647) (r9 : -1 ≤ x9 ∧ x9 ≤ 2000) (hf : x9 < 0 → R (-1) s) (h_from : 0 ≤ x9 → ∀ K : Int → sx_S → Prop, K Af s → CALL 117 [.inr (.inl 8), .inl x5] s K) (h_to : 0 ≤ x9 → Af = s.1 18 12 → ∀ K : Int → sx_S → Prop, K Ag s → CALL 118 [.inr (.inl 8), .inl x5] s K) (hne : 0 ≤ x9 → Af ≠ s.1 18 12 → (∀ u, cx_I u → u.1 18 9 = s.1 18 9 → R (-1) u)) (hQ : 0 ≤ x9 → Af = s.1 18 12 → Q 124 [(0, .inr (.inl 18)), (1, .inl a0), (2, .inl a1), (3, .inl a3), (4, .inl x4), (5, .inl Ag), (6, .inl x6), (7, .inl x7), (9, .inl x9)] s) : sx_wp true sL sx eX1_named CALL [(48, [0, 1, 2, 3, 4, 5, 6, 7]), (80, [0, 1, 2, 3, 4, 5, 6, 7, 8, 9]), (124, [0, 1, 2, 3, 4, 5, 6, 7, 9]), (153, [0, 3, 4, 5, 6])] Q R 400 80 [(0, .inr (.inl 18)), (1, .inl a0), (2, .inl a1), (3, .inl a3), (4, .inl x4), (5, .inl x5), (6, .inl x6), (7, .inl x7), (8, .inl x8), (9, .inl x9)] [] s := by
  have h12 := hI.fld 18 12 (by decide) rfl
  by_cases h9 : 0 ≤ x9
  · have h_from' := h_from h9
    by_cases hA : Af = s.1 18 12
    · have h_to' := h_to h9 hA
      have hQ' := hQ h9 hA
      clear hf hne h_to h_from hQ
      repeat' (first | (with_reducible (rintro _ rfl)) | (with_reducible intro _) | (refine And.intro ?_ ?_) | (refine h_from' _ ?_) | (refine h_to' _ ?_))
      all_goals (try dsimp only at *)
      all_goals (first | trivial | assumption | omega | (exfalso; omega) | skip)
    · have hne' := hne h9 hA
      clear hf hne h_to h_from hQ
      repeat' (first | (with_reducible (rintro _ rfl)) | (with_reducible intro _) | (refine And.intro ?_ ?_) | (refine h_from' _ ?_) | (refine h_dz_blame _ _ _ _ ?_ ?_ ?_ ?_))
      all_goals (try dsimp only at *)
      all_goals (first | trivial | assumption | omega | (exfalso; omega) | (refine hne' _ ?_ ?_ <;> assumption) | skip)
  · have hf' := hf (by omega)
    clear hf hne h_to h_from hQ
    repeat' (first | (with_reducible (rintro _ rfl)) | (with_reducible intro _) | (refine And.intro ?_ ?_) | (fail))
    all_goals (try dsimp only at *)
    all_goals (first | trivial | assumption | omega | (exfalso; omega) | skip)
theorem w_nm_124 {CALL : sx_Ca} {sL : Nat} {sx : Nat → Int32} {Q : Nat → sx_L → sx_S → Prop} {R : Int → sx_S → Prop} {s : sx_S} {a0 a1 a3 x4 x5 x6 x7 x9 : Int} {Zg : Int → sx_S → Prop} (q7 : 0 ≤ x7 ∧ x7 < 240) (q6 : x6 = 0 ∨ x6 = 1) (h_gv : ∀ K : Int → sx_S → Prop, (∀ y u, (y = 0 ∨ y = 1) → Zg y u → K y u) → CALL 33 [.inr (.inl 18), .inl x4, .inl x9] s K) (hQ : ∀ u x6', (∃ y, Zg y u ∧ (y = 1 ∧ x6 = 1 ∧ x6' = 1 ∨ (y = 0 ∨ x6 = 0) ∧ x6' = 0)) → Q 48 [(0, .inr (.inl 18)), (1, .inl a0), (2, .inl a1), (3, .inl a3), (4, .inl x4), (5, .inl x5), (6, .inl x6'), (7, .inl (x7 + 1))] u) : sx_wp true sL sx eX1_named CALL [(48, [0, 1, 2, 3, 4, 5, 6, 7]), (80, [0, 1, 2, 3, 4, 5, 6, 7, 8, 9]), (124, [0, 1, 2, 3, 4, 5, 6, 7, 9]), (153, [0, 3, 4, 5, 6])] Q R 400 124 [(0, .inr (.inl 18)), (1, .inl a0), (2, .inl a1), (3, .inl a3), (4, .inl x4), (5, .inl x5), (6, .inl x6), (7, .inl x7), (9, .inl x9)] [] s := by
  have zzy : sx_w true (x7 + 1) = x7 + 1 := px_wid (by omega) (by omega)
  rw [← zzy] at hQ
  repeat' (first | (with_reducible (rintro _ rfl)) | (with_reducible intro _) | (refine And.intro ?_ ?_) | (refine h_gv _ ?_))
  all_goals (try dsimp only at *)
  all_goals (first | trivial | assumption | omega | (exfalso; omega) | (exact hQ _ _ ⟨_, by assumption, by omega⟩) | skip)
theorem w_nm_153 {CALL : sx_Ca} {sL : Nat} {sx : Nat → Int32} {Q : Nat → sx_L → sx_S → Prop} {R : Int → sx_S → Prop} (h_dz_blame : ∀ (a0 a1 : Int) (s : sx_S) (K : Int → sx_S → Prop), cx_I s → (-2147483648 ≤ a0 ∧ a0 ≤ 2147483647) → (-2147483648 ≤ a1 ∧ a1 ≤ 2147483647) → (∀ (z : Int) (t : sx_S), cx_I t → cx_F [(18, 18)] s t → (z = 0) → (t.1 18 9 = s.1 18 9) → (t.1 18 10 = s.1 18 10) → K z t) → CALL 21 [.inr (.inl 18), .inl a0, .inl a1] s K) {s : sx_S} {a3 x4 x5 x6 : Int} {Zc : Int → sx_S → Prop} (hI : cx_I s) (q6 : x6 = 0 ∨ x6 = 1) (r3 : -2147483648 ≤ a3 ∧ a3 ≤ 2147483647) (hb : x6 = 0 → (∀ u, cx_I u → u.1 18 9 = s.1 18 9 → R (-1) u)) (h_cp : x6 = 1 → ∀ K : Int → sx_S → Prop, (∀ z t, Zc z t → K z t) → CALL 97 [.inr (.inl 11), .inl x4, .inl x5, .inl 0] (sx_uf s.1 18 12 x5, s.2) K) (hc : ∀ z t, Zc z t → R z t) : sx_wp true sL sx eX1_named CALL [(48, [0, 1, 2, 3, 4, 5, 6, 7]), (80, [0, 1, 2, 3, 4, 5, 6, 7, 8, 9]), (124, [0, 1, 2, 3, 4, 5, 6, 7, 9]), (153, [0, 3, 4, 5, 6])] Q R 400 153 [(0, .inr (.inl 18)), (3, .inl a3), (4, .inl x4), (5, .inl x5), (6, .inl x6)] [] s := by
  rcases q6 with q6 | q6
  · have hb' := hb q6
    subst q6
    clear h_cp
    repeat' (first | (with_reducible (rintro _ rfl)) | (with_reducible intro _) | (refine And.intro ?_ ?_) | (refine h_dz_blame _ _ _ _ ?_ ?_ ?_ ?_))
    all_goals (try dsimp only at *)
    all_goals (first | trivial | assumption | omega | (exfalso; omega) | (refine hb' _ ?_ ?_ <;> assumption) | skip)
  · have h_cp' := h_cp q6
    subst q6
    repeat' (first | (with_reducible (rintro _ rfl)) | (with_reducible intro _) | (refine And.intro ?_ ?_) | (refine h_cp' _ ?_) | (refine h_dz_blame _ _ _ _ ?_ ?_ ?_ ?_))
    all_goals (try dsimp only at *)
    all_goals (first | trivial | assumption | omega | (exfalso; omega) | (exact hc _ _ (by assumption)) | skip)
end
