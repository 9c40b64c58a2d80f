/-! ===== the law of load: the two calls and the comparison ===== -/
theorem px_an_fun {b : Nat → Int} {n z z' : Int} (h : px_an b n z) (h' : px_an b n z') : z = z' := by
  rcases h with ⟨h1, h2⟩ | ⟨l, h1, h2⟩ <;> rcases h' with ⟨g1, g2⟩ | ⟨l', g1, g2⟩
  · omega
  · exact absurd g1 (h2 l')
  · exact absurd h1 (g2 l)
  · obtain rfl := px_TX_fun h1 g1
    rcases h2 with ⟨h2, h3⟩ | ⟨h2, h3⟩ <;> rcases g2 with ⟨g2, g3⟩ | ⟨g2, g3⟩
    · omega
    · exact absurd h3 g3
    · exact absurd g3 h3
    · omega
theorem px_an_r {b : Nat → Int} {n z : Int} (h : px_an b n z) : -3 ≤ z ∧ z ≤ 0 := by
  rcases h with ⟨h1, _⟩ | ⟨l, _, ⟨h1, _⟩ | ⟨h1, _⟩⟩ <;> omega
theorem c_D_load {sL : Nat} {sx : Nat → Int32} (hsL : sL ≤ 3072) (d : Nat) (hd : 170 ≤ d) : ∀ (a0 : Int) (s : sx_S) (K : Int → sx_S → Prop), cx_I s → (-2147483648 ≤ a0 ∧ a0 ≤ 2147483647) → (a0 < 0 ∨ s.1 0 1 < a0 → K (-1) s) → (0 ≤ a0 → a0 ≤ s.1 0 1 → ∀ z t, cx_I t → cx_F [(0, 28)] s t → t.1 0 1 = 0 → px_A5 (s.2.1 1) a0 z (t.1 0 2) (t.1 19 2) (t.1 22 2) (t.1 18 10) → K z t) → sx_C sL sx d 138 [.inr (.inl 0), .inl a0] s K := by
  intro a0 s K hI ra hN hK
  obtain ⟨d, rfl⟩ : ∃ e, d = e + 3 := ⟨d - 3, by omega⟩
  have hL : ∀ K' : Int → sx_S → Prop, (∀ (z : Int) (t : sx_S), (((a0 < 0 ∨ s.1 0 1 < a0) ∧ z = -1 ∧ t = s) ∨ ((0 ≤ a0 ∧ a0 ≤ s.1 0 1) ∧ px_an (s.2.1 1) a0 z ∧ (z = 0 → cx_I t ∧ ∃ l, px_TX (px_K (s.2.1 1) a0) l 0 ∧ px_ck (px_SN (s.2.1 1) a0) l [] [] 0 ∧ (t.1 19 2 = (px_c3 3 l : Int) ∧ t.1 22 2 = (px_c3 4 l : Int) ∧ t.1 18 10 = (px_c3 5 l : Int))))) → K' z t) → sx_C sL sx (d + 1 + 2) 138 [.inr (.inl 0), .inl a0] s K' := fun K' hK' => st_dz_load hsL (d := d + 1) (by omega) (fun b n => st_dz_acc hsL (d := d) (by omega) b n (fun a0 a1 s K h1 h2 h3 hK => c_nodeC hsL (d + 1) (by omega) a0 a1 s K h1 h2 h3 (fun z t t1 t2 t3 _ _ _ _ => hK z t t1 ⟨by rw [(t2.same 18 rfl).1], by rw [(t2.same 19 rfl).1], by rw [(t2.same 22 rfl).1]⟩ t3)) (fun a0 a1 s K h1 h2 h3 hK => c_completeC hsL (d + 1) (by omega) a0 a1 0 s K h1 h2 h3 (by omega) (fun z t t1 t2 t3 _ _ _ _ => hK z t t1 ⟨by rw [(t2.same 18 rfl).1], by rw [(t2.same 19 rfl).1], by rw [(t2.same 22 rfl).1]⟩ t3))) a0 s K' hI ra hK'
  by_cases hx : 0 ≤ a0 ∧ a0 ≤ s.1 0 1
  · refine sx_both (e := eX11_load) rfl (c_dload hsL (d + 3) (by omega) a0 s (fun z t => cx_I t ∧ cx_F [(0, 28)] s t ∧ (-2147483648 ≤ z ∧ z ≤ 2147483647) ∧ t.1 0 1 = 0 ∧ (z = 0 ∧ t.1 0 2 = 1 ∨ z ≠ 0 ∧ t.1 0 2 = 0)) hI ra (fun z t t1 t2 t3 t4 => ⟨t1, t2, t3, ?_⟩)) (hL (fun z t => px_an (s.2.1 1) a0 z ∧ (z = 0 → cx_I t ∧ ∃ l, px_TX (px_K (s.2.1 1) a0) l 0 ∧ px_ck (px_SN (s.2.1 1) a0) l [] [] 0 ∧ (t.1 19 2 = (px_c3 3 l : Int) ∧ t.1 22 2 = (px_c3 4 l : Int) ∧ t.1 18 10 = (px_c3 5 l : Int)))) (fun z t h => ?_)) (fun z1 t1 z2 t2 k1 k2 hz hh => ?_)
    · rcases t4 with ⟨q, _⟩ | ⟨_, _, q⟩
      · omega
      · exact q
    · rcases h with ⟨q, _⟩ | ⟨_, q⟩
      · omega
      · exact q
    · obtain ⟨c1, c2, c3, c4, c5⟩ := k1
      obtain ⟨k2, k3⟩ := k2
      have hr := px_an_r k2
      have ez : z1 = z2 := sx_vo_int hz c3 (by omega)
      rw [← ez] at k2 k3
      refine hK hx.1 hx.2 z1 t1 c1 c2 c4 ?_
      rcases c5 with ⟨c5, c6⟩ | ⟨c5, c6⟩
      · obtain ⟨q0, l, q1, q2, q3, q4, q5⟩ := k3 c5
        have a1 := sx_hp_fl (p := 19) (k := 2) rfl rfl hh (by have := c1.fld 19 2 (by decide) rfl; omega) (by have := q0.fld 19 2 (by decide) rfl; omega)
        have a2 := sx_hp_fl (p := 22) (k := 2) rfl rfl hh (by have := c1.fld 22 2 (by decide) rfl; omega) (by have := q0.fld 22 2 (by decide) rfl; omega)
        have a3 := sx_hp_fl (p := 18) (k := 10) rfl rfl hh (by have := c1.fld 18 10 (by decide) rfl; omega) (by have := q0.fld 18 10 (by decide) rfl; omega)
        exact Or.inr ⟨l, q1, Or.inl ⟨c5, q2, c6, by omega, by omega, by omega⟩⟩
      · exact px_A5_no k2 c5 c6
  · refine hL K (fun z t h => ?_)
    rcases h with ⟨q1, q2, q3⟩ | ⟨q, _⟩
    · rw [q2, q3]
      exact hN q1
    · exact absurd q hx

set_option maxRecDepth 8000 in
theorem w_law_ct {CALL : sx_Ca} {sL : Nat} {sx : Nat → Int32} {Q : Nat → sx_L → sx_S → Prop} {R : Int → sx_S → Prop} {s : sx_S} {i : Int} {PD : Int → sx_S → Prop} {PM : Int → sx_S → Int → sx_S → Prop} (q : 0 ≤ i ∧ i + 6 ≤ (sL : Int)) (hsL : sL ≤ 3072) (hD : ∀ a : Int, a = (sx (i + 1).toNat).toInt → (-2147483648 ≤ a ∧ a ≤ 2147483647) → ∀ K : Int → sx_S → Prop, (∀ z t, PD z t → K z t) → CALL 140 [.inr (.inl 0), .inl a] s K) (hM : ∀ z t, PD z t → ∀ a : Int, a = (sx (i + 1).toNat).toInt → (-2147483648 ≤ a ∧ a ≤ 2147483647) → ∀ K : Int → sx_S → Prop, (∀ z2 t2, PM z t z2 t2 → K z2 t2) → CALL 177 [.inr (.inl 66), .inl a] t K) (hS : ∀ z t z2 t2, PD z t → PM z t z2 t2 → z = z2 ∧ (-2147483648 ≤ z ∧ z ≤ 2147483647)) (hQ : ∀ z t z2 t2, PD z t → PM z t z2 t2 → Q 378 [(0, .inr (.inl 1000000)), (1, .inr (.inl 0)), (2, .inr (.inl 66)), (3, .inl i)] t2) : sx_wp true sL sx eL_law CALL [(18, [0, 1, 2, 3]), (88, [0, 1, 2, 3]), (151, [0, 1, 2, 3]), (174, [0, 1, 2, 3]), (197, [0, 1, 2, 3]), (220, [0, 1, 2, 3]), (233, [0, 1, 2, 3]), (246, [0, 1, 2, 3]), (269, [0, 1, 2, 3]), (302, [0, 1, 2, 3]), (335, [0, 1, 2, 3]), (378, [0, 1, 2, 3])] Q R 400 197 [(0, .inr (.inl 1000000)), (1, .inr (.inl 0)), (2, .inr (.inl 66)), (3, .inl i)] [] s := by
  have e1 : sx_w true (i + 1) = i + 1 := rf_wid (by omega) (by omega)
  repeat' (first | (with_reducible intro _) | (refine And.intro ?_ ?_) | (refine hQ _ _ _ _ (by assumption) (by assumption)) | (refine hM _ _ (by assumption) _ ?_ ?_ _ ?_) | (refine hD _ ?_ ?_ _ ?_))
  all_goals (try dsimp only)
  all_goals (first | trivial | assumption | omega | (exact rf_i32 _) | (exact (rf_i32 _).1) | (exact (rf_i32 _).2) | rfl | (subst_vars; rfl) | (rw [e1]) | (dsimp only; rw [e1]) | (subst_vars; dsimp only at *; rw [e1]) | (exfalso; have hs := hS _ _ _ _ (by assumption) (by assumption); omega) | (have hs := hS _ _ _ _ (by assumption) (by assumption); omega) | (dsimp only at *; omega) | (simp only [sx_w_t] at *; omega) | (subst_vars; omega) | skip)
set_option maxRecDepth 8000 in
theorem w_law_fd {CALL : sx_Ca} {sL : Nat} {sx : Nat → Int32} {Q : Nat → sx_L → sx_S → Prop} {R : Int → sx_S → Prop} {s : sx_S} {i : Int} {PD : sx_S → Prop} {PM : sx_S → sx_S → Prop} (q : 0 ≤ i ∧ i + 6 ≤ (sL : Int)) (hsL : sL ≤ 3072) (hD : ∀ a b c e f : Int, a = (sx (i + 1).toNat).toInt → b = (sx (i + 2).toNat).toInt → c = (sx (i + 3).toNat).toInt → e = (sx (i + 4).toNat).toInt → f = (sx (i + 5).toNat).toInt → ∀ K : Int → sx_S → Prop, (∀ z t, PD t → K z t) → CALL 137 [.inr (.inl 0), .inl a, .inl b, .inl c, .inl e, .inl f] s K) (hM : ∀ t, PD t → ∀ a b c e f : Int, a = (sx (i + 1).toNat).toInt → b = (sx (i + 2).toNat).toInt → c = (sx (i + 3).toNat).toInt → e = (sx (i + 4).toNat).toInt → f = (sx (i + 5).toNat).toInt → ∀ K : Int → sx_S → Prop, (∀ z t2, PM t t2 → K z t2) → CALL 150 [.inr (.inl 66), .inl a, .inl b, .inl c, .inl e, .inl f] t K) (hQ : ∀ t t2, PD t → PM t t2 → Q 378 [(0, .inr (.inl 1000000)), (1, .inr (.inl 0)), (2, .inr (.inl 66)), (3, .inl i)] t2) : sx_wp true sL sx eL_law CALL [(18, [0, 1, 2, 3]), (88, [0, 1, 2, 3]), (151, [0, 1, 2, 3]), (174, [0, 1, 2, 3]), (197, [0, 1, 2, 3]), (220, [0, 1, 2, 3]), (233, [0, 1, 2, 3]), (246, [0, 1, 2, 3]), (269, [0, 1, 2, 3]), (302, [0, 1, 2, 3]), (335, [0, 1, 2, 3]), (378, [0, 1, 2, 3])] Q R 400 88 [(0, .inr (.inl 1000000)), (1, .inr (.inl 0)), (2, .inr (.inl 66)), (3, .inl i)] [] s := by
  have e1 : sx_w true (i + 1) = i + 1 := rf_wid (by omega) (by omega)
  have e2 : sx_w true (i + 2) = i + 2 := rf_wid (by omega) (by omega)
  have e3 : sx_w true (i + 3) = i + 3 := rf_wid (by omega) (by omega)
  have e4 : sx_w true (i + 4) = i + 4 := rf_wid (by omega) (by omega)
  have e5 : sx_w true (i + 5) = i + 5 := rf_wid (by omega) (by omega)
  repeat' (first | (with_reducible intro _) | (refine And.intro ?_ ?_) | (refine hQ _ _ (by assumption) (by assumption)) | (refine hM _ (by assumption) _ _ _ _ _ ?_ ?_ ?_ ?_ ?_ _ ?_) | (refine hD _ _ _ _ _ ?_ ?_ ?_ ?_ ?_ _ ?_))
  all_goals (try dsimp only)
  all_goals (first | trivial | assumption | omega | (exact rf_i32 _) | (exact (rf_i32 _).1) | (exact (rf_i32 _).2) | rfl | (subst_vars; rfl) | (rw [e1]; done) | (rw [e2]; done) | (rw [e3]; done) | (rw [e4]; done) | (rw [e5]; done) | (subst_vars; dsimp only at *; first | (rw [e1]; done) | (rw [e2]; done) | (rw [e3]; done) | (rw [e4]; done) | (rw [e5]; done)) | (dsimp only at *; omega) | (simp only [sx_w_t] at *; omega) | (subst_vars; omega) | skip)

set_option maxRecDepth 8000 in
theorem w_law_load {CALL : sx_Ca} {sL : Nat} {sx : Nat → Int32} {Q : Nat → sx_L → sx_S → Prop} {R : Int → sx_S → Prop} {s : sx_S} {i : Int} {PD : sx_S → Prop} {PM : sx_S → sx_S → Prop} (q : 0 ≤ i ∧ i + 6 ≤ (sL : Int)) (hsL : sL ≤ 3072) (hD : ∀ a : Int, a = (sx (i + 1).toNat).toInt → (-2147483648 ≤ a ∧ a ≤ 2147483647) → ∀ K : Int → sx_S → Prop, (∀ z t, PD t → K z t) → CALL 138 [.inr (.inl 0), .inl a] s K) (hM : ∀ t, PD t → ∀ a : Int, a = (sx (i + 1).toNat).toInt → (-2147483648 ≤ a ∧ a ≤ 2147483647) → ∀ K : Int → sx_S → Prop, (∀ z t2, PM t t2 → K z t2) → CALL 175 [.inr (.inl 66), .inl a] t K) (hQ : ∀ t t2, PD t → PM t t2 → Q 378 [(0, .inr (.inl 1000000)), (1, .inr (.inl 0)), (2, .inr (.inl 66)), (3, .inl i)] t2) : sx_wp true sL sx eL_law CALL [(18, [0, 1, 2, 3]), (88, [0, 1, 2, 3]), (151, [0, 1, 2, 3]), (174, [0, 1, 2, 3]), (197, [0, 1, 2, 3]), (220, [0, 1, 2, 3]), (233, [0, 1, 2, 3]), (246, [0, 1, 2, 3]), (269, [0, 1, 2, 3]), (302, [0, 1, 2, 3]), (335, [0, 1, 2, 3]), (378, [0, 1, 2, 3])] Q R 400 151 [(0, .inr (.inl 1000000)), (1, .inr (.inl 0)), (2, .inr (.inl 66)), (3, .inl i)] [] s := by
  have e1 : sx_w true (i + 1) = i + 1 := rf_wid (by omega) (by omega)
  repeat' (first | (with_reducible intro _) | (refine And.intro ?_ ?_) | (refine hQ _ _ (by assumption) (by assumption)) | (refine hM _ (by assumption) _ ?_ ?_ _ ?_) | (refine hD _ ?_ ?_ _ ?_))
  all_goals (try dsimp only)
  all_goals (first | trivial | assumption | omega | (exact rf_i32 _) | (exact (rf_i32 _).1) | (exact (rf_i32 _).2) | rfl | (subst_vars; rfl) | (rw [e1]) | (dsimp only; rw [e1]) | (subst_vars; dsimp only at *; rw [e1]) | (dsimp only at *; omega) | (simp only [sx_w_t] at *; omega) | (subst_vars; omega) | skip)
