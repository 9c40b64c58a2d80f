/-! ===== the reference: equation, exactly ===== -/
/-- a tree that was read -/
def px_sh : px_N → Prop × Prop
  | .leaf => (False, True)
  | .inner g _ _ f x => ((g = 0 ∧ (px_sh f).1) ∨ (g ≠ 0 ∧ (px_sh f).2), ((g = 0 ∧ (px_sh f).1) ∨ (g ≠ 0 ∧ (px_sh f).2)) ∧ (px_sh x).2)
def px_hh : px_N → Nat × Nat
  | .leaf => (0, 0)
  | .inner g _ _ f x => (if g = 0 then 1 + (px_hh f).1 else 1 + (px_hh f).2, max (if g = 0 then 1 + (px_hh f).1 else 1 + (px_hh f).2) (px_hh x).2)
theorem px_rw_is {s : sx_S} (h9 : 2 ≤ s.1 66 9) : ∀ {N : rf_N} {n' : px_N}, px_is s N n' → ((px_sh n').1 → (rf_rw s N).1) ∧ ((px_sh n').2 → (rf_rw s N).2)
  | .leaf, .leaf, _ => ⟨id, id⟩
  | .leaf, .inner _ _ _ _ _, h => h.elim
  | .inner _ _ _ _ _, .leaf, h => h.elim
  | .inner j k u f x, .inner g q u' f' x', h => by
    obtain ⟨⟨_, h2⟩, h3, h4⟩ := h
    have hf := px_rw_is h9 h3
    have hx := px_rw_is h9 h4
    have h1 : (px_sh (.inner g q u' f' x')).1 → (rf_rw s (.inner j k u f x)).1 := by
      rintro (⟨a, b⟩ | ⟨a, b⟩) <;> rcases h2 with ⟨c1, c2, c3, c4⟩ | ⟨c1, c2, _⟩
      · exact Or.inl ⟨c1, ⟨qx_sh q.2, qx_ty_sh h9 c3, by rw [c4, qx_sh_at]⟩, hf.1 b⟩
      · omega
      · exact absurd c2 a
      · exact Or.inr ⟨c1, hf.2 b⟩
    exact ⟨h1, fun q => ⟨h1 q.1, hx.2 q.2⟩⟩
theorem px_ht_is {s : sx_S} : ∀ {N : rf_N} {n' : px_N}, px_is s N n' → rf_ht N = px_hh n'
  | .leaf, .leaf, _ => rfl
  | .leaf, .inner _ _ _ _ _, h => h.elim
  | .inner _ _ _ _ _, .leaf, h => h.elim
  | .inner j k u f x, .inner g q u' f' x', h => by
    obtain ⟨⟨_, h2⟩, h3, h4⟩ := h
    have e : (k.1 = 0) = (g = 0) := by
      rcases h2 with ⟨c1, c2, _⟩ | ⟨c1, c2, _⟩
      · exact propext ⟨fun _ => c2, fun _ => c1⟩
      · exact propext ⟨fun z => by omega, fun z => by omega⟩
    show ((if k.1 = 0 then 1 + (rf_ht f).1 else 1 + (rf_ht f).2, max (if k.1 = 0 then 1 + (rf_ht f).1 else 1 + (rf_ht f).2) (rf_ht x).2) : Nat × Nat) = (if g = 0 then 1 + (px_hh f').1 else 1 + (px_hh f').2, max (if g = 0 then 1 + (px_hh f').1 else 1 + (px_hh f').2) (px_hh x').2)
    rw [px_ht_is h3, px_ht_is h4]
    simp only [e]
theorem px_EV_nil {m : Int} {s : sx_S} (h : s.1 66 34 = 0) : px_EV m s [] := fun _ => ⟨⟨by rw [h]; rfl, fun k hk => absurd hk (Nat.not_lt_zero _)⟩, fun j k _ hk => absurd hk (Nat.not_lt_zero _)⟩
theorem w_q_eq_54 {CALL : sx_Ca} {sL : Nat} {sx : Nat → Int32} {Q : Nat → sx_L → sx_S → Prop} {R : Int → sx_S → Prop} (h_wrong : ∀ (a0 a1 : Int) (s : sx_S) (K : Int → sx_S → Prop), cx_I s → (1 ≤ a0 ∧ a0 ≤ 6) → (0 ≤ a1 ∧ a1 ≤ 241) → (∀ (z : Int) (t : sx_S), cx_I t → cx_F [(66, 66)] s t → (rf_f [40, 41] s t) → (t.1 66 40 ≠ 0) → ((s.1 66 40 ≠ 0 ∧ t.1 66 40 = s.1 66 40 ∧ t.1 66 41 = s.1 66 41) ∨ (s.1 66 40 = 0 ∧ t.1 66 40 = a0 ∧ t.1 66 41 = a1)) → K z t) → CALL 165 [.inr (.inl 66), .inl a0, .inl a1] s K) {s : sx_S} {r x2 x3 : Int} {PS : Int → Prop} (hI : cx_I s) (q : 0 ≤ r ∧ r ≤ 59) (hE : s.1 66 40 ≠ 0 → Q 81 [(0, .inr (.inl 66)), (1, .inl r)] s) (hS : s.1 66 40 = 0 → ∀ K : Int → sx_S → Prop, (∀ z, (0 ≤ z ∧ z ≤ 1) → PS z → K z s) → CALL 166 [.inr (.inl 66), .inl x2, .inl x3] s K) (hQ1 : s.1 66 40 = 0 → ∀ z, z ≠ 0 → PS z → Q 81 [(0, .inr (.inl 66)), (1, .inl r)] s) (hW : (∃ z, z = 0 ∧ PS z) → ∀ (t' : sx_S), cx_I t' → cx_F [(66, 66)] s t' → rf_f [40, 41] s t' → t'.1 66 40 ≠ 0 → s.1 66 40 = 0 → (0 ≤ t'.1 66 41 ∧ t'.1 66 41 ≤ 241) → Q 81 [(0, .inr (.inl 66)), (1, .inl r)] t') : sx_wp true sL sx eX12_equation CALL [(32, [0, 1, 2]), (54, [0, 1, 2, 3]), (81, [0, 1])] Q R 400 54 [(0, .inr (.inl 66)), (1, .inl r), (2, .inl x2), (3, .inl x3)] [] s := by
  repeat' (first | (with_reducible intro _) | (refine And.intro ?_ ?_) | (refine hE (by first | omega | (dsimp only at *; omega) | (subst_vars; omega))) | (refine hQ1 (by first | omega | (dsimp only at *; omega) | (subst_vars; omega)) _ (by first | omega | (dsimp only at *; omega) | (subst_vars; omega)) (by assumption)) | (refine hS (by first | omega | (dsimp only at *; omega) | (subst_vars; omega)) _ ?_) | (refine h_wrong _ _ _ _ ?_ ?_ ?_ ?_) | (refine hW ⟨_, by first | omega | (dsimp only at *; omega) | (subst_vars; omega), by assumption⟩ _ (by assumption) (by assumption) (by assumption) (by assumption) (by first | omega | (dsimp only at *; omega) | (subst_vars; omega)) ?_))
  all_goals (try dsimp only)
  repeat' (first | (with_reducible assumption) | ((with_reducible (change cx_I (sx_uf _ _ _ _, _))); refine cx_I_uf rfl rfl ?_ ?_ ?_) | ((with_reducible (change cx_I (_, sx_ua _ _ _ _, _))); refine cx_I_ua rfl rfl ?_ ?_ ?_) | ((with_reducible (change cx_I (_, sx_ua _ 16 _ _, _))); refine cx_I_ari ?_ ?_ ?_) | ((with_reducible (change cx_I (sx_uf _ 11 6 _, _))); refine cx_I_ufA rfl ?_ ?_ ?_ ?_) | (with_reducible exact cx_F_refl _ _) | ((with_reducible (change cx_F _ _ (sx_uf _ _ _ _, _))); refine cx_F_uf rfl ?_) | ((with_reducible (change cx_F _ _ (_, sx_ua _ _ _ _, _))); refine cx_F_ua rfl ?_) | ((with_reducible (change cx_I (_, sx_cpy _ _ _ _ _ _, _))); refine cx_I_cpy rfl rfl rfl (by decide) ?_) | ((with_reducible (change cx_F _ _ (_, sx_cpy _ _ _ _ _ _, _))); refine cx_F_cpy rfl ?_) | ((with_reducible (change cx_F _ _ _)); refine cx_F_step (by assumption) rfl ?_) | ((with_reducible (change rf_f _ _ (sx_uf _ 66 _ _, _))); refine rf_f_uf rfl ?_) | ((with_reducible (change rf_f _ _ _)); exact (fun _ _ => rfl)) | ((with_reducible (change rf_f _ _ (_, sx_ua _ _ _ _, _))); refine rf_f_ua ?_) | ((with_reducible (change rf_f _ _ _)); assumption) | ((with_reducible (change rf_f _ _ _)); refine rf_f_step (by assumption) rfl ?_) | ((with_reducible (change rf_f _ _ _)); refine rf_f_F (by assumption) rfl ?_) | ((with_reducible (change rf_A _ (sx_uf _ _ _ _, _))); refine rf_A_uf ?_) | ((with_reducible (change rf_A _ (_, sx_ua _ _ _ _, _))); refine rf_A_ua rfl ?_) | ((with_reducible (change rf_A _ _)); assumption) | ((with_reducible (change rf_A _ _)); refine rf_A_F (by assumption) rfl ?_) | fail)
  all_goals (first | trivial | assumption | omega | (dsimp only at *; omega) | (simp only [sx_uf_if, sx_ua_if, sx_w_t, true_and, and_true, and_self, and_false, false_and, if_true, if_false, reduceIte] at *; omega) | skip)
