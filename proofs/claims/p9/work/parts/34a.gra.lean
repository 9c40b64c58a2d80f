/-! ===== the desk's grammar, exactly: taking tokens ===== -/
/-- the desk holds the tokens of the text -/
def px_TK (b : Nat → Int) (n : Int) (s : sx_S) : Prop := px_DE b n (s.1 2 5) s
theorem px_TK_uf {b : Nat → Int} {n : Int} {F : Nat → Nat → Int} {B : (Nat → Nat → Int) × (Nat → Nat → Int) × Nat} {p k : Nat} {v : Int} (hp : Nat.beq 2 p = false) (h : px_TK b n (F, B)) : px_TK b n (sx_uf F p k v, B) := by
  have e : sx_uf F p k v 2 5 = F 2 5 := by
    rw [sx_uf_if, if_neg]
    rintro ⟨q, _⟩
    rw [q] at hp
    simp at hp
  show px_DE b n (sx_uf F p k v 2 5) (sx_uf F p k v, B)
  rw [e]
  exact h
theorem px_TK_F {V : List (Nat × Nat)} {b : Nat → Int} {n : Int} {s t : sx_S} (hF : cx_F V s t) (h2 : cx_outb V 2 = true) (h4 : cx_outb V 4 = true) (h5 : cx_outb V 5 = true) (h6 : cx_outb V 6 = true) (h : px_TK b n s) : px_TK b n t := by
  have e : t.1 2 5 = s.1 2 5 := by rw [(hF.same 2 h2).1]
  intro _
  rw [e]
  obtain ⟨a1, a2, a3⟩ := h trivial
  exact ⟨a1, px_DT_F hF h4 h5 h6 a2, a3⟩
theorem px_TK_kd {b : Nat → Int} {n i : Int} {s : sx_S} (h : px_TK b n s) (h0 : 0 ≤ i) (hl : px_lv b n i.toNat) : (i < s.1 2 5 → s.2.1 4 i.toNat = px_K b n i.toNat) ∧ (s.1 2 5 ≤ i → px_K b n i.toNat = 0) ∧ i ≤ s.1 2 5 := by
  obtain ⟨a1, a2, a3⟩ := h trivial
  have hi : i ≤ s.1 2 5 := by
    rcases Int.lt_or_le (s.1 2 5) i with q | q
    · rcases a3 with ⟨b1, b2⟩ | ⟨b1, b2, b3⟩
      · exact absurd b2 (hl _ (by omega)).1
      · exact absurd b3 (hl _ (by omega)).2
    · exact q
  refine ⟨fun q => (a2 i.toNat (by omega)).1, fun q => ?_, hi⟩
  have e : i = s.1 2 5 := by omega
  rcases a3 with ⟨b1, b2⟩ | ⟨b1, b2, b3⟩
  · rw [e]
    exact b2
  · exact absurd b3 (hl _ (by omega)).2
theorem px_K_r (b : Nat → Int) (n : Int) (i : Nat) : 0 ≤ px_K b n i ∧ px_K b n i ≤ 15 := px_kd_r b n _

theorem w_dx_kind {CALL : sx_Ca} {b : Nat → Int} {n : Int} {sL : Nat} {sx : Nat → Int32} {Q : Nat → sx_L → sx_S → Prop} {R : Int → sx_S → Prop} {s : sx_S} {t0 : Int} (hI : cx_I s) (p0 : (0 ≤ t0 ∧ t0 ≤ 1000)) (p1 : (px_TK b n s)) (p2 : (px_lv b n t0.toNat)) (hK : ∀ z : Int, (z = px_K b n t0.toNat) → R z s) : sx_wp true sL sx eX8_kind CALL [] Q R 400 0 (sx_argsF 0 [.inr (.inl 2), .inl t0]) [] s := by
  have zzk := px_TK_kd p1 p0.1 p2
  have zzt := p1 trivial
  repeat' (first | (with_reducible (rintro _ rfl)) | (with_reducible intro _) | (refine And.intro ?_ ?_) | (refine hK _ ?_))
  all_goals (try dsimp only)
  repeat' (first | (with_reducible assumption) | ((with_reducible (change cx_I (sx_uf _ _ _ _, _))); refine cx_I_uf rfl rfl ?_ ?_ ?_) | ((with_reducible (change cx_I (_, sx_ua _ _ _ _, _))); refine cx_I_ua rfl rfl ?_ ?_ ?_) | ((with_reducible (change cx_I (_, sx_ua _ 16 _ _, _))); refine cx_I_ari ?_ ?_ ?_) | ((with_reducible (change cx_I (sx_uf _ 11 6 _, _))); refine cx_I_ufA rfl ?_ ?_ ?_ ?_) | (with_reducible exact cx_F_refl _ _) | ((with_reducible (change cx_F _ _ (sx_uf _ _ _ _, _))); refine cx_F_uf rfl ?_) | ((with_reducible (change cx_F _ _ (_, sx_ua _ _ _ _, _))); refine cx_F_ua rfl ?_) | ((with_reducible (change cx_I (_, sx_cpy _ _ _ _ _ _, _))); refine cx_I_cpy rfl rfl rfl (by decide) ?_) | ((with_reducible (change cx_F _ _ (_, sx_cpy _ _ _ _ _ _, _))); refine cx_F_cpy rfl ?_) | ((with_reducible (change cx_F _ _ _)); refine cx_F_step (by assumption) rfl ?_) | ((with_reducible (change rf_f _ _ (sx_uf _ 66 _ _, _))); refine rf_f_uf rfl ?_) | ((with_reducible (change rf_f _ _ _)); exact (fun _ _ => rfl)) | ((with_reducible (change rf_f _ _ (_, sx_ua _ _ _ _, _))); refine rf_f_ua ?_) | ((with_reducible (change rf_f _ _ _)); assumption) | ((with_reducible (change rf_f _ _ _)); refine rf_f_step (by assumption) rfl ?_) | ((with_reducible (change rf_f _ _ _)); refine rf_f_F (by assumption) rfl ?_) | ((with_reducible (change px_g1 _ _ _ (_, sx_ua _ _ _ _, _))); refine px_g1_ua rfl (by omega) ?_) | ((with_reducible (change px_g1 _ _ _ _)); exact px_g1_refl _ _ _) | ((with_reducible (change px_g1 _ _ _ _)); assumption) | ((with_reducible (change sx_ua _ _ _ _ _ = _)); refine px_a_ua rfl ?_) | ((with_reducible (change px_RT _ _ _ (sx_uf _ _ _ _, _))); refine px_RT_uf ?_) | ((with_reducible (change px_RT _ _ _ (_, sx_ua _ 69 _ _, _))); refine px_RT_up (by assumption) (by assumption) (by assumption) (by assumption) (by assumption) (by omega) (px_bl_st (by assumption) (by omega)) (by omega)) | ((with_reducible (change px_RT _ _ _ (_, sx_ua _ _ _ _, _))); refine px_RT_ua rfl ?_) | ((with_reducible (change px_RT _ _ 0 _)); exact px_RT_0) | ((with_reducible (change px_RT _ _ _ _)); assumption) | ((with_reducible (change px_RT _ _ _ _)); refine px_RT_F (by assumption) rfl rfl rfl ?_) | ((with_reducible (change px_REx _ _ _)); exact px_REx_mk (by assumption) (by assumption) (by omega) (by omega)) | ((with_reducible (change (_ : sx_S).1 _ _ = _)); refine px_f_F (by assumption) rfl ?_) | ((with_reducible (change (_ : sx_S).2.1 _ = _)); refine px_a_F (by assumption) rfl ?_) | ((with_reducible (change sx_uf _ _ _ _ _ _ = _)); refine px_f_uf rfl ?_) | ((with_reducible (change px_DT _ _ _ (sx_uf _ _ _ _, _))); refine px_DT_uf ?_) | ((with_reducible (change px_DT _ _ _ _)); assumption) | ((with_reducible (change px_DT _ _ _ _)); refine px_DT_F (by assumption) rfl rfl rfl ?_) | ((with_reducible (change px_TK _ _ (sx_uf _ _ _ _, _))); refine px_TK_uf rfl ?_) | ((with_reducible (change px_TK _ _ _)); assumption) | ((with_reducible (change px_TK _ _ _)); refine px_TK_F (by assumption) rfl rfl rfl rfl ?_) | fail)
  all_goals (try dsimp only at *)
  all_goals (first | ((with_reducible (change px_lv _ _ _)); first | assumption | exact px_lv_up (x := s.1 7 1) (by assumption) (by omega) (by omega) (by omega)) | trivial | assumption | rfl | omega | (dsimp only at *; omega) | (simp only [sx_uf_if, sx_ua_if, sx_w_t, true_and, and_true, and_self, and_false, false_and, if_true, if_false, reduceIte] at *; omega) | (simp only [sx_uf_if, sx_ua_if, sx_w_t, true_and, and_true, and_self, and_false, false_and, if_true, if_false, reduceIte] at *; exact px_lv_up (x := s.1 7 1) (by assumption) (by omega) (by omega) (by omega)))

theorem c_dx_kind {sL : Nat} {sx : Nat → Int32} (hsL : sL ≤ 3072) (d : Nat) (hd : 2 ≤ d) (b : Nat → Int) (n : Int) : ∀ (t0 : Int) (s : sx_S) (K : Int → sx_S → Prop), cx_I s → (0 ≤ t0 ∧ t0 ≤ 1000) → (px_TK b n s) → (px_lv b n t0.toNat) → (∀ z : Int, (z = px_K b n t0.toNat) → K z s) → sx_C sL sx d 101 [.inr (.inl 2), .inl t0] s K := by
  intro t0 s K hI p0 p1 p2 hK
  obtain ⟨d, rfl⟩ : ∃ e, d = e + 2 := ⟨d - 2, by omega⟩
  exact sx_meth (wr := true) (n := 400) hsL (e := eX8_kind) rfl (w_dx_kind (Q := fun _ _ _ => False)  hI p0 p1 p2 hK)
