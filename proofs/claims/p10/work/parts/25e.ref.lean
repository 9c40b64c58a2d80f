/-! ===== the reference: newMeta and keep, with the marks ===== -/
/-- the marks are as they were; the new unknown has none -/
def rf_KC (s t : sx_S) : Prop := rf_ag 124 124 (s.1 66 61) s t ∧ t.2.1 124 (s.1 66 61).toNat = 0
theorem rf_KC_same {s t u : sx_S} (e : u.2.1 124 = t.2.1 124) (h : rf_KC s t) : rf_KC s u := by
  refine ⟨fun p j hp hq hj => ?_, by rw [e]; exact h.2⟩
  have : p = 124 := by omega
  subst this
  rw [e]
  exact h.1 124 j hp hq hj
theorem w_newMetaC {CALL : sx_Ca} {sL : Nat} {sx : Nat → Int32} {Q : Nat → sx_L → sx_S → Prop} {R : Int → sx_S → Prop} {s : sx_S} (hI : cx_I s) (h61 : 0 ≤ s.1 66 61 ∧ s.1 66 61 ≤ 2999) (hK : ∀ n1 n2 n3 n4 v w z : Int, n1 = s.1 66 61 → n2 = s.1 66 61 → n3 = s.1 66 61 → n4 = s.1 66 61 → v = s.1 66 64 → w = s.1 66 61 + 1 → z = s.1 66 61 → R z (sx_uf s.1 66 61 w, sx_ua (sx_ua (sx_ua (sx_ua s.2.1 108 n1.toNat 0) 109 n2.toNat v) 111 n3.toNat 0) 124 n4.toNat 0, s.2.2)) : sx_wp true sL sx eX12_newMeta CALL [] Q R 400 0 (sx_argsF 0 [.inr (.inl 66)]) [] s := by
  repeat' (first | (with_reducible intro _) | (refine And.intro ?_ ?_) | (refine hK _ _ _ _ _ _ _ ?_ ?_ ?_ ?_ ?_ ?_ ?_))
  all_goals (try dsimp only)
  repeat' (first | (with_reducible assumption) | ((with_reducible (change cx_I (sx_uf _ _ _ _, _))); refine cx_I_uf rfl rfl ?_ ?_ ?_) | ((with_reducible (change cx_I (_, sx_ua _ _ _ _, _))); refine cx_I_ua rfl rfl ?_ ?_ ?_) | ((with_reducible (change cx_I (_, sx_ua _ 16 _ _, _))); refine cx_I_ari ?_ ?_ ?_) | ((with_reducible (change cx_I (sx_uf _ 11 6 _, _))); refine cx_I_ufA rfl ?_ ?_ ?_ ?_) | (with_reducible exact cx_F_refl _ _) | ((with_reducible (change cx_F _ _ (sx_uf _ _ _ _, _))); refine cx_F_uf rfl ?_) | ((with_reducible (change cx_F _ _ (_, sx_ua _ _ _ _, _))); refine cx_F_ua rfl ?_) | ((with_reducible (change cx_I (_, sx_cpy _ _ _ _ _ _, _))); refine cx_I_cpy rfl rfl rfl (by decide) ?_) | ((with_reducible (change cx_F _ _ (_, sx_cpy _ _ _ _ _ _, _))); refine cx_F_cpy rfl ?_) | ((with_reducible (change cx_F _ _ _)); refine cx_F_step (by assumption) rfl ?_) | ((with_reducible (change rf_f _ _ (sx_uf _ 66 _ _, _))); refine rf_f_uf rfl ?_) | ((with_reducible (change rf_f _ _ _)); exact (fun _ _ => rfl)) | ((with_reducible (change rf_f _ _ (_, sx_ua _ _ _ _, _))); refine rf_f_ua ?_) | ((with_reducible (change rf_f _ _ _)); assumption) | ((with_reducible (change rf_f _ _ _)); refine rf_f_step (by assumption) rfl ?_) | ((with_reducible (change rf_f _ _ _)); refine rf_f_F (by assumption) rfl ?_) | fail)
  all_goals (first | trivial | assumption | omega | (dsimp only at *; omega) | (simp only [sx_w_t] at *; omega) | (subst_vars; omega) | (subst_vars; assumption) | (subst_vars; dsimp only at *; omega) | (subst_vars; dsimp only at *; simp only [sx_w_t] at *; omega) | (simp only [sx_uf_if, sx_ua_if, sx_w_t, true_and, and_true, and_self, and_false, false_and, if_true, if_false, reduceIte] at *; omega) | (subst_vars; simp only [sx_uf_if, sx_ua_if, sx_w_t, true_and, and_true, and_self, and_false, false_and, if_true, if_false, reduceIte] at *; omega) | skip)
theorem c_r_newMetaC {sL : Nat} {sx : Nat → Int32} (hsL : sL ≤ 3072) (d : Nat) (hd : 2 ≤ d) : ∀ (s : sx_S) (K : Int → sx_S → Prop), cx_I s → (s.1 66 61 ≤ 2999) → (∀ (z : Int) (t : sx_S), cx_I t → cx_F [(66, 66), (108, 109), (111, 111), (124, 124)] s t → (z = s.1 66 61) → (t.1 66 61 = s.1 66 61 + 1) → (rf_f [61] s t) → (rf_ag 108 111 (s.1 66 61) s t) → (t.2.1 108 z.toNat = 0) → (t.2.1 109 z.toNat = s.1 66 64) → (t.2.1 111 z.toNat = 0) → rf_KC s t → K z t) → sx_C sL sx d 189 [.inr (.inl 66)] s K := by
  intro s K hI p0 hK
  obtain ⟨d, rfl⟩ : ∃ e, d = e + 2 := ⟨d - 2, by omega⟩
  have r61 := hI.fld 66 61 (by decide) rfl
  have r64 := hI.fld 66 64 (by decide) rfl
  refine sx_meth (wr := true) (n := 400) hsL (e := eX12_newMeta) rfl (w_newMetaC (Q := fun _ _ _ => False) hI ⟨r61.1, p0⟩ (fun n1 n2 n3 n4 v w z h1 h2 h3 h4 hv hw hz => ?_))
  subst h1 h2 h3 h4 hv hz
  have f61 : sx_uf s.1 66 61 w 66 61 = w := by
    rw [sx_uf_if]
    exact if_pos ⟨rfl, rfl⟩
  refine hK _ _ ?_ ?_ rfl ?_ ?_ ?_ ?_ ?_ ?_ ⟨?_, ?_⟩
  · exact cx_I_ua rfl rfl (cx_I_ua rfl rfl (cx_I_ua rfl rfl (cx_I_ua rfl rfl (cx_I_uf rfl rfl hI (by omega) (by omega)) (by decide) (by decide)) (by omega) (by omega)) (by decide) (by decide)) (by decide) (by decide)
  · exact cx_F_ua rfl (cx_F_ua rfl (cx_F_ua rfl (cx_F_ua rfl (cx_F_uf rfl (cx_F_refl _ _)))))
  · show sx_uf s.1 66 61 w 66 61 = _
    omega
  · exact rf_f_uf rfl (rf_f_refl _ _)
  · intro p j hp hq hj
    show sx_ua (sx_ua (sx_ua (sx_ua s.2.1 108 (s.1 66 61).toNat 0) 109 (s.1 66 61).toNat (s.1 66 64)) 111 (s.1 66 61).toNat 0) 124 (s.1 66 61).toNat 0 p j = _
    simp only [sx_ua_if]
    have : j ≠ (s.1 66 61).toNat := by omega
    simp only [if_neg this]
    (repeat' split) <;> rfl
  · show sx_ua (sx_ua (sx_ua (sx_ua s.2.1 108 (s.1 66 61).toNat 0) 109 (s.1 66 61).toNat (s.1 66 64)) 111 (s.1 66 61).toNat 0) 124 (s.1 66 61).toNat 0 108 _ = _
    rw [sx_ua_ne (by decide), sx_ua_ne (by decide), sx_ua_ne (by decide), sx_ua_same]
    exact if_pos rfl
  · show sx_ua (sx_ua (sx_ua (sx_ua s.2.1 108 (s.1 66 61).toNat 0) 109 (s.1 66 61).toNat (s.1 66 64)) 111 (s.1 66 61).toNat 0) 124 (s.1 66 61).toNat 0 109 _ = _
    rw [sx_ua_ne (by decide), sx_ua_ne (by decide), sx_ua_same]
    exact if_pos rfl
  · show sx_ua (sx_ua (sx_ua (sx_ua s.2.1 108 (s.1 66 61).toNat 0) 109 (s.1 66 61).toNat (s.1 66 64)) 111 (s.1 66 61).toNat 0) 124 (s.1 66 61).toNat 0 111 _ = _
    rw [sx_ua_ne (by decide), sx_ua_same]
    exact if_pos rfl
  · intro p j hp hq hj
    have : p = 124 := by omega
    subst this
    show sx_ua (sx_ua (sx_ua (sx_ua s.2.1 108 (s.1 66 61).toNat 0) 109 (s.1 66 61).toNat (s.1 66 64)) 111 (s.1 66 61).toNat 0) 124 (s.1 66 61).toNat 0 124 j = _
    rw [sx_ua_same]
    dsimp only
    rw [if_neg (by omega), sx_ua_ne (by decide), sx_ua_ne (by decide), sx_ua_ne (by decide)]
  · show sx_ua (sx_ua (sx_ua (sx_ua s.2.1 108 (s.1 66 61).toNat 0) 109 (s.1 66 61).toNat (s.1 66 64)) 111 (s.1 66 61).toNat 0) 124 (s.1 66 61).toNat 0 124 _ = _
    rw [sx_ua_same]
    exact if_pos rfl
