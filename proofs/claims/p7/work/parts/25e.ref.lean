/-! ===== the reference: newMeta and keep, with the marks ===== -/
/-- the marks are as they were; the new unknown has none -/
def rf_KC (s t : sx_S) : Prop := rf_ag 124 124 (s.1 66 61) s t ∧ t.2.1 124 (s.1 66 61).toNat = 0
theorem rf_KC_same {s t u : sx_S} (e : u.2.1 124 = t.2.1 124) (h : rf_KC s t) : rf_KC s u := by
  refine ⟨fun p j hp hq hj => ?_, by rw [e]; exact h.2⟩
  have : p = 124 := by omega
  subst this
  rw [e]
  exact h.1 124 j hp hq hj
theorem w_newMetaC {CALL : sx_Ca} {sL : Nat} {sx : Nat → Int32} {Q : Nat → sx_L → sx_S → Prop} {R : Int → sx_S → Prop} {s : sx_S} (hI : cx_I s) (h61 : 0 ≤ s.1 66 61 ∧ s.1 66 61 ≤ 2999) (hK : ∀ n1 n2 n3 n4 v w z : Int, n1 = s.1 66 61 → n2 = s.1 66 61 → n3 = s.1 66 61 → n4 = s.1 66 61 → v = s.1 66 64 → w = s.1 66 61 + 1 → z = s.1 66 61 → R z (sx_uf s.1 66 61 w, sx_ua (sx_ua (sx_ua (sx_ua s.2.1 108 n1.toNat 0) 109 n2.toNat v) 111 n3.toNat 0) 124 n4.toNat 0, s.2.2)) : sx_wp true sL sx eX12_newMeta CALL [] Q R 400 0 (sx_argsF 0 [.inr (.inl 66)]) [] s := by
  repeat' (first | (with_reducible intro _) | (refine And.intro ?_ ?_) | (refine hK _ _ _ _ _ _ _ ?_ ?_ ?_ ?_ ?_ ?_ ?_))
  all_goals (try dsimp only)
  repeat' (first | (with_reducible assumption) | ((with_reducible (change cx_I (sx_uf _ _ _ _, _))); refine cx_I_uf rfl rfl ?_ ?_ ?_) | ((with_reducible (change cx_I (_, sx_ua _ _ _ _, _))); refine cx_I_ua rfl rfl ?_ ?_ ?_) | ((with_reducible (change cx_I (_, sx_ua _ 16 _ _, _))); refine cx_I_ari ?_ ?_ ?_) | ((with_reducible (change cx_I (sx_uf _ 11 6 _, _))); refine cx_I_ufA rfl ?_ ?_ ?_ ?_) | (with_reducible exact cx_F_refl _ _) | ((with_reducible (change cx_F _ _ (sx_uf _ _ _ _, _))); refine cx_F_uf rfl ?_) | ((with_reducible (change cx_F _ _ (_, sx_ua _ _ _ _, _))); refine cx_F_ua rfl ?_) | ((with_reducible (change cx_I (_, sx_cpy _ _ _ _ _ _, _))); refine cx_I_cpy rfl rfl rfl (by decide) ?_) | ((with_reducible (change cx_F _ _ (_, sx_cpy _ _ _ _ _ _, _))); refine cx_F_cpy rfl ?_) | ((with_reducible (change cx_F _ _ _)); refine cx_F_step (by assumption) rfl ?_) | ((with_reducible (change rf_f _ _ (sx_uf _ 66 _ _, _))); refine rf_f_uf rfl ?_) | ((with_reducible (change rf_f _ _ _)); exact (fun _ _ => rfl)) | ((with_reducible (change rf_f _ _ (_, sx_ua _ _ _ _, _))); refine rf_f_ua ?_) | ((with_reducible (change rf_f _ _ _)); assumption) | ((with_reducible (change rf_f _ _ _)); refine rf_f_step (by assumption) rfl ?_) | ((with_reducible (change rf_f _ _ _)); refine rf_f_F (by assumption) rfl ?_) | fail)
  all_goals (first | trivial | assumption | omega | (dsimp only at *; omega) | (simp only [sx_w_t] at *; omega) | (subst_vars; omega) | (subst_vars; assumption) | (subst_vars; dsimp only at *; omega) | (subst_vars; dsimp only at *; simp only [sx_w_t] at *; omega) | (simp only [sx_uf_if, sx_ua_if, sx_w_t, true_and, and_true, and_self, and_false, false_and, if_true, if_false, reduceIte] at *; omega) | (subst_vars; simp only [sx_uf_if, sx_ua_if, sx_w_t, true_and, and_true, and_self, and_false, false_and, if_true, if_false, reduceIte] at *; omega) | skip)
theorem c_r_newMetaC {sL : Nat} {sx : Nat → Int32} (hsL : sL ≤ 3072) (d : Nat) (hd : 2 ≤ d) : ∀ (s : sx_S) (K : Int → sx_S → Prop), cx_I s → (s.1 66 61 ≤ 2999) → (∀ (z : Int) (t : sx_S), cx_I t → cx_F [(66, 66), (108, 109), (111, 111), (124, 124)] s t → (z = s.1 66 61) → (t.1 66 61 = s.1 66 61 + 1) → (rf_f [61] s t) → (rf_ag 108 111 (s.1 66 61) s t) → (t.2.1 108 z.toNat = 0) → (t.2.1 109 z.toNat = s.1 66 64) → (t.2.1 111 z.toNat = 0) → rf_KC s t → K z t) → sx_C sL sx d 189 [.inr (.inl 66)] s K := by
  intro s K hI p0 hK
  obtain ⟨d, rfl⟩ : ∃ e, d = e + 2 := ⟨d - 2, by omega⟩
  have r61 := hI.fld 66 61 (by decide) rfl
  have r64 := hI.fld 66 64 (by decide) rfl
  refine sx_meth (wr := true) (n := 400) hsL (e := eX12_newMeta) rfl (w_newMetaC (Q := fun _ _ _ => False) hI ⟨r61.1, p0⟩ (fun n1 n2 n3 n4 v w z h1 h2 h3 h4 hv hw hz => ?_))
  subst h1 h2 h3 h4 hv hz
  have f61 : sx_uf s.1 66 61 w 66 61 = w := by
    rw [sx_uf_if]
    exact if_pos ⟨rfl, rfl⟩
  refine hK _ _ ?_ ?_ rfl ?_ ?_ ?_ ?_ ?_ ?_ ⟨?_, ?_⟩
  · exact cx_I_ua rfl rfl (cx_I_ua rfl rfl (cx_I_ua rfl rfl (cx_I_ua rfl rfl (cx_I_uf rfl rfl hI (by omega) (by omega)) (by decide) (by decide)) (by omega) (by omega)) (by decide) (by decide)) (by decide) (by decide)
  · exact cx_F_ua rfl (cx_F_ua rfl (cx_F_ua rfl (cx_F_ua rfl (cx_F_uf rfl (cx_F_refl _ _)))))
  · show sx_uf s.1 66 61 w 66 61 = _
    omega
  · exact rf_f_uf rfl (rf_f_refl _ _)
  · intro p j hp hq hj
    show sx_ua (sx_ua (sx_ua (sx_ua s.2.1 108 (s.1 66 61).toNat 0) 109 (s.1 66 61).toNat (s.1 66 64)) 111 (s.1 66 61).toNat 0) 124 (s.1 66 61).toNat 0 p j = _
    simp only [sx_ua_if]
    have : j ≠ (s.1 66 61).toNat := by omega
    simp only [if_neg this]
    (repeat' split) <;> rfl
  · show sx_ua (sx_ua (sx_ua (sx_ua s.2.1 108 (s.1 66 61).toNat 0) 109 (s.1 66 61).toNat (s.1 66 64)) 111 (s.1 66 61).toNat 0) 124 (s.1 66 61).toNat 0 108 _ = _
    rw [sx_ua_ne (by decide), sx_ua_ne (by decide), sx_ua_ne (by decide), sx_ua_same]
    exact if_pos rfl
  · show sx_ua (sx_ua (sx_ua (sx_ua s.2.1 108 (s.1 66 61).toNat 0) 109 (s.1 66 61).toNat (s.1 66 64)) 111 (s.1 66 61).toNat 0) 124 (s.1 66 61).toNat 0 109 _ = _
    rw [sx_ua_ne (by decide), sx_ua_ne (by decide), sx_ua_same]
    exact if_pos rfl
  · show sx_ua (sx_ua (sx_ua (sx_ua s.2.1 108 (s.1 66 61).toNat 0) 109 (s.1 66 61).toNat (s.1 66 64)) 111 (s.1 66 61).toNat 0) 124 (s.1 66 61).toNat 0 111 _ = _
    rw [sx_ua_ne (by decide), sx_ua_same]
    exact if_pos rfl
  · intro p j hp hq hj
    have : p = 124 := by omega
    subst this
    show sx_ua (sx_ua (sx_ua (sx_ua s.2.1 108 (s.1 66 61).toNat 0) 109 (s.1 66 61).toNat (s.1 66 64)) 111 (s.1 66 61).toNat 0) 124 (s.1 66 61).toNat 0 124 j = _
    rw [sx_ua_same]
    dsimp only
    rw [if_neg (by omega), sx_ua_ne (by decide), sx_ua_ne (by decide), sx_ua_ne (by decide)]
  · show sx_ua (sx_ua (sx_ua (sx_ua s.2.1 108 (s.1 66 61).toNat 0) 109 (s.1 66 61).toNat (s.1 66 64)) 111 (s.1 66 61).toNat 0) 124 (s.1 66 61).toNat 0 124 _ = _
    rw [sx_ua_same]
    exact if_pos rfl
theorem c_r_keepC {sL : Nat} {sx : Nat → Int32} (hsL : sL ≤ 3072) (d : Nat) (hd : 4 ≤ d) : ∀ (m row b : Int) (s : sx_S) (K : Int → sx_S → Prop), cx_I s → (0 ≤ m ∧ m < s.1 66 61) → s.1 66 61 ≤ 2990 → s.1 66 50 ≤ 59990 → s.1 66 56 ≤ 119980 → s.1 66 64 ≤ 19990 → (0 ≤ row ∧ row + s.2.1 108 m.toNat ≤ s.1 66 56) → s.2.1 109 m.toNat + s.2.1 108 m.toNat ≤ s.1 66 64 → (0 ≤ b ∧ b ≤ 15) → (0 ≤ s.1 66 70 ∧ s.1 66 70 ≤ 1000) → (∀ (z : Int) (t u : sx_S) (kf : Nat → Nat) (n : Nat), rf_KW s u (fun q => s.2.1 105 (row + (q : Int)).toNat) (fun q => s.2.1 110 (s.2.1 109 m.toNat + (q : Int)).toNat) kf n → (∀ i, i < n → ((kf i : Nat) : Int) < s.2.1 108 m.toNat ∧ rf_bt b ((kf i : Nat) : Int)) → (∀ i j, i < n → j < n → kf i = kf j → i = j) → ((n : Int) ≤ s.2.1 108 m.toNat ∧ ((∃ j : Nat, (j : Int) < s.2.1 108 m.toNat ∧ ¬ rf_bt b (j : Int)) → (n : Int) < s.2.1 108 m.toNat)) → rf_AS u t m row (s.1 66 50) (-1) → rf_KC s t → K z t) → sx_C sL sx d 193 [.inr (.inl 66), .inl m, .inl row, .inl b] s K := by
  intro m row b s K hI hm h61 h50 h56 h64 hrow hty hb h70 hK
  obtain ⟨d, rfl⟩ : ∃ e, d = e + 2 := ⟨d - 2, by omega⟩
  have r108 := hI.arr 108 (by decide) rfl m.toNat
  have r109 := hI.arr 109 (by decide) rfl m.toNat
  have r61 := hI.fld 66 61 (by decide) rfl
  have r50 := hI.fld 66 50 (by decide) rfl
  have r56 := hI.fld 66 56 (by decide) rfl
  have r64 := hI.fld 66 64 (by decide) rfl
  refine sx_methL (wr := true) (n := 400) (n' := 400) (stop := [(29, [0, 1, 2, 3, 4, 5, 6])]) (fun nn pc ls u => (pc = 29 ∧ ∃ (x4 x5 x6 : Int) (kf : Nat → Nat) (n : Nat), ls = [(0, .inr (.inl 66)), (1, .inl m), (2, .inl row), (3, .inl b), (4, .inl x4), (5, .inl x5), (6, .inl x6)] ∧ x4 = s.1 66 61 ∧ x5 = s.1 66 50 ∧ rf_KW s u (fun q => s.2.1 105 (row + (q : Int)).toNat) (fun q => s.2.1 110 (s.2.1 109 m.toNat + (q : Int)).toNat) kf n ∧ rf_KC s u ∧ (0 ≤ x6 ∧ x6 ≤ s.2.1 108 m.toNat) ∧ (∀ i, i < n → ((kf i : Nat) : Int) < x6 ∧ rf_bt b ((kf i : Nat) : Int)) ∧ (∀ i j, i < n → j < n → kf i = kf j → i = j) ∧ ((n : Int) ≤ x6 ∧ ((∃ j : Nat, (j : Int) < x6 ∧ ¬ rf_bt b (j : Int)) → (n : Int) < x6)) ∧ nn = (4 - x6).toNat)) hsL (e := eX12_keep) rfl ?_ ?_
  · refine w_keep (PN := fun z t => cx_I t ∧ cx_F [(66, 66), (108, 109), (111, 111), (124, 124)] s t ∧ z = s.1 66 61 ∧ t.1 66 61 = s.1 66 61 + 1 ∧ rf_f [61] s t ∧ rf_ag 108 111 (s.1 66 61) s t ∧ t.2.1 108 z.toNat = 0 ∧ t.2.1 109 z.toNat = s.1 66 64 ∧ t.2.1 111 z.toNat = 0 ∧ rf_KC s t) (PM := fun z t z2 t2 => cx_I t2 ∧ cx_F [(66, 66), (100, 103)] t t2 ∧ z2 = t.1 66 50 ∧ t2.1 66 50 = t.1 66 50 + 1 ∧ rf_f [50] t t2 ∧ rf_ag 100 103 (t.1 66 50) t t2 ∧ rf_mk t2 z2 3 z) ?_ ?_ ?_ ?_
    · intro K' hK'
      exact c_r_newMetaC hsL (d + 1) (by omega) s K' hI (by omega) (fun z t c1 c2 c3 c4 c5 c6 c7 c8 c9 c10 => hK' z t ⟨c1, c2, c3, c4, c5, c6, c7, c8, c9, c10⟩)
    · rintro z t ⟨c1, c2, c3, c4, c5, c6, c7, c8, c9, c10⟩ K' hK'
      have := c5 50 rfl
      exact c_r_make hsL (d + 1) (by omega) 3 z t K' c1 (by omega) (by omega) (by omega) (fun z2 t2 e1 e2 e3 e4 e5 e6 e7 => hK' z2 t2 ⟨e1, e2, e3, e4, e5, e6, e7⟩)
    · rintro z t z2 t2 ⟨c1, c2, c3, c4, c5, c6, c7, c8, c9, c10⟩ ⟨e1, e2, e3, e4, e5, e6, e7⟩
      have := c5 50 rfl
      exact ⟨e1, by omega⟩
    · rintro z t z2 t2 ⟨c1, c2, c3, c4, c5, c6, c7, c8, c9, c10⟩ ⟨e1, e2, e3, e4, e5, e6, e7⟩ w hw
      have := c5 50 rfl
      exact ⟨_, rfl, z, z2, 0, fun _ => 0, 0, rfl, c3, by omega, rf_KW_0 r61.1 r50.1 c2 c3 c4 c5 c6 c7 c8 c9 e1 e2 e3 e4 e5 e6 e7 hw, rf_KC_same (by show sx_ua t2.2.1 104 z2.toNat w 124 = t.2.1 124; rw [sx_ua_ne (by decide)]; exact (e2.same 124 rfl).2) c10, by omega, fun i hi => absurd hi (Nat.not_lt_zero _), fun i j hi => absurd hi (Nat.not_lt_zero _), ⟨by omega, fun ⟨j, hj, _⟩ => by omega⟩, rfl⟩
  · rintro nn pc ls u ⟨rfl, x4, x5, x6, kf, n, rfl, hx4, hx5, hW, hC, h6, hkf, hki, ⟨hn1, hn2⟩, rfl⟩
    have hW2 := hW
    obtain ⟨⟨b1, b2, b3⟩, ⟨c1, c2, c3, c4⟩, ⟨d1, d2, d3, d4, d5⟩, _, ⟨f1, f2, f3⟩, _⟩ := hW2
    have e108 : u.2.1 108 m.toNat = s.2.1 108 m.toNat := d3 108 _ (by omega) (by omega) (by omega)
    have e109 : u.2.1 109 m.toNat = s.2.1 109 m.toNat := d3 109 _ (by omega) (by omega) (by omega)
    have e70 := b3 70 rfl
    refine w_keep_29 (PA := fun t => s.2.1 108 m.toNat ≤ x6 ∧ rf_AS u t m row x5 (-1)) (PT := fun t => x6 < s.2.1 108 m.toNat ∧ cx_I t ∧ cx_F [(66, 66), (108, 108), (110, 110)] u t ∧ rf_f [64] u t ∧ t.1 66 64 = u.1 66 64 + 1 ∧ rf_ag 110 110 (u.1 66 64) u t ∧ t.2.1 110 (u.1 66 64).toNat = s.2.1 110 (s.2.1 109 m.toNat + x6).toNat ∧ rf_ro 108 108 x4 u t ∧ t.2.1 108 x4.toNat = u.2.1 108 x4.toNat + 1) b1 (by omega) (by omega) hb (by omega) (by omega) (by omega) (fun _ => by omega) ?_ ?_ ?_ ?_ ?_ ?_
    · intro q K' hK'
      exact c_r_assign hsL (d + 1) (by omega) m row x5 (-1) u K' b1 (by omega) (by omega) (by omega) (by omega) (by omega) (fun z t g1 g2 g3 g4 g5 g6 => hK' z t ⟨by omega, g1, g2, g3, g4, g5, g6⟩)
    · rintro t ⟨ex6, ht⟩
      rw [hx5] at ht
      exact hK 0 t u kf n hW (fun i hi => ⟨by have := (hkf i hi).1; omega, (hkf i hi).2⟩) hki ⟨by omega, fun ⟨j, j1, j2⟩ => by
        have := hn2 ⟨j, by omega, j2⟩
        omega⟩ ht (rf_KC_same (ht.2.1.same 124 rfl).2 hC)
    · intro q1 q2 y hy
      exact ⟨_, by omega, rfl, x4, x5, y, kf, n, rfl, hx4, hx5, hW, hC, by omega, fun i hi => ⟨by have := (hkf i hi).1; omega, (hkf i hi).2⟩, hki, ⟨by omega, fun _ => by omega⟩, rfl⟩
    · intro q1 q2 v hv K' hK'
      have hv2 : v = s.2.1 110 (s.2.1 109 m.toNat + x6).toNat := by
        rw [hv, e109]
        exact d4 110 _ (by omega) (by omega) (by omega)
      have hr := hI.arr 110 (by decide) rfl (s.2.1 109 m.toNat + x6).toNat
      exact c_r_addType hsL (d + 1) (by omega) x4 v u K' b1 (by omega) (by omega) (by omega) (by rw [hx4, f1]; omega) (fun z t g1 g2 g3 g4 g5 g6 g7 g8 => hK' z t ⟨by omega, g1, g2, g3, g4, g5, by rw [g6]; exact hv2, g7, g8⟩)
    · rintro t ⟨g0, g1, g2, g3, g4, g5, g6, g7, g8⟩
      have := g3 56 rfl
      exact ⟨g1, by omega⟩
    · rintro q1 q2 t ⟨g0, g1, g2, g3, g4, g5, g6, g7, g8⟩ y v n' w hy hv hn' hw
      have q56 := g3 56 rfl
      have hv2 : v = s.2.1 105 (row + x6).toNat := by
        rw [hv, (g2.same 105 rfl).2]
        exact d2 105 _ (by omega) (by omega) (by omega)
      have ex : ((x6.toNat : Nat) : Int) = x6 := by omega
      refine ⟨_, by omega, rfl, x4, x5, y, (fun i => if i = n then x6.toNat else kf i), n + 1, rfl, hx4, hx5, rf_KW_s (k := x6.toNat) r61.1 r56.1 r64.1 hx4 hW g1 g2 g3 g4 g5 g6 g7 g8 (by rw [ex]) (by rw [ex]; exact hv2) (by rw [hv]; exact g1.arr 105 (by decide) rfl _) hn' hw (by omega), rf_KC_same (by show sx_ua t.2.1 105 n'.toNat v 124 = u.2.1 124; rw [sx_ua_ne (by decide)]; exact (g2.same 124 rfl).2) hC, by omega, fun i hi => ?_, fun i j hi hj e => ?_, ⟨by push_cast; omega, fun ⟨j, j1, j2⟩ => ?_⟩, rfl⟩
      · dsimp only
        by_cases c : i = n
        · rw [if_pos c, ex]
          exact ⟨by omega, q2⟩
        · rw [if_neg c]
          have := hkf i (by omega)
          exact ⟨by omega, this.2⟩
      · dsimp only at e
        by_cases ci : i = n
        · by_cases cj : j = n
          · omega
          · rw [if_pos ci, if_neg cj] at e
            have := (hkf j (by omega)).1
            omega
        · by_cases cj : j = n
          · rw [if_neg ci, if_pos cj] at e
            have := (hkf i (by omega)).1
            omega
          · rw [if_neg ci, if_neg cj] at e
            exact hki i j (by omega) (by omega) e
      · have hj : (j : Int) ≠ x6 := fun e => by
          rw [e] at j2
          exact j2 q2
        have := hn2 ⟨j, by omega, j2⟩
        push_cast
        omega
