section
/-! ===== the desk's checker: equations ===== -/
theorem w_dq {CALL : sx_Ca} {sL : Nat} {sx : Nat → Int32} {Q : Nat → sx_L → sx_S → Prop} {R : Int → sx_S → Prop} (h_bl : ∀ (a0 a1 : Int) (u : sx_S) (K : Int → sx_S → Prop), cx_I u → (-2147483648 ≤ a0 ∧ a0 ≤ 2147483647) → (-2147483648 ≤ a1 ∧ a1 ≤ 2147483647) → (∀ t, cx_I t → t.1 18 9 = u.1 18 9 → K 0 t) → CALL 21 [.inr (.inl 18), .inl a0, .inl a1] u K) {s : sx_S} {Zs : Prop} {Z1 : Int → sx_S → Prop} (hI : cx_I s) (h11 : 0 ≤ s.1 18 11 ∧ s.1 18 11 ≤ 900) (h_lt : s.1 18 10 < 4 → ∀ K : Int → sx_S → Prop, (Zs → K (-1) s) → (¬ Zs → ∀ z, 0 ≤ z → z ≤ 240 → K z s) → CALL 24 [.inr (.inl 18)] s K) (h_tm : s.1 18 10 < 4 → Zs → ∀ K : Int → sx_S → Prop, (∀ z t, Z1 z t → K z t) → CALL 27 [.inr (.inl 18), .inl 0] (sx_uf s.1 18 11 (s.1 18 11 + 1), s.2) K) (hQ : ∀ z t, Z1 z t → Q 52 [(0, .inr (.inl 18)), (2, .inl z)] t) (hF : ¬ (s.1 18 10 < 4) ∨ ¬ Zs → ∀ u, cx_I u → R 0 u) : sx_wp true sL sx eX1_equation CALL [(52, [0, 2]), (86, [0, 2, 3, 4, 5])] Q R 400 0 (sx_argsF 0 [.inr (.inl 18)]) [] s := by
  have zzy : sx_w true (s.1 18 11 + 1) = s.1 18 11 + 1 := px_wid (by omega) (by omega)
  rw [← zzy] at h_tm
  have f1 : ¬ (s.1 18 10 < 4) → ∀ u, cx_I u → R 0 u := fun q => hF (Or.inl q)
  have f2 : ¬ Zs → ∀ u, cx_I u → R 0 u := fun q => hF (Or.inr q)
  clear hF
  by_cases h4 : s.1 18 10 < 4
  · have h_lt' := h_lt h4
    have h_tm' := h_tm h4
    clear h_lt h_tm f1
    repeat' (first | (with_reducible (rintro _ rfl)) | (with_reducible intro _) | (refine And.intro ?_ ?_) | (refine h_lt' _ ?_ ?_) | (refine h_tm' ?_ _ ?_) | (refine h_bl _ _ _ _ ?_ ?_ ?_ ?_))
    all_goals (try dsimp only at *)
    all_goals (first | trivial | assumption | omega | (exfalso; omega) | (exact hQ _ _ (by assumption)) | (exact f2 (by assumption) _ (by assumption)) | skip)
  · have f1' := f1 h4
    clear h_lt h_tm
    repeat' (first | (with_reducible (rintro _ rfl)) | (with_reducible intro _) | (refine And.intro ?_ ?_) | (refine h_bl _ _ _ _ ?_ ?_ ?_ ?_))
    all_goals (try dsimp only at *)
    all_goals (first | trivial | assumption | omega | (exfalso; omega) | (exact f1' _ (by assumption)) | skip)
theorem w_dq_52 {CALL : sx_Ca} {sL : Nat} {sx : Nat → Int32} {Q : Nat → sx_L → sx_S → Prop} {R : Int → sx_S → Prop} {s : sx_S} {x2 : Int} {Z2 : Int → sx_S → Prop} (hI : cx_I s) (r2 : -1 ≤ x2 ∧ x2 ≤ 2000) (h11 : 0 ≤ x2 → 0 ≤ s.1 18 11 ∧ s.1 18 11 ≤ 900) (hF : x2 < 0 → R 0 s) (h_tm : 0 ≤ x2 → ∀ K : Int → sx_S → Prop, (∀ z t, Z2 z t → K z t) → CALL 27 [.inr (.inl 18), .inl 0] (sx_uf s.1 18 11 (s.1 18 11 + 1), s.2) K) (hQ : ∀ z t, Z2 z t → Q 86 [(0, .inr (.inl 18)), (2, .inl x2), (3, .inl (s.1 18 12)), (4, .inl (s.1 18 11)), (5, .inl z)] t) : sx_wp true sL sx eX1_equation CALL [(52, [0, 2]), (86, [0, 2, 3, 4, 5])] Q R 400 52 [(0, .inr (.inl 18)), (2, .inl x2)] [] s := by
  by_cases hx : 0 ≤ x2
  · have h11' := h11 hx
    have zzy : sx_w true (s.1 18 11 + 1) = s.1 18 11 + 1 := px_wid (by omega) (by omega)
    have h_tm' := h_tm hx
    rw [← zzy] at h_tm'
    clear h_tm hF
    repeat' (first | (with_reducible (rintro _ rfl)) | (with_reducible intro _) | (refine And.intro ?_ ?_) | (refine h_tm' _ ?_))
    all_goals (try dsimp only at *)
    all_goals (first | trivial | assumption | omega | (exfalso; omega) | (exact hQ _ _ (by assumption)) | skip)
  · have hF' := hF (by omega)
    clear h_tm
    repeat' (first | (with_reducible (rintro _ rfl)) | (with_reducible intro _) | (refine And.intro ?_ ?_) | (fail))
    all_goals (try dsimp only at *)
    all_goals (first | trivial | assumption | omega | (exfalso; omega) | skip)
theorem w_dq_86 {CALL : sx_Ca} {sL : Nat} {sx : Nat → Int32} {Q : Nat → sx_L → sx_S → Prop} {R : Int → sx_S → Prop} (h_bl : ∀ (a0 a1 : Int) (u : sx_S) (K : Int → sx_S → Prop), cx_I u → (-2147483648 ≤ a0 ∧ a0 ≤ 2147483647) → (-2147483648 ≤ a1 ∧ a1 ≤ 2147483647) → (∀ t, cx_I t → t.1 18 9 = u.1 18 9 → K 0 t) → CALL 21 [.inr (.inl 18), .inl a0, .inl a1] u K) {s : sx_S} {x2 x3 x4 x5 : Int} (hI : cx_I s) (h11 : 0 ≤ x5 → 0 ≤ s.1 18 11 ∧ s.1 18 11 ≤ 900) (h10 : 0 ≤ x5 → s.1 18 10 < 4) (r4 : -2147483648 ≤ x4 ∧ x4 ≤ 2147483647) (r2 : 0 ≤ x2 ∧ x2 ≤ 2000) (r3 : -2147483648 ≤ x3 ∧ x3 ≤ 2147483647) (r5 : -1 ≤ x5 ∧ x5 ≤ 2000) (hF0 : x5 < 0 → R 0 s) (hF1 : 0 ≤ x5 → s.1 18 12 ≠ x3 → ∀ u, cx_I u → R 0 u) (hK : 0 ≤ x5 → s.1 18 12 = x3 → R 1 (sx_uf (sx_uf s.1 18 11 (s.1 18 11 + 1)) 18 10 (s.1 18 10 + 1), sx_ua (sx_ua s.2.1 26 (2 * s.1 18 10).toNat x2) 26 (2 * s.1 18 10 + 1).toNat x5, s.2.2)) : sx_wp true sL sx eX1_equation CALL [(52, [0, 2]), (86, [0, 2, 3, 4, 5])] Q R 400 86 [(0, .inr (.inl 18)), (2, .inl x2), (3, .inl x3), (4, .inl x4), (5, .inl x5)] [] s := by
  have h10' := hI.fld 18 10 (by decide) rfl
  by_cases hx : 0 ≤ x5
  · have h11' := h11 hx
    have h10'' := h10 hx
    have zz1 : sx_w true (s.1 18 11 + 1) = s.1 18 11 + 1 := px_wid (by omega) (by omega)
    have zz2 : sx_w true (s.1 18 10 + 1) = s.1 18 10 + 1 := px_wid (by omega) (by omega)
    have zz3 : sx_w true (2 * s.1 18 10) = 2 * s.1 18 10 := px_wid (by omega) (by omega)
    have zz4 : sx_w true (2 * s.1 18 10 + 1) = 2 * s.1 18 10 + 1 := px_wid (by omega) (by omega)
    have zz5 : sx_uf s.1 18 11 (sx_w true (s.1 18 11 + 1)) 18 10 = s.1 18 10 := rfl
    have zzI1 : cx_I (sx_uf s.1 18 11 (sx_w true (s.1 18 11 + 1)), s.2) := cx_I_uf rfl rfl hI (by omega) (by omega)
    have zzI2 : cx_I (sx_uf s.1 18 11 (sx_w true (s.1 18 11 + 1)), sx_ua s.2.1 26 (sx_w true (2 * sx_uf s.1 18 11 (sx_w true (s.1 18 11 + 1)) 18 10)).toNat x2, s.2.2) := cx_I_ua rfl rfl zzI1 (by omega) (by omega)
    have zzI3 : cx_I (sx_uf s.1 18 11 (sx_w true (s.1 18 11 + 1)), sx_ua (sx_ua s.2.1 26 (sx_w true (2 * sx_uf s.1 18 11 (sx_w true (s.1 18 11 + 1)) 18 10)).toNat x2) 26 (sx_w true (sx_w true (2 * sx_uf s.1 18 11 (sx_w true (s.1 18 11 + 1)) 18 10) + 1)).toNat x5, s.2.2) := cx_I_ua rfl rfl zzI2 (by omega) (by omega)
    have hF1' := hF1 hx
    have hK' := hK hx
    rw [← zz4, ← zz3, ← zz2, ← zz1] at hK'
    clear hF0 hF1 hK
    by_cases h3 : s.1 18 12 = x3
    · have hK'' := hK' h3
      repeat' (first | (with_reducible (rintro _ rfl)) | (with_reducible intro _) | (refine And.intro ?_ ?_) | (fail))
      all_goals (try dsimp only at *)
      all_goals (first | trivial | assumption | omega | (exfalso; omega) | (show R 1 _; exact hK'') | (show _ < _; rw [zz5]; omega) | (rw [zz5]; omega) | (rw [zz5, zz3]; omega) | (rw [zz5, zz3, zz4]; omega) | skip)
    · have hF1'' := hF1' h3
      repeat' (first | (with_reducible (rintro _ rfl)) | (with_reducible intro _) | (refine And.intro ?_ ?_) | (refine h_bl _ _ _ _ ?_ ?_ ?_ ?_))
      all_goals (try dsimp only at *)
      all_goals (first | trivial | assumption | omega | (exfalso; omega) | (exact hF1'' _ (by assumption)) | skip)
  · have hF0' := hF0 (by omega)
    clear hF1 hK
    repeat' (first | (with_reducible (rintro _ rfl)) | (with_reducible intro _) | (refine And.intro ?_ ?_) | (fail))
    all_goals (try dsimp only at *)
    all_goals (first | trivial | assumption | omega | (exfalso; omega) | skip)
theorem dz_E_F {b : Nat → Int} {n : Int} {C M : List (Int × qx_T)} {s t : sx_S} (h : dz_E b n C M s) (hF : cx_F [(18, 18), (25, 26)] s t) : dz_E b n C M t := fun _ => by
  obtain ⟨e1, e2, e3, ⟨e4, e5⟩, e6, e7⟩ := h trivial
  have c8 : t.1 8 2 = s.1 8 2 := congrFun (hF.same 8 rfl).1 2
  have c9 := (hF.same 9 rfl).2
  have c10 := (hF.same 10 rfl).2
  have hu : dx_tu s t := dx_tu_c c8 c9 c10
  have hdl : ∀ o p q : Nat, cx_outb [(18, 18), (25, 26)] o = true → cx_outb [(18, 18), (25, 26)] p = true → cx_outb [(18, 18), (25, 26)] q = true → ∀ L, dz_DL o p q s L → dz_DL o p q t L := fun o p q ho hp hq L hL => fun _ => by
    obtain ⟨l1, l2⟩ := hL trivial
    refine ⟨by rw [(hF.same o ho).1]; exact l1, fun k hk => ?_⟩
    obtain ⟨e, f1, f2, f3, f4⟩ := l2 k hk
    refine ⟨e, f1, by rw [(hF.same p hp).2]; exact f2, by rw [(hF.same 2 rfl).1]; exact f3, ?_⟩
    rw [(hF.same q hq).2]
    exact dx_is_up f4 hu
  refine ⟨fun _ => ?_, hdl _ _ _ rfl rfl rfl _ e2, hdl _ _ _ rfl rfl rfl _ e3, ⟨dx_TI_c e4 c8 c9 c10, by omega⟩, e6, e7⟩
  obtain ⟨a1, a2, a3⟩ := e1 trivial
  exact ⟨(hF.same 3 rfl).2.trans a1, (congrFun (hF.same 2 rfl).1 4).trans a2, px_TK_F hF rfl rfl rfl rfl a3⟩
theorem dz_SC_0 {s : sx_S} (h : s.1 18 9 = 0) : dz_SC s [] [] := fun _ => ⟨⟨h.symm, rfl⟩, fun k hk => absurd hk (Nat.not_lt_zero _), fun w hw => absurd hw List.not_mem_nil, trivial, fun q hq => absurd hq List.not_mem_nil⟩
/-- what has a type has small TYPEs alone -/
theorem px_ARg_ls {SN : Int → Int → Prop} {C M Γ : List (Int × qx_T)} {K : Nat → Int} {T : Int → px_N → Int → Prop} (hT : ∀ a t e Γ y, T a t e → (px_wt SN C M t).1 Γ y → px_ls t) (hT1 : ∀ a t e, T a t e → ∃ g q f', t = .inner g q () f' .leaf) : ∀ {g : Nat} {a : Int} {r r' : px_N} {c : Int} {u w : qx_T}, px_ARg K T g a r r' c → px_ls r → (px_wt SN C M r').2 Γ u w → px_ls r'
  | 0, _, _, _, _, _, _, h, _, _ => h.elim
  | g + 1, a, r, r', c, u, w, h, hr, hw => by
    rcases h with ⟨q0, t, e, q1, q2, q3⟩ | ⟨q0, q⟩ | ⟨_, _, q1, q2⟩
    · obtain ⟨q', hq'⟩ := px_AR_sn ⟨g, q3⟩
      have hw' := hw
      rw [hq'] at hw'
      obtain ⟨w1, h1, _⟩ := px_wt_snoc.mp hw'
      obtain ⟨w2, _, h2⟩ := px_wt_snoc.mp h1
      obtain ⟨tg, tq, tf, rfl⟩ := hT1 _ _ _ q1
      obtain ⟨A, B, _, h3, _⟩ := px_wt_c.mp h2
      exact px_ARg_ls hT hT1 q3 (px_ls_sn hr (hT _ _ _ _ _ q1 h3)) hw
    · exact px_ARg_ls hT hT1 q (px_ls_sn hr ⟨fun z => absurd z (by decide), trivial, trivial⟩) hw
    · rw [q1]
      exact hr
theorem px_TM_ls {SN : Int → Int → Prop} {C M : List (Int × qx_T)} {K : Nat → Int} : ∀ {f : Nat} {a : Int} {t : px_N} {c : Int} {Γ : List (Int × qx_T)} {y : qx_T}, px_TM K f a t c → (px_wt SN C M t).1 Γ y → px_ls t
  | 0, _, _, _, _, _, h, _ => h.elim
  | f + 1, a, t, c, Γ, y, h, hw => by
    rcases h with ⟨q1, q2, q3, x, e, q4, q5, u, q6, rfl⟩ | ⟨q1, r, ⟨g, q⟩, rfl⟩
    · rcases hw with ⟨_, h5, B, hw, _⟩ | ⟨hw, _⟩
      · exact ⟨fun _ => h5, px_TM_ls q6 hw, trivial⟩
      · exact absurd rfl hw
    · rcases hw with ⟨hw, _⟩ | ⟨_, s, k, u, _, hw, _⟩
      · exact absurd hw (by decide)
      · exact ⟨fun z => absurd z (by decide), px_ARg_ls (T := px_TM K f) (fun _ _ _ _ _ h1 h2 => px_TM_ls h1 h2) (fun _ _ _ h1 => px_TM_1 h1) q trivial hw, trivial⟩
/-- the trees of an equation, and what else is left -/
def dl_EQ (b : Nat → Int) (n : Int) (C M : List (Int × qx_T)) (t1 t2 : px_N) (s t : sx_S) : Prop := True → (∃ (L R : rf_N) (x : qx_T), (L ≠ .leaf ∧ dz_T (s.1 11 6) t L (t.2.1 26 (2 * s.1 18 10).toNat)) ∧ (R ≠ .leaf ∧ dz_T (s.1 11 6) t R (t.2.1 26 (2 * s.1 18 10 + 1).toNat)) ∧ dl_mt b n C M (s.1 11 8) t L t1 [] [] x ∧ dl_mt b n C M (s.1 11 8) t R t2 [] [] x) ∧ dz_fr (fun j => (j : Int) < s.1 11 6) s t ∧ (s.1 11 8 ≤ t.1 11 8 ∧ ∀ j : Nat, (j : Int) < s.1 11 8 → t.2.1 17 j = s.2.1 17 j) ∧ dx_tu s t ∧ (∀ j : Nat, j ≠ (2 * s.1 18 10).toNat → j ≠ (2 * s.1 18 10 + 1).toNat → t.2.1 26 j = s.2.1 26 j)
theorem dl_mt_G {b : Nat → Int} {n : Int} {C M : List (Int × qx_T)} {lo g : Int} {u t : sx_S} {W : rf_N} {nn : px_N} {Γ : List (Int × qx_T)} {ρ : List Int} {x : qx_T} (hG : dz_G g u t) (h : dl_mt b n C M lo u W nn Γ ρ x) : dl_mt b n C M lo t W nn Γ ρ x := fun _ => by
  obtain ⟨a1, a2, a3⟩ := h trivial
  have h8 : u.1 11 8 ≤ t.1 11 8 := ((hG trivial).2.2.2.2.1).1
  exact ⟨dl_nb_mono (Int.le_refl _) h8 a1, a2, fun AR hA => (vl_tm_mono (dl_TV_G hG)).1 (a3 AR hA)⟩
theorem dl_mt_lo {b : Nat → Int} {n : Int} {C M : List (Int × qx_T)} {lo lo' : Int} {t : sx_S} {W : rf_N} {nn : px_N} {Γ : List (Int × qx_T)} {ρ : List Int} {x : qx_T} (hl : lo' ≤ lo) (h : dl_mt b n C M lo t W nn Γ ρ x) : dl_mt b n C M lo' t W nn Γ ρ x := fun _ => by
  obtain ⟨a1, a2, a3⟩ := h trivial
  exact ⟨dl_nb_mono hl (Int.le_refl _) a1, a2, a3⟩

theorem c_dz_eq {sL : Nat} {sx : Nat → Int32} (hsL : sL ≤ 3072) (d : Nat) (hd : 85 ≤ d) (b : Nat → Int) (n : Int) (C M : List (Int × qx_T)) : ∀ (a e g : Int) (t1 t2 : px_N) (s : sx_S) (R : Int → sx_S → Prop), cx_I s → s.1 18 11 = a → 0 ≤ a → px_K b n a.toNat = 5 → px_TM (px_K b n) 21 (a + 1) t1 e → px_K b n e.toNat = 15 → px_TM (px_K b n) 21 (e + 1) t2 g → px_K b n g.toNat = 14 → dz_E b n C M s → s.1 18 9 = 0 → px_lv b n g.toNat → (s.1 11 6 + 3 * (g - a) + 30 ≤ 1024 ∧ s.1 11 8 + 2 * (g - a) + 24 ≤ 512 ∧ s.1 8 2 + (g - a) ≤ 255) → (∀ t, (s.1 18 10 < 4 ∧ ∃ x, (px_wt (px_SN b n) C M t1).1 [] x ∧ (px_wt (px_SN b n) C M t2).1 [] x) → dz_IT s t (g + 1) → t.1 18 10 = s.1 18 10 + 1 → dz_E b n C M t → dl_EQ b n C M t1 t2 s t → R 1 t) → (¬ (s.1 18 10 < 4 ∧ ∃ x, (px_wt (px_SN b n) C M t1).1 [] x ∧ (px_wt (px_SN b n) C M t2).1 [] x) → ∀ t, cx_I t → R 0 t) → sx_C sL sx d 23 [.inr (.inl 18)] s R := by
  intro a e g t1 t2 s R hI pa pa0 k5 p1 k15 p2 k14 hE h9 hlv hr hK hX
  have hTK := ((hE trivial).1 trivial).2.2
  have hm := (hTK trivial).1
  have l1 := px_TM_le p1
  have l2 := px_TM_le p2
  have hgm := (px_TK_kd hTK (show 0 ≤ g by omega) hlv).2.2
  have h10 := hI.fld 18 10 (by decide) rfl
  have sc : (px_ls t1 ∧ px_ls t2 → ∃ m, px_Sp (px_K b n) (s.1 18 11) g 0 m) ∧ (¬ (px_ls t1 ∧ px_ls t2) → px_Xp (px_K b n) (s.1 18 11) g 0) := by
    rw [pa]
    have s0 : px_Sp (px_K b n) a (a + 1) 0 0 := px_Sp_1 (by omega) (by omega) (by omega) (by omega) (by omega)
    obtain ⟨c1, c2⟩ := px_Sp_TM (n := 0) p1 (by omega)
    by_cases q1 : px_ls t1
    · obtain ⟨m, m1, m2⟩ := c1 q1
      have s1 : px_Sp (px_K b n) a (e + 1) 0 m := px_Sp_t s0 (px_Sp_t m2 (px_Sp_1 m1 (by omega) (by omega) (by omega) (by omega)))
      obtain ⟨c3, c4⟩ := px_Sp_TM (n := m) p2 m1
      refine ⟨fun q => ?_, fun q => px_Xp_r s1 (c4 (fun z => q ⟨q1, z⟩))⟩
      obtain ⟨m', _, m4⟩ := c3 q.2
      exact ⟨m', px_Sp_t s1 m4⟩
    · exact ⟨fun q => absurd q.1 q1, fun _ => px_Xp_l (px_Xp_r s0 (c2 q1)) (by omega)⟩
  obtain ⟨d, rfl⟩ : ∃ e, d = e + 2 := ⟨d - 2, by omega⟩
  have i1 : cx_I (sx_uf s.1 18 11 (s.1 18 11 + 1), s.2) := cx_I_uf rfl rfl hI (by omega) (by omega)
  have e1 : ((sx_uf s.1 18 11 (s.1 18 11 + 1), s.2) : sx_S).1 18 11 = a + 1 := px_uS.trans (by omega)
  have g0 : dz_G (s.1 11 6) s (sx_uf s.1 18 11 (s.1 18 11 + 1), s.2) := dz_G_uf i1 (hE trivial).2.2.2.1.1 rfl
  refine sx_methL (wr := true) (n := 400) (n' := 400) (stop := [(52, [0, 2]), (86, [0, 2, 3, 4, 5])]) (fun nn pc ls u => (pc = 52 ∧ ∃ x2, ls = [(0, .inr (.inl 18)), (2, .inl x2)] ∧ (s.1 18 10 < 4 ∧ px_ls t2) ∧ ((x2 = -1 ∧ cx_I u ∧ ∀ x, ¬ (px_wt (px_SN b n) C M t1).1 [] x) ∨ ∃ x W B V, B ≤ 3 * (e - (a + 1)) + 6 ∧ V ≤ 2 * (e - (a + 1)) + 2 ∧ dz_R b n C M t1 [] [] (sx_uf s.1 18 11 (s.1 18 11 + 1), s.2) u e B V x2 x W) ∧ nn = 2) ∨ (pc = 86 ∧ ∃ x2 x3 x4 x5, ls = [(0, .inr (.inl 18)), (2, .inl x2), (3, .inl x3), (4, .inl x4), (5, .inl x5)] ∧ s.1 18 10 < 4 ∧ (-2147483648 ≤ x4 ∧ x4 ≤ 2147483647) ∧ (0 ≤ x2 ∧ x2 ≤ 2000) ∧ (-2147483648 ≤ x3 ∧ x3 ≤ 2147483647) ∧ (∃ x, (px_wt (px_SN b n) C M t1).1 [] x ∧ ((x5 = -1 ∧ cx_I u ∧ ∀ x, ¬ (px_wt (px_SN b n) C M t2).1 [] x) ∨ ((0 ≤ x5 ∧ x5 ≤ 2000) ∧ dx_is u x x3 ∧ dz_G (s.1 11 6) s u ∧ u.1 18 11 = g ∧ (u.1 11 6 ≤ s.1 11 6 + 3 * (g + 1 - a) + 3 ∧ u.1 11 8 ≤ s.1 11 8 + 2 * (g + 1 - a) ∧ u.1 8 2 ≤ s.1 8 2 + (g + 1 - a)) ∧ ∃ y, (px_wt (px_SN b n) C M t2).1 [] y ∧ dx_is u y (u.1 18 12) ∧ ∃ W W', (W ≠ .leaf ∧ dz_T (s.1 11 6) u W x2) ∧ (W' ≠ .leaf ∧ dz_T (s.1 11 6) u W' x5) ∧ dl_mt b n C M (s.1 11 8) u W t1 [] [] x ∧ dl_mt b n C M (s.1 11 8) u W' t2 [] [] y))) ∧ nn = 1)) hsL (e := eX1_equation) rfl ?_ ?_
  · refine w_dq (Zs := px_ls t1 ∧ px_ls t2) (Z1 := fun z t => (s.1 18 10 < 4 ∧ px_ls t2) ∧ ((z = -1 ∧ cx_I t ∧ ∀ x, ¬ (px_wt (px_SN b n) C M t1).1 [] x) ∨ ∃ x W B V, B ≤ 3 * (e - (a + 1)) + 6 ∧ V ≤ 2 * (e - (a + 1)) + 2 ∧ dz_R b n C M t1 [] [] (sx_uf s.1 18 11 (s.1 18 11 + 1), s.2) t e B V z x W)) (c_dz_bl hsL (d + 1) (by omega)) hI (by omega) ?_ ?_ ?_ ?_
    · intro _ K q1 q2
      by_cases q : px_ls t1 ∧ px_ls t2
      · exact c_dz_large hsL (d + 1) (by omega) b n g s K hI hTK (by omega) hlv k14 (Or.inl (sc.1 q)) (fun _ => q1 q) (fun h => by
          obtain ⟨m, hm⟩ := sc.1 q
          exact (px_SX hm h).elim)
      · exact c_dz_large hsL (d + 1) (by omega) b n g s K hI hTK (by omega) hlv k14 (Or.inr (sc.2 q)) (fun ⟨m, hm⟩ => (px_SX hm (sc.2 q)).elim) (fun _ => q2 q)
    · intro q4 qs K hK'
      refine c_dz_term hsL b n C M 21 (by omega) (d + 1) (by omega) (a + 1) e 0 t1 [] [] _ K i1 (by omega) (by show (0 : Int) ≤ _; omega) e1 (by omega) p1 qs.1 (dz_E_G hE g0) (dz_SC_0 h9) (px_lv_le hlv (by omega)) ?_ (fun z t x W B V c1 c2 c3 => hK' z t ⟨⟨q4, qs.2⟩, Or.inr ⟨x, W, B, V, c1, c2, c3⟩⟩) (fun q t t1 _ => hK' _ t ⟨⟨q4, qs.2⟩, Or.inl ⟨rfl, t1, q⟩⟩)
      show s.1 11 6 + _ + _ ≤ _ ∧ s.1 11 8 + _ + _ ≤ _ ∧ s.1 8 2 + _ ≤ _
      omega
    · rintro z t ⟨hz1, hz2⟩
      exact ⟨2, Or.inl ⟨rfl, z, rfl, hz1, hz2, rfl⟩⟩
    · intro q u hu
      refine hX (fun ⟨z1, x, z2, z3⟩ => ?_) u hu
      rcases q with q | q
      · exact q z1
      · exact q ⟨px_TM_ls p1 z2, px_TM_ls p2 z3⟩
  · rintro nn pc ls u (⟨rfl, x2, rfl, ⟨q4, qs⟩, hU, rfl⟩ | ⟨rfl, x2, x3, x4, x5, rfl, q4, r4, r2, r3, ⟨x, wx, hU⟩, rfl⟩)
    · rcases hU with ⟨rfl, u1, u2⟩ | ⟨x, W, B, V, c1, c2, c3⟩
      · exact w_dq_52 (Z2 := fun _ _ => False) u1 (by omega) (fun q => absurd q (by decide)) (fun _ => hX (fun ⟨_, x, z, _⟩ => u2 x z) u u1) (fun q => absurd q (by decide)) (fun _ _ q => q.elim)
      · obtain ⟨b1, b2, b3, b4, ⟨b5, b6⟩, b7, b8, b9, b10⟩ := c3 trivial
        have b1' : dz_G (s.1 11 6) (sx_uf s.1 18 11 (s.1 18 11 + 1), s.2) u := b1
        have b8' : u.1 11 6 ≤ s.1 11 6 + B := b8
        have b9' : u.1 11 8 ≤ s.1 11 8 + V := b9
        rw [e1] at b10
        have b10' : u.1 8 2 ≤ s.1 8 2 + (e - (a + 1)) := b10
        have gu := dz_G_t b1' g0
        have uI := dz_G_I gu
        have uE := dz_E_G hE gu
        have u9 : u.1 18 9 = s.1 18 9 := (gu trivial).2.1 9 rfl
        have hz := dz_T_z b6 b5
        have u6 := uI.fld 11 6 (by decide) rfl
        have i2 : cx_I (sx_uf u.1 18 11 (u.1 18 11 + 1), u.2) := cx_I_uf rfl rfl uI (by omega) (by omega)
        have g2 : dz_G (s.1 11 6) u (sx_uf u.1 18 11 (u.1 18 11 + 1), u.2) := dz_G_uf i2 (dz_G_T gu) rfl
        have e2 : ((sx_uf u.1 18 11 (u.1 18 11 + 1), u.2) : sx_S).1 18 11 = e + 1 := px_uS.trans (by omega)
        refine w_dq_52 (Z2 := fun x5 t => (x5 = -1 ∧ cx_I t ∧ ∀ x, ¬ (px_wt (px_SN b n) C M t2).1 [] x) ∨ ((0 ≤ x5 ∧ x5 ≤ 2000) ∧ dx_is t x (u.1 18 12) ∧ dz_G (s.1 11 6) s t ∧ t.1 18 11 = g ∧ (t.1 11 6 ≤ s.1 11 6 + 3 * (g + 1 - a) + 3 ∧ t.1 11 8 ≤ s.1 11 8 + 2 * (g + 1 - a) ∧ t.1 8 2 ≤ s.1 8 2 + (g + 1 - a)) ∧ ∃ y, (px_wt (px_SN b n) C M t2).1 [] y ∧ dx_is t y (t.1 18 12) ∧ ∃ W W', (W ≠ .leaf ∧ dz_T (s.1 11 6) t W x2) ∧ (W' ≠ .leaf ∧ dz_T (s.1 11 6) t W' x5) ∧ dl_mt b n C M (s.1 11 8) t W t1 [] [] x ∧ dl_mt b n C M (s.1 11 8) t W' t2 [] [] y)) uI (by omega) (by omega) (fun q => by omega) ?_ ?_
        · intro _ K hK'
          refine c_dz_term hsL b n C M 21 (by omega) (d + 1) (by omega) (e + 1) g 0 t2 [] [] _ K i2 (by omega) (by show (0 : Int) ≤ _; omega) e2 (by omega) p2 qs (dz_E_G uE g2) (dz_SC_0 (u9.trans h9)) hlv ?_ (fun z t y W' B' V' d1 d2 d3 => hK' z t (Or.inr ?_)) (fun q t t1 _ => hK' _ t (Or.inl ⟨rfl, t1, q⟩))
          · show u.1 11 6 + _ + _ ≤ _ ∧ u.1 11 8 + _ + _ ≤ _ ∧ u.1 8 2 + _ ≤ _
            omega
          · obtain ⟨f1, f2, f3, f4, ⟨f5, f6⟩, f7, f8, f9, f10⟩ := d3 trivial
            have f8' : t.1 11 6 ≤ u.1 11 6 + B' := f8
            have f9' : t.1 11 8 ≤ u.1 11 8 + V' := f9
            rw [e2] at f10
            have f10' : t.1 8 2 ≤ u.1 8 2 + (g - (e + 1)) := f10
            have f1' : dz_G (u.1 11 6) (sx_uf u.1 18 11 (u.1 18 11 + 1), u.2) t := f1
            have su : s.1 11 6 ≤ u.1 11 6 := ((gu trivial).2.2.2.1 trivial).1
            have tI := dz_G_I f1
            have t6 := tI.fld 11 6 (by decide) rfl
            have hz' := dz_T_z f6 f5
            have b6' : dz_T (s.1 11 6) u W x2 := b6
            have f6' : dz_T (u.1 11 6) t W' z := f6
            have gt : dz_G (s.1 11 6) u t := dz_G_t (dz_G_lo f1' su) g2
            have u8 : s.1 11 8 ≤ u.1 11 8 := ((gu trivial).2.2.2.2.1).1
            exact ⟨by omega, dz_G_is f1 (dz_G_is g2 b4), dz_G_t (dz_G_lo f1' su) (dz_G_t g2 gu), f2, by omega, y, f3, f4, W, W', ⟨b5, dz_T_fr b6' (P := fun j => (j : Int) < u.1 11 6) (fun _ => (f1' trivial).2.2.2.1 trivial) (dz_T_lt b6')⟩, ⟨f5, dz_T_lo f6' su⟩, dl_mt_G gt (fun _ => b7.2 trivial), dl_mt_lo u8 (fun _ => f7.2 trivial)⟩
        · intro z t hz2
          have u11 := uI.fld 18 11 (by decide) rfl
          exact ⟨1, by omega, Or.inr ⟨rfl, x2, u.1 18 12, u.1 18 11, z, rfl, q4, u11, by omega, uI.fld 18 12 (by decide) rfl, ⟨x, b3, hz2⟩, rfl⟩⟩
    · rcases hU with ⟨rfl, u1, u2⟩ | ⟨r5, hx3, gu, u11, ⟨n6, n8, nt⟩, y, wy, hy, WL, WR, ⟨wl0, wlT⟩, ⟨wr0, wrT⟩, wlm, wrm⟩
      · exact w_dq_86 (c_dz_bl hsL (d + 1) (by omega)) u1 (fun q => absurd q (by decide)) (fun q => absurd q (by decide)) r4 r2 r3 (by omega) (fun _ => hX (fun ⟨_, x, _, z⟩ => u2 x z) u u1) (fun q => absurd q (by decide)) (fun q => absurd q (by decide))
      · have uI := dz_G_I gu
        have uE := dz_E_G hE gu
        have u9 : u.1 18 9 = s.1 18 9 := (gu trivial).2.1 9 rfl
        have u10 : u.1 18 10 = s.1 18 10 := (gu trivial).2.1 10 rfl
        have u25 : u.1 2 5 = s.1 2 5 := congrFun ((gu trivial).1.2.same 2 rfl).1 5
        refine w_dq_86 (c_dz_bl hsL (d + 1) (by omega)) uI (by omega) (by omega) r4 r2 r3 (by omega) (fun q => by omega) ?_ ?_
        · intro _ hne t ht
          refine hX (fun ⟨_, x', z1, z2⟩ => hne ?_) t ht
          have a1 := px_wt_fun.1 z1 wx
          have a2 := px_wt_fun.1 z2 wy
          rw [← a2, a1] at hy
          exact dx_inj (dz_G_T gu) hy hx3
        · intro _ heq
          rw [heq] at hy
          have exy : y = x := qx_ty_fun hy hx3
          subst exy
          have F2 : cx_F [(18, 18), (25, 26)] u ((sx_uf (sx_uf u.1 18 11 (u.1 18 11 + 1)) 18 10 (u.1 18 10 + 1), sx_ua (sx_ua u.2.1 26 (2 * u.1 18 10).toNat x2) 26 (2 * u.1 18 10 + 1).toNat x5, u.2.2) : sx_S) := cx_F_uf rfl (cx_F_uf rfl (cx_F_ua rfl (cx_F_ua rfl (cx_F_refl _ _))))
          refine hK _ ⟨q4, y, wx, wy⟩ (fun _ => ⟨cx_I_uf rfl rfl (cx_I_uf rfl rfl (cx_I_ua rfl rfl (cx_I_ua rfl rfl uI (by omega) (by omega)) (by omega) (by omega)) (by omega) (by omega)) (by omega) (by omega), ?_, u9, u25.symm, ?_, ?_, ?_⟩) ?_ (dz_E_F uE F2) ?_
          · show sx_uf u.1 18 11 (u.1 18 11 + 1) 18 11 = _
            rw [px_us]
            omega
          · show u.1 11 6 ≤ _
            omega
          · show u.1 11 8 ≤ _
            omega
          · show u.1 8 2 ≤ _
            omega
          · show sx_uf (sx_uf u.1 18 11 (u.1 18 11 + 1)) 18 10 (u.1 18 10 + 1) 18 10 = _
            rw [px_us]
            omega
          · have n26 : ∀ j : Nat, ((sx_uf (sx_uf u.1 18 11 (u.1 18 11 + 1)) 18 10 (u.1 18 10 + 1), sx_ua (sx_ua u.2.1 26 (2 * u.1 18 10).toNat x2) 26 (2 * u.1 18 10 + 1).toNat x5, u.2.2) : sx_S).2.1 26 j = if j = (2 * u.1 18 10 + 1).toNat then x5 else if j = (2 * u.1 18 10).toNat then x2 else u.2.1 26 j := fun j => by
              show sx_ua (sx_ua u.2.1 26 (2 * u.1 18 10).toNat x2) 26 (2 * u.1 18 10 + 1).toNat x5 26 j = _
              rw [sx_ua_if, if_pos rfl]
              by_cases q1 : j = (2 * u.1 18 10 + 1).toNat
              · rw [if_pos q1, if_pos q1]
              · rw [if_neg q1, if_neg q1, sx_ua_if, if_pos rfl]
            have r10 := uI.fld 18 10 (by decide) rfl
            have s26 : u.2.1 26 = s.2.1 26 := ((gu trivial).1.2.same 26 rfl).2
            have fr0 : dz_fr (fun _ => True) u ((sx_uf (sx_uf u.1 18 11 (u.1 18 11 + 1)) 18 10 (u.1 18 10 + 1), sx_ua (sx_ua u.2.1 26 (2 * u.1 18 10).toNat x2) 26 (2 * u.1 18 10 + 1).toNat x5, u.2.2) : sx_S) := fun _ => ⟨by rw [(F2.same 11 rfl).1]; exact Int.le_refl _, fun j _ => by
              rw [(F2.same 12 rfl).2, (F2.same 13 rfl).2, (F2.same 14 rfl).2, (F2.same 15 rfl).2, (F2.same 16 rfl).2]
              exact ⟨rfl, rfl, rfl, rfl, rfl⟩⟩
            have tv : ∀ v T, dl_TV u v T → dl_TV ((sx_uf (sx_uf u.1 18 11 (u.1 18 11 + 1)) 18 10 (u.1 18 10 + 1), sx_ua (sx_ua u.2.1 26 (2 * u.1 18 10).toNat x2) 26 (2 * u.1 18 10 + 1).toNat x5, u.2.2) : sx_S) v T := fun v T ⟨h1, h2, h3⟩ => ⟨h1, by rw [(F2.same 11 rfl).1]; exact h2, by
              rw [(F2.same 17 rfl).2]
              have h3' : qx_ty (u.2.1 9) (u.2.1 10) (u.1 8 2) T (u.2.1 17 v.toNat) := h3
              show qx_ty _ _ _ T _
              rw [(F2.same 9 rfl).2, (F2.same 10 rfl).2, (F2.same 8 rfl).1]
              exact h3'⟩
            have mtk : ∀ {W : rf_N} {nn : px_N}, dl_mt b n C M (s.1 11 8) u W nn [] [] y → dl_mt b n C M (s.1 11 8) ((sx_uf (sx_uf u.1 18 11 (u.1 18 11 + 1)) 18 10 (u.1 18 10 + 1), sx_ua (sx_ua u.2.1 26 (2 * u.1 18 10).toNat x2) 26 (2 * u.1 18 10 + 1).toNat x5, u.2.2) : sx_S) W nn [] [] y := fun {W nn} h _ => by
              obtain ⟨a1, a2, a3⟩ := h trivial
              exact ⟨by rw [(F2.same 11 rfl).1]; exact a1, a2, fun AR hA => (vl_tm_mono tv).1 (a3 AR hA)⟩
            refine fun _ => ⟨⟨WL, WR, y, ⟨wl0, ?_⟩, ⟨wr0, ?_⟩, mtk wlm, mtk wrm⟩, dz_fr_t (dz_fr_w fr0 (fun _ _ => trivial)) ((gu trivial).2.2.2.1) (fun _ q => q), ?_, ?_, fun j j1 j2 => ?_⟩
            · rw [n26, if_neg (by omega), if_pos (by rw [u10])]
              exact dz_T_fr wlT fr0 (fun _ _ => trivial)
            · rw [n26, if_pos (by rw [u10])]
              exact dz_T_fr wrT fr0 (fun _ _ => trivial)
            · rw [(F2.same 11 rfl).1, (F2.same 17 rfl).2]
              exact (gu trivial).2.2.2.2.1
            · intro j
              have q := (gu trivial).2.2.1.2 j
              rw [(F2.same 8 rfl).1, (F2.same 9 rfl).2, (F2.same 10 rfl).2]
              exact q
            · rw [n26, if_neg (by rw [u10]; exact j2), if_neg (by rw [u10]; exact j1), s26]
end
section
/-! ===== the desk's checker: a whole text ===== -/
theorem px_IT_nk {K : Nat → Int} {a c : Int} {q : (Int × Int × qx_T) × (px_N × px_N)} (h : px_IT K a q c) (h0 : 0 ≤ a) : px_nk K a c := by
  rcases h with ⟨a1, a2, a3, x, e, a4, a5, a6, a7⟩ | ⟨a1, t, e, u, g, a2, a3, a4, a5, a6, a7⟩
  · rw [show a + 2 = a + 1 + 1 by omega] at a3
    rw [show a + 3 = a + 1 + 1 + 1 by omega] at a4
    subst a6
    exact px_nk_t (px_nk_1 (by omega)) (px_nk_t (px_nk_1 (by omega)) (px_nk_t (px_nk_1 (by omega)) (px_nk_t (px_TY_k a4) (px_nk_1 (by omega)))))
  · have l1 := px_TM_le a2
    have l2 := px_TM_le a4
    subst a6
    exact px_nk_t (px_nk_1 (by omega)) (px_nk_t (px_TM_rd (m := e) a2 (by omega) (Int.le_refl _)).1 (px_nk_t (px_nk_1 (by omega)) (px_nk_t (px_TM_rd (m := g) a4 (by omega) (Int.le_refl _)).1 (px_nk_1 (by omega)))))

theorem c_dz_tyc {sL : Nat} {sx : Nat → Int32} (hsL : sL ≤ 3072) (d : Nat) (hd : 2 ≤ d) : ∀ (s : sx_S) (R : Int → sx_S → Prop), cx_I s → R 0 (sx_uf s.1 8 2 2, s.2) → sx_C sL sx d 115 [.inr (.inl 8)] s R := by
  intro s R hI hK
  obtain ⟨d, rfl⟩ : ∃ e, d = e + 2 := ⟨d - 2, by omega⟩
  refine sx_meth (wr := true) (n := 400) hsL (e := eX9_clear) rfl ?_
  repeat' (first | (with_reducible (rintro _ rfl)) | (with_reducible intro _) | (refine And.intro ?_ ?_) | (fail))
  all_goals (try dsimp only at *)
  all_goals (first | trivial | assumption | omega | (exfalso; omega) | skip)

theorem c_dz_tec {sL : Nat} {sx : Nat → Int32} (hsL : sL ≤ 3072) (d : Nat) (hd : 2 ≤ d) : ∀ (s : sx_S) (R : Int → sx_S → Prop), cx_I s → R 0 (sx_uf (sx_uf s.1 11 6 0) 11 8 0, s.2) → sx_C sL sx d 85 [.inr (.inl 11)] s R := by
  intro s R hI hK
  obtain ⟨d, rfl⟩ : ∃ e, d = e + 2 := ⟨d - 2, by omega⟩
  refine sx_meth (wr := true) (n := 400) hsL (e := eX7_clear) rfl ?_
  repeat' (first | (with_reducible (rintro _ rfl)) | (with_reducible intro _) | (refine And.intro ?_ ?_) | (fail))
  all_goals (try dsimp only at *)
  all_goals (first | trivial | assumption | omega | (exfalso; omega) | skip)

theorem c_dz_ncC {sL : Nat} {sx : Nat → Int32} (hsL : sL ≤ 3072) (d : Nat) (hd : 2 ≤ d) : ∀ (s : sx_S) (R : Int → sx_S → Prop), cx_I s → R 0 (sx_uf s.1 19 2 0, s.2) → sx_C sL sx d 50 [.inr (.inl 19)] s R := by
  intro s R hI hK
  obtain ⟨d, rfl⟩ : ∃ e, d = e + 2 := ⟨d - 2, by omega⟩
  refine sx_meth (wr := true) (n := 400) hsL (e := eX4_clear) rfl ?_
  repeat' (first | (with_reducible (rintro _ rfl)) | (with_reducible intro _) | (refine And.intro ?_ ?_) | (fail))
  all_goals (try dsimp only at *)
  all_goals (first | trivial | assumption | omega | (exfalso; omega) | skip)

theorem c_dz_ncM {sL : Nat} {sx : Nat → Int32} (hsL : sL ≤ 3072) (d : Nat) (hd : 2 ≤ d) : ∀ (s : sx_S) (R : Int → sx_S → Prop), cx_I s → R 0 (sx_uf s.1 22 2 0, s.2) → sx_C sL sx d 50 [.inr (.inl 22)] s R := by
  intro s R hI hK
  obtain ⟨d, rfl⟩ : ∃ e, d = e + 2 := ⟨d - 2, by omega⟩
  refine sx_meth (wr := true) (n := 400) hsL (e := eX4_clear) rfl ?_
  repeat' (first | (with_reducible (rintro _ rfl)) | (with_reducible intro _) | (refine And.intro ?_ ?_) | (fail))
  all_goals (try dsimp only at *)
  all_goals (first | trivial | assumption | omega | (exfalso; omega) | skip)

theorem w_dz_totM {CALL : sx_Ca} {sL : Nat} {sx : Nat → Int32} {Q : Nat → sx_L → sx_S → Prop} {R : Int → sx_S → Prop} {s : sx_S} (hI : cx_I s) (hK : ∀ z : Int, (z = s.1 22 2) → R z s) : sx_wp true sL sx eX4_total CALL [] Q R 400 0 (sx_argsF 0 [.inr (.inl 22)]) [] s := by
  repeat' (first | (with_reducible (rintro _ rfl)) | (with_reducible intro _) | (refine And.intro ?_ ?_) | (refine hK _ ?_))
  all_goals (try dsimp only)
  repeat' (first | (with_reducible assumption) | ((with_reducible (change cx_I (sx_uf _ _ _ _, _))); refine cx_I_uf rfl rfl ?_ ?_ ?_) | ((with_reducible (change cx_I (_, sx_ua _ _ _ _, _))); refine cx_I_ua rfl rfl ?_ ?_ ?_) | ((with_reducible (change cx_I (_, sx_ua _ 16 _ _, _))); refine cx_I_ari ?_ ?_ ?_) | ((with_reducible (change cx_I (sx_uf _ 11 6 _, _))); refine cx_I_ufA rfl ?_ ?_ ?_ ?_) | (with_reducible exact cx_F_refl _ _) | ((with_reducible (change cx_F _ _ (sx_uf _ _ _ _, _))); refine cx_F_uf rfl ?_) | ((with_reducible (change cx_F _ _ (_, sx_ua _ _ _ _, _))); refine cx_F_ua rfl ?_) | ((with_reducible (change cx_I (_, sx_cpy _ _ _ _ _ _, _))); refine cx_I_cpy rfl rfl rfl (by decide) ?_) | ((with_reducible (change cx_F _ _ (_, sx_cpy _ _ _ _ _ _, _))); refine cx_F_cpy rfl ?_) | ((with_reducible (change cx_F _ _ _)); refine cx_F_step (by assumption) rfl ?_) | fail)
  all_goals (try dsimp only at *)
  all_goals (first | trivial | omega | rfl | (intros; omega) | (intros; rfl) | skip)

theorem c_dz_totM {sL : Nat} {sx : Nat → Int32} (hsL : sL ≤ 3072) (d : Nat) (hd : 2 ≤ d) : ∀ (s : sx_S) (K : Int → sx_S → Prop), cx_I s → (∀ z : Int, (z = s.1 22 2) → K z s) → sx_C sL sx d 52 [.inr (.inl 22)] s K := by
  intro  s K hI  hK
  obtain ⟨d, rfl⟩ : ∃ e, d = e + 2 := ⟨d - 2, by omega⟩
  exact sx_meth (wr := true) (n := 400) hsL (e := eX4_total) rfl (w_dz_totM (Q := fun _ _ _ => False)  hI  hK)

theorem w_dz_ntw {CALL : sx_Ca} {sL : Nat} {sx : Nat → Int32} {Q : Nat → sx_L → sx_S → Prop} {R : Int → sx_S → Prop} {s : sx_S} {a0 : Int} (hI : cx_I s) (p0 : (-2147483648 ≤ a0 ∧ a0 ≤ 2147483647)) (hK : ∀ z : Int, (-2147483648 ≤ z ∧ z ≤ 2147483647) → R z s) : sx_wp true sL sx eX4_type CALL [] Q R 400 0 (sx_argsF 0 [.inr (.inl 22), .inl a0]) [] s := by
  repeat' (first | (with_reducible intro _) | (refine And.intro ?_ ?_) | (refine hK _ ?_))
  all_goals (try dsimp only)
  repeat' (first | (with_reducible assumption) | ((with_reducible (change cx_I (sx_uf _ _ _ _, _))); refine cx_I_uf rfl rfl ?_ ?_ ?_) | ((with_reducible (change cx_I (_, sx_ua _ _ _ _, _))); refine cx_I_ua rfl rfl ?_ ?_ ?_) | ((with_reducible (change cx_I (_, sx_ua _ 16 _ _, _))); refine cx_I_ari ?_ ?_ ?_) | ((with_reducible (change cx_I (sx_uf _ 11 6 _, _))); refine cx_I_ufA rfl ?_ ?_ ?_ ?_) | (with_reducible exact cx_F_refl _ _) | ((with_reducible (change cx_F _ _ (sx_uf _ _ _ _, _))); refine cx_F_uf rfl ?_) | ((with_reducible (change cx_F _ _ (_, sx_ua _ _ _ _, _))); refine cx_F_ua rfl ?_) | ((with_reducible (change cx_I (_, sx_cpy _ _ _ _ _ _, _))); refine cx_I_cpy rfl rfl rfl (by decide) ?_) | ((with_reducible (change cx_F _ _ (_, sx_cpy _ _ _ _ _ _, _))); refine cx_F_cpy rfl ?_) | ((with_reducible (change cx_F _ _ _)); refine cx_F_step (by assumption) rfl ?_) | fail)
  all_goals (first | trivial | omega | (dsimp only at *; omega) | (simp only [sx_uf_if, sx_ua_if, sx_w_t, true_and, and_true, and_self, and_false, false_and, if_true, if_false, reduceIte] at *; omega) | (subst_vars; rfl) | (subst_vars; decide))

theorem c_dz_ntw {sL : Nat} {sx : Nat → Int32} (hsL : sL ≤ 3072) (d : Nat) (hd : 2 ≤ d) : ∀ (a0 : Int) (s : sx_S) (K : Int → sx_S → Prop), cx_I s → (-2147483648 ≤ a0 ∧ a0 ≤ 2147483647) → (∀ z : Int, (-2147483648 ≤ z ∧ z ≤ 2147483647) → K z s) → sx_C sL sx d 56 [.inr (.inl 22), .inl a0] s K := by
  intro a0 s K hI p0 hK
  obtain ⟨d, rfl⟩ : ∃ e, d = e + 2 := ⟨d - 2, by omega⟩
  exact sx_meth (wr := true) (n := 400) hsL (e := eX4_type) rfl (w_dz_ntw (Q := fun _ _ _ => False)  hI p0 hK)

theorem w_ac {CALL : sx_Ca} {sL : Nat} {sx : Nat → Int32} {Q : Nat → sx_L → sx_S → Prop} {R : Int → sx_S → Prop} {s : sx_S} {Z1 Z2 Z3 Z4 : sx_S → Prop} (h1 : ∀ K : Int → sx_S → Prop, (∀ u, Z1 u → K 0 u) → CALL 115 [.inr (.inl 8)] s K) (h2 : ∀ t, Z1 t → ∀ K : Int → sx_S → Prop, (∀ u, Z2 u → K 0 u) → CALL 85 [.inr (.inl 11)] t K) (h3 : ∀ t, Z2 t → ∀ K : Int → sx_S → Prop, (∀ u, Z3 u → K 0 u) → CALL 50 [.inr (.inl 19)] t K) (h4 : ∀ t, Z3 t → ∀ K : Int → sx_S → Prop, (∀ u, Z4 u → K 0 u) → CALL 50 [.inr (.inl 22)] t K) (hQ : ∀ u, Z4 u → Q 47 [(0, .inr (.inl 18)), (1, .inl 1), (2, .inl 0)] (sx_uf (sx_uf (sx_uf u.1 18 9 0) 18 10 0) 18 11 0, u.2)) : sx_wp true sL sx eX1_accepts CALL [(47, [0, 1, 2]), (134, [0, 1, 2])] Q R 400 0 (sx_argsF 0 [.inr (.inl 18)]) [] s := by
  repeat' (first | (with_reducible (rintro _ rfl)) | (with_reducible intro _) | (refine And.intro ?_ ?_) | (refine h1 _ ?_) | (refine h2 _ ?_ _ ?_) | (refine h3 _ ?_ _ ?_) | (refine h4 _ ?_ _ ?_))
  all_goals (try dsimp only at *)
  all_goals (first | trivial | assumption | omega | (exact hQ _ (by assumption)) | skip)
theorem w_ac_47 {CALL : sx_Ca} {sL : Nat} {sx : Nat → Int32} {Q : Nat → sx_L → sx_S → Prop} {R : Int → sx_S → Prop} {b : Nat → Int} {n : Int} (h_kd : ∀ (t0 : Int) (s : sx_S) (K : Int → sx_S → Prop), cx_I s → (0 ≤ t0 ∧ t0 ≤ 1000) → (px_TK b n s) → (px_lv b n t0.toNat) → (∀ z : Int, (z = px_K b n t0.toNat) → K z s) → CALL 101 [.inr (.inl 2), .inl t0] s K) {s : sx_S} {x1 x2 : Int} {Z : Int → sx_S → Prop} (hI : cx_I s) (hT : x1 = 1 → px_TK b n s ∧ px_lv b n (s.1 18 11).toNat ∧ 0 ≤ s.1 18 11 ∧ s.1 18 11 ≤ 900) (q1 : x1 = 0 ∨ x1 = 1) (q2 : 0 ≤ x2 ∧ x2 ≤ 240) (h24 : x1 = 1 → px_K b n (s.1 18 11).toNat ≠ 0 → x2 < 240) (h_eq : x1 = 1 → px_K b n (s.1 18 11).toNat = 5 → ∀ K : Int → sx_S → Prop, (∀ z t, Z z t → K z t) → CALL 23 [.inr (.inl 18)] s K) (h_dC : x1 = 1 → px_K b n (s.1 18 11).toNat = 3 → ∀ K : Int → sx_S → Prop, (∀ z t, Z z t → K z t) → CALL 22 [.inr (.inl 18), .inr (.inl 19)] s K) (h_dM : x1 = 1 → px_K b n (s.1 18 11).toNat ≠ 0 → px_K b n (s.1 18 11).toNat ≠ 5 → px_K b n (s.1 18 11).toNat ≠ 3 → ∀ K : Int → sx_S → Prop, (∀ z t, Z z t → K z t) → CALL 22 [.inr (.inl 18), .inr (.inl 22)] s K) (hQ : x2 < 240 → ∀ z t, Z z t → Q 47 [(0, .inr (.inl 18)), (1, .inl z), (2, .inl (x2 + 1))] t) (hE : x1 = 0 ∨ px_K b n (s.1 18 11).toNat = 0 → Q 134 [(0, .inr (.inl 18)), (1, .inl x1), (2, .inl 0)] s) : sx_wp true sL sx eX1_accepts CALL [(47, [0, 1, 2]), (134, [0, 1, 2])] Q R 400 47 [(0, .inr (.inl 18)), (1, .inl x1), (2, .inl x2)] [] s := by
  have zzy : sx_w true (x2 + 1) = x2 + 1 := px_wid (by omega) (by omega)
  rw [← zzy] at hQ
  rcases q1 with q1 | q1
  · have hE' := hE (Or.inl q1)
    subst q1
    clear h_eq h_dC h_dM hQ hE hT h24
    repeat' (first | (with_reducible (rintro _ rfl)) | (with_reducible intro _) | (refine And.intro ?_ ?_) | (fail))
    all_goals (try dsimp only at *)
    all_goals (first | trivial | assumption | omega | (exfalso; omega) | skip)
  · obtain ⟨hT1, hT2, hT3⟩ := hT q1
    have zzr := px_K_r b n (s.1 18 11).toNat
    have zzk : ∀ K : Int → sx_S → Prop, K (px_K b n (s.1 18 11).toNat) s → CALL 101 [.inr (.inl 2), .inl (s.1 18 11)] s K := fun K hK => h_kd _ _ _ hI (by omega) hT1 hT2 (fun z z1 => by rw [z1]; exact hK)
    have h24' := h24 q1
    have h_eq' := h_eq q1
    have h_dC' := h_dC q1
    have h_dM' := h_dM q1
    have hE' := fun q => hE (Or.inr q)
    subst q1
    clear hT h_kd h_eq h_dC h_dM hE h24 hT1 hT2
    generalize px_K b n (s.1 18 11).toNat = k at *
    by_cases k0 : k = 0
    · have hE'' := hE' k0
      clear h_eq' h_dC' h_dM' hQ
      repeat' (first | (with_reducible (rintro _ rfl)) | (with_reducible intro _) | (refine And.intro ?_ ?_) | (refine zzk _ ?_))
      all_goals (try dsimp only at *)
      all_goals (first | trivial | assumption | omega | (exfalso; omega) | skip)
    · have h24'' := h24' k0
      have hQ' := hQ h24''
      by_cases k5 : k = 5
      · have h_eq'' := h_eq' k5
        clear h_dC' h_dM' hQ
        repeat' (first | (with_reducible (rintro _ rfl)) | (with_reducible intro _) | (refine And.intro ?_ ?_) | (refine zzk _ ?_) | (refine h_eq'' _ ?_))
        all_goals (try dsimp only at *)
        all_goals (first | trivial | assumption | omega | (exfalso; omega) | (exact hQ' _ _ (by assumption)) | skip)
      · by_cases k3 : k = 3
        · have h_dC'' := h_dC' k3
          clear h_eq' h_dM' hQ
          repeat' (first | (with_reducible (rintro _ rfl)) | (with_reducible intro _) | (refine And.intro ?_ ?_) | (refine zzk _ ?_) | (refine h_dC'' _ ?_))
          all_goals (try dsimp only at *)
          all_goals (first | trivial | assumption | omega | (exfalso; omega) | (exact hQ' _ _ (by assumption)) | skip)
        · have h_dM'' := h_dM' k0 k5 k3
          clear h_eq' h_dC' hQ
          repeat' (first | (with_reducible (rintro _ rfl)) | (with_reducible intro _) | (refine And.intro ?_ ?_) | (refine zzk _ ?_) | (refine h_dM'' _ ?_))
          all_goals (try dsimp only at *)
          all_goals (first | trivial | assumption | omega | (exfalso; omega) | (exact hQ' _ _ (by assumption)) | skip)
theorem w_ac_134 {CALL : sx_Ca} {sL : Nat} {sx : Nat → Int32} {Q : Nat → sx_L → sx_S → Prop} {R : Int → sx_S → Prop} (h_nw : ∀ (a0 a1 : Int) (s : sx_S) (K : Int → sx_S → Prop), cx_I s → (-2147483648 ≤ a0 ∧ a0 ≤ 2147483647) → (-2147483648 ≤ a1 ∧ a1 ≤ 2147483647) → (∀ (z : Int) (t : sx_S), cx_I t → (t.1 18 10 = s.1 18 10 ∧ t.1 19 2 = s.1 19 2 ∧ t.1 22 2 = s.1 22 2) → (-1 ≤ z ∧ z ≤ 1023) → K z t) → CALL 88 [.inr (.inl 11), .inl a0, .inl a1] s K) (h_cw : ∀ (a0 a1 : Int) (s : sx_S) (K : Int → sx_S → Prop), cx_I s → (-1 ≤ a0 ∧ a0 ≤ 1023) → (-2147483648 ≤ a1 ∧ a1 ≤ 2147483647) → (∀ (z : Int) (t : sx_S), cx_I t → (t.1 18 10 = s.1 18 10 ∧ t.1 19 2 = s.1 19 2 ∧ t.1 22 2 = s.1 22 2) → (-1 ≤ z ∧ z ≤ 1023) → K z t) → CALL 97 [.inr (.inl 11), .inl a0, .inl a1, .inl 0] s K) (h_dz_ntw : ∀ (a0 : Int) (s : sx_S) (K : Int → sx_S → Prop), cx_I s → (-2147483648 ≤ a0 ∧ a0 ≤ 2147483647) → (∀ z : Int, (-2147483648 ≤ z ∧ z ≤ 2147483647) → K z s) → CALL 56 [.inr (.inl 22), .inl a0] s K) (h_dz_totM : ∀ (s : sx_S) (K : Int → sx_S → Prop), cx_I s → (∀ z : Int, (z = s.1 22 2) → K z s) → CALL 52 [.inr (.inl 22)] s K) {s : sx_S} {x1 x2 : Int} (hI : cx_I s) (q1 : x1 = 0 ∨ x1 = 1) (q2 : 0 ≤ x2 ∧ x2 ≤ 5) (hK : R x1 s) (hQ : x2 < 5 → ∀ t, cx_I t → (t.1 18 10 = s.1 18 10 ∧ t.1 19 2 = s.1 19 2 ∧ t.1 22 2 = s.1 22 2) → Q 134 [(0, .inr (.inl 18)), (1, .inl x1), (2, .inl (x2 + 1))] t) : sx_wp true sL sx eX1_accepts CALL [(47, [0, 1, 2]), (134, [0, 1, 2])] Q R 400 134 [(0, .inr (.inl 18)), (1, .inl x1), (2, .inl x2)] [] s := by
  have zzy : sx_w true (x2 + 1) = x2 + 1 := px_wid (by omega) (by omega)
  rw [← zzy] at hQ
  have hm := hI.fld 22 2 (by decide) rfl
  by_cases h5 : x2 < 5
  · have hQ' := hQ h5
    repeat' (first | (with_reducible (rintro _ rfl)) | (with_reducible intro _) | (refine And.intro ?_ ?_) | (refine h_nw _ _ _ _ ?_ ?_ ?_ ?_) | (refine h_cw _ _ _ _ ?_ ?_ ?_ ?_) | (refine h_dz_ntw _ _ _ ?_ ?_ ?_) | (refine h_dz_totM _ _ ?_ ?_))
    all_goals (try dsimp only at *)
    all_goals (first | trivial | assumption | omega | (exfalso; omega) | (refine hQ' _ ?_ ?_ <;> first | (refine cx_I_ua rfl rfl ?_ ?_ ?_ <;> first | assumption | omega) | (dsimp only; omega)) | skip)
  · clear hQ
    repeat' (first | (with_reducible (rintro _ rfl)) | (with_reducible intro _) | (refine And.intro ?_ ?_) | (refine h_nw _ _ _ _ ?_ ?_ ?_ ?_) | (refine h_cw _ _ _ _ ?_ ?_ ?_ ?_) | (refine h_dz_ntw _ _ _ ?_ ?_ ?_) | (refine h_dz_totM _ _ ?_ ?_))
    all_goals (try dsimp only at *)
    all_goals (first | trivial | assumption | omega | (exfalso; omega) | skip)

/-- the equations, each with what was declared before it -/
def vl_eq : List vl_I → List (Int × qx_T) → List (Int × qx_T) → List ((List (Int × qx_T) × List (Int × qx_T)) × (px_N × px_N))
  | [], _, _ => []
  | q :: r, C, M => if q.1.1 = 3 then vl_eq r (C ++ [q.1.2]) M else if q.1.1 = 4 then vl_eq r C (M ++ [q.1.2]) else ((C, M), q.2) :: vl_eq r C M
/-- all constants -/
def vl_kf : List vl_I → List (Int × qx_T) → List (Int × qx_T)
  | [], C => C
  | q :: r, C => if q.1.1 = 3 then vl_kf r (C ++ [q.1.2]) else vl_kf r C
/-- their trees -/
def dl_pr (b : Nat → Int) (n : Int) (E : List ((List (Int × qx_T) × List (Int × qx_T)) × (px_N × px_N))) (u : sx_S) : Prop := True → ∀ (k : Nat) p, E[k]? = some p → ∃ (L R : rf_N) (x : qx_T), (L ≠ .leaf ∧ dz_T 0 u L (u.2.1 26 (2 * k))) ∧ (R ≠ .leaf ∧ dz_T 0 u R (u.2.1 26 (2 * k + 1))) ∧ dl_mt b n p.1.1 p.1.2 0 u L p.2.1 [] [] x ∧ dl_mt b n p.1.1 p.1.2 0 u R p.2.2 [] [] x
theorem dl_mt_tu {b : Nat → Int} {n : Int} {C M : List (Int × qx_T)} {lo : Int} {u t : sx_S} {W : rf_N} {nn : px_N} {Γ : List (Int × qx_T)} {ρ : List Int} {x : qx_T} (h8 : u.1 11 8 ≤ t.1 11 8 ∧ ∀ j : Nat, (j : Int) < u.1 11 8 → t.2.1 17 j = u.2.1 17 j) (hu : dx_tu u t) (h : dl_mt b n C M lo u W nn Γ ρ x) : dl_mt b n C M lo t W nn Γ ρ x := fun _ => by
  obtain ⟨a1, a2, a3⟩ := h trivial
  refine ⟨dl_nb_mono (Int.le_refl _) h8.1 a1, a2, fun AR hA => (vl_tm_mono (fun v T ⟨h1, h2, h3⟩ => ⟨h1, by have := h8.1; omega, ?_⟩)).1 (a3 AR hA)⟩
  rw [h8.2 v.toNat (by omega)]
  exact dx_is_up h3 hu
theorem dl_pr_mono {b : Nat → Int} {n : Int} {E : List ((List (Int × qx_T) × List (Int × qx_T)) × (px_N × px_N))} {u t : sx_S} (hf : dz_fr (fun j => (j : Int) < u.1 11 6) u t) (h8 : u.1 11 8 ≤ t.1 11 8 ∧ ∀ j : Nat, (j : Int) < u.1 11 8 → t.2.1 17 j = u.2.1 17 j) (hu : dx_tu u t) (h26 : ∀ j : Nat, j < 2 * E.length → t.2.1 26 j = u.2.1 26 j) (h : dl_pr b n E u) : dl_pr b n E t := fun _ k p hk => by
  have hl : k < E.length := (List.getElem?_eq_some_iff.mp hk).1
  obtain ⟨L, R, x, ⟨a1, a2⟩, ⟨a3, a4⟩, a5, a6⟩ := h trivial k p hk
  rw [h26 _ (by omega), h26 _ (by omega)]
  exact ⟨L, R, x, ⟨a1, dz_T_fr a2 hf (dz_T_lt a2)⟩, ⟨a3, dz_T_fr a4 hf (dz_T_lt a4)⟩, dl_mt_tu h8 hu a5, dl_mt_tu h8 hu a6⟩
theorem dl_pr_F {b : Nat → Int} {n : Int} {E : List ((List (Int × qx_T) × List (Int × qx_T)) × (px_N × px_N))} {u t : sx_S} (hF : cx_F [(8, 10), (18, 24)] u t) (hu : dx_tu u t) (h : dl_pr b n E u) : dl_pr b n E t := dl_pr_mono (fun _ => ⟨by rw [(hF.same 11 rfl).1]; exact Int.le_refl _, fun j _ => by rw [(hF.same 12 rfl).2, (hF.same 13 rfl).2, (hF.same 14 rfl).2, (hF.same 15 rfl).2, (hF.same 16 rfl).2]; exact ⟨rfl, rfl, rfl, rfl, rfl⟩⟩) ⟨by rw [(hF.same 11 rfl).1]; exact Int.le_refl _, fun j _ => by rw [(hF.same 17 rfl).2]⟩ hu (fun j _ => by rw [(hF.same 26 rfl).2]) h
theorem dl_pr_EQ {b : Nat → Int} {n : Int} {C M : List (Int × qx_T)} {t1 t2 : px_N} {E : List ((List (Int × qx_T) × List (Int × qx_T)) × (px_N × px_N))} {u t : sx_S} (h10 : u.1 18 10 = (E.length : Int)) (h60 : 0 ≤ u.1 11 6) (h80 : 0 ≤ u.1 11 8) (hq : dl_EQ b n C M t1 t2 u t) (h : dl_pr b n E u) : dl_pr b n (E ++ [((C, M), (t1, t2))]) t := fun _ k p hk => by
  obtain ⟨⟨L, R, x, ⟨a1, a2⟩, ⟨a3, a4⟩, a5, a6⟩, b1, b2, b3, b4⟩ := hq trivial
  by_cases q : k < E.length
  · rw [List.getElem?_append_left q] at hk
    exact dl_pr_mono b1 b2 b3 (fun j hj => b4 j (by omega) (by omega)) h trivial k p hk
  · rw [List.getElem?_append_right (by omega)] at hk
    have e0 : k - E.length = 0 := by
      apply Classical.byContradiction
      intro z
      rw [List.getElem?_eq_none (by rw [List.length_singleton]; omega)] at hk
      cases hk
    rw [e0] at hk
    have ep : ((C, M), (t1, t2)) = p := by simpa using hk
    have ek : k = E.length := by omega
    rw [← ep, ek]
    rw [h10, show (2 * (E.length : Int)).toNat = 2 * E.length by omega] at a2
    rw [h10, show (2 * (E.length : Int) + 1).toNat = 2 * E.length + 1 by omega] at a4
    exact ⟨L, R, x, ⟨a1, dz_T_lo a2 h60⟩, ⟨a3, dz_T_lo a4 h60⟩, dl_mt_lo h80 a5, dl_mt_lo h80 a6⟩
/-- an item of the text -/
def dl_AI (b : Nat → Int) (n : Int) (l : List ((Int × Int × qx_T) × (px_N × px_N))) (x2 : Int) (u : sx_S) : Prop := True → (∃ (C M : List (Int × qx_T)) (e : Nat) (l' : List ((Int × Int × qx_T) × (px_N × px_N))), dz_E b n C M u ∧ u.1 18 9 = 0 ∧ px_TX (px_K b n) l' (u.1 18 11) ∧ px_lv b n (u.1 18 11).toNat ∧ (px_ck (px_SN b n) l [] [] 0 ↔ px_ck (px_SN b n) l' C M e) ∧ (C.length + px_c3 3 l' = px_c3 3 l ∧ M.length + px_c3 4 l' = px_c3 4 l ∧ e + px_c3 5 l' = px_c3 5 l) ∧ (∃ E, vl_eq l [] [] = E ++ vl_eq l' C M ∧ E.length = e ∧ dl_pr b n E u ∧ vl_mf l [] = vl_mf l' M ∧ vl_kf l [] = vl_kf l' C) ∧ (u.1 18 10 = (e : Int) ∧ 0 ≤ u.1 18 11 ∧ u.1 11 6 + 20 * (M.length : Int) ≤ 4 * u.1 18 11 ∧ u.1 11 8 ≤ 2 * u.1 18 11 ∧ u.1 8 2 ≤ 2 + u.1 18 11)) ∧ x2 ≤ u.1 18 11
end
section
/-! ===== the desk's load: its answer, exactly ===== -/
theorem w_dz_gpl {CALL : sx_Ca} {sL : Nat} {sx : Nat → Int32} {Q : Nat → sx_L → sx_S → Prop} {R : Int → sx_S → Prop} (h_dz_start : ∀ (a0 : Int) (s : sx_S) (K : Int → sx_S → Prop), cx_I s → (-2147483648 ≤ a0 ∧ a0 ≤ 2147483647) → (∀ z : Int, (-2147483648 ≤ z ∧ z ≤ 2147483647) → K z s) → CALL 102 [.inr (.inl 2), .inl a0] s K) {s : sx_S} (hI : cx_I s) (hK : ∀ z : Int, (-2147483648 ≤ z ∧ z ≤ 2147483647) → R z s) : sx_wp true sL sx eX2_place CALL [] Q R 400 0 (sx_argsF 0 [.inr (.inl 7)]) [] s := by
  repeat' (first | (with_reducible intro _) | (refine And.intro ?_ ?_) | (refine hK _ ?_) | (refine h_dz_start _ _ _ ?_ ?_ ?_))
  all_goals (try dsimp only)
  repeat' (first | (with_reducible assumption) | ((with_reducible (change cx_I (sx_uf _ _ _ _, _))); refine cx_I_uf rfl rfl ?_ ?_ ?_) | ((with_reducible (change cx_I (_, sx_ua _ _ _ _, _))); refine cx_I_ua rfl rfl ?_ ?_ ?_) | ((with_reducible (change cx_I (_, sx_ua _ 16 _ _, _))); refine cx_I_ari ?_ ?_ ?_) | ((with_reducible (change cx_I (sx_uf _ 11 6 _, _))); refine cx_I_ufA rfl ?_ ?_ ?_ ?_) | (with_reducible exact cx_F_refl _ _) | ((with_reducible (change cx_F _ _ (sx_uf _ _ _ _, _))); refine cx_F_uf rfl ?_) | ((with_reducible (change cx_F _ _ (_, sx_ua _ _ _ _, _))); refine cx_F_ua rfl ?_) | ((with_reducible (change cx_I (_, sx_cpy _ _ _ _ _ _, _))); refine cx_I_cpy rfl rfl rfl (by decide) ?_) | ((with_reducible (change cx_F _ _ (_, sx_cpy _ _ _ _ _ _, _))); refine cx_F_cpy rfl ?_) | ((with_reducible (change cx_F _ _ _)); refine cx_F_step (by assumption) rfl ?_) | fail)
  all_goals (first | trivial | omega | (dsimp only at *; omega) | (simp only [sx_uf_if, sx_ua_if, sx_w_t, true_and, and_true, and_self, and_false, false_and, if_true, if_false, reduceIte] at *; omega) | (subst_vars; rfl) | (subst_vars; decide))

theorem c_dz_gpl {sL : Nat} {sx : Nat → Int32} (hsL : sL ≤ 3072) (d : Nat) (hd : 3 ≤ d) : ∀ (s : sx_S) (K : Int → sx_S → Prop), cx_I s → (∀ z : Int, (-2147483648 ≤ z ∧ z ≤ 2147483647) → K z s) → sx_C sL sx d 36 [.inr (.inl 7)] s K := by
  intro  s K hI  hK
  obtain ⟨d, rfl⟩ : ∃ e, d = e + 2 := ⟨d - 2, by omega⟩
  exact sx_meth (wr := true) (n := 400) hsL (e := eX2_place) rfl (w_dz_gpl (Q := fun _ _ _ => False) (c_dz_start hsL (d + 1) (by omega)) hI  hK)

theorem w_dz_chp {CALL : sx_Ca} {sL : Nat} {sx : Nat → Int32} {Q : Nat → sx_L → sx_S → Prop} {R : Int → sx_S → Prop} {s : sx_S} (hI : cx_I s) (hK : ∀ z : Int, (-2147483648 ≤ z ∧ z ≤ 2147483647) → R z s) : sx_wp true sL sx eX1_place CALL [] Q R 400 0 (sx_argsF 0 [.inr (.inl 18)]) [] s := by
  repeat' (first | (with_reducible intro _) | (refine And.intro ?_ ?_) | (refine hK _ ?_))
  all_goals (try dsimp only)
  repeat' (first | (with_reducible assumption) | ((with_reducible (change cx_I (sx_uf _ _ _ _, _))); refine cx_I_uf rfl rfl ?_ ?_ ?_) | ((with_reducible (change cx_I (_, sx_ua _ _ _ _, _))); refine cx_I_ua rfl rfl ?_ ?_ ?_) | ((with_reducible (change cx_I (_, sx_ua _ 16 _ _, _))); refine cx_I_ari ?_ ?_ ?_) | ((with_reducible (change cx_I (sx_uf _ 11 6 _, _))); refine cx_I_ufA rfl ?_ ?_ ?_ ?_) | (with_reducible exact cx_F_refl _ _) | ((with_reducible (change cx_F _ _ (sx_uf _ _ _ _, _))); refine cx_F_uf rfl ?_) | ((with_reducible (change cx_F _ _ (_, sx_ua _ _ _ _, _))); refine cx_F_ua rfl ?_) | ((with_reducible (change cx_I (_, sx_cpy _ _ _ _ _ _, _))); refine cx_I_cpy rfl rfl rfl (by decide) ?_) | ((with_reducible (change cx_F _ _ (_, sx_cpy _ _ _ _ _ _, _))); refine cx_F_cpy rfl ?_) | ((with_reducible (change cx_F _ _ _)); refine cx_F_step (by assumption) rfl ?_) | fail)
  all_goals (first | trivial | omega | (dsimp only at *; omega) | (simp only [sx_uf_if, sx_ua_if, sx_w_t, true_and, and_true, and_self, and_false, false_and, if_true, if_false, reduceIte] at *; omega) | (subst_vars; rfl) | (subst_vars; decide))

theorem c_dz_chp {sL : Nat} {sx : Nat → Int32} (hsL : sL ≤ 3072) (d : Nat) (hd : 2 ≤ d) : ∀ (s : sx_S) (K : Int → sx_S → Prop), cx_I s → (∀ z : Int, (-2147483648 ≤ z ∧ z ≤ 2147483647) → K z s) → sx_C sL sx d 12 [.inr (.inl 18)] s K := by
  intro  s K hI  hK
  obtain ⟨d, rfl⟩ : ∃ e, d = e + 2 := ⟨d - 2, by omega⟩
  exact sx_meth (wr := true) (n := 400) hsL (e := eX1_place) rfl (w_dz_chp (Q := fun _ _ _ => False)  hI  hK)

theorem w_dz_chn {CALL : sx_Ca} {sL : Nat} {sx : Nat → Int32} {Q : Nat → sx_L → sx_S → Prop} {R : Int → sx_S → Prop} {s : sx_S} (hI : cx_I s) (hK : ∀ z : Int, (-2147483648 ≤ z ∧ z ≤ 2147483647) → R z s) : sx_wp true sL sx eX1_number CALL [] Q R 400 0 (sx_argsF 0 [.inr (.inl 18)]) [] s := by
  repeat' (first | (with_reducible intro _) | (refine And.intro ?_ ?_) | (refine hK _ ?_))
  all_goals (try dsimp only)
  repeat' (first | (with_reducible assumption) | ((with_reducible (change cx_I (sx_uf _ _ _ _, _))); refine cx_I_uf rfl rfl ?_ ?_ ?_) | ((with_reducible (change cx_I (_, sx_ua _ _ _ _, _))); refine cx_I_ua rfl rfl ?_ ?_ ?_) | ((with_reducible (change cx_I (_, sx_ua _ 16 _ _, _))); refine cx_I_ari ?_ ?_ ?_) | ((with_reducible (change cx_I (sx_uf _ 11 6 _, _))); refine cx_I_ufA rfl ?_ ?_ ?_ ?_) | (with_reducible exact cx_F_refl _ _) | ((with_reducible (change cx_F _ _ (sx_uf _ _ _ _, _))); refine cx_F_uf rfl ?_) | ((with_reducible (change cx_F _ _ (_, sx_ua _ _ _ _, _))); refine cx_F_ua rfl ?_) | ((with_reducible (change cx_I (_, sx_cpy _ _ _ _ _ _, _))); refine cx_I_cpy rfl rfl rfl (by decide) ?_) | ((with_reducible (change cx_F _ _ (_, sx_cpy _ _ _ _ _ _, _))); refine cx_F_cpy rfl ?_) | ((with_reducible (change cx_F _ _ _)); refine cx_F_step (by assumption) rfl ?_) | fail)
  all_goals (first | trivial | omega | (dsimp only at *; omega) | (simp only [sx_uf_if, sx_ua_if, sx_w_t, true_and, and_true, and_self, and_false, false_and, if_true, if_false, reduceIte] at *; omega) | (subst_vars; rfl) | (subst_vars; decide))

theorem c_dz_chn {sL : Nat} {sx : Nat → Int32} (hsL : sL ≤ 3072) (d : Nat) (hd : 2 ≤ d) : ∀ (s : sx_S) (K : Int → sx_S → Prop), cx_I s → (∀ z : Int, (-2147483648 ≤ z ∧ z ≤ 2147483647) → K z s) → sx_C sL sx d 13 [.inr (.inl 18)] s K := by
  intro  s K hI  hK
  obtain ⟨d, rfl⟩ : ∃ e, d = e + 2 := ⟨d - 2, by omega⟩
  exact sx_meth (wr := true) (n := 400) hsL (e := eX1_number) rfl (w_dz_chn (Q := fun _ _ _ => False)  hI  hK)

theorem w_dl {CALL : sx_Ca} {sL : Nat} {sx : Nat → Int32} {Q : Nat → sx_L → sx_S → Prop} {R : Int → sx_S → Prop} (h_dz_gpl : ∀ (s : sx_S) (K : Int → sx_S → Prop), cx_I s → (∀ z : Int, (-2147483648 ≤ z ∧ z ≤ 2147483647) → K z s) → CALL 36 [.inr (.inl 7)] s K) (h_dz_chp : ∀ (s : sx_S) (K : Int → sx_S → Prop), cx_I s → (∀ z : Int, (-2147483648 ≤ z ∧ z ≤ 2147483647) → K z s) → CALL 12 [.inr (.inl 18)] s K) (h_dz_chn : ∀ (s : sx_S) (K : Int → sx_S → Prop), cx_I s → (∀ z : Int, (-2147483648 ≤ z ∧ z ≤ 2147483647) → K z s) → CALL 13 [.inr (.inl 18)] s K) {s : sx_S} {a0 : Int} {Z1 Z2 Z3 : sx_S → Prop} {Zr : sx_S → Prop} {Zw : Prop} (hI : cx_I s) (ra : -2147483648 ≤ a0 ∧ a0 ≤ 2147483647) (hN : a0 < 0 ∨ s.1 0 1 < a0 → R (-1) s) (h_rd : 0 ≤ a0 → a0 ≤ s.1 0 1 → ∀ K : Int → sx_S → Prop, (∀ z t, Z1 t → K z t) → CALL 100 [.inr (.inl 2), .inr (.inl 1), .inl a0] (sx_uf (sx_uf (sx_uf (sx_uf (sx_uf s.1 0 1 0) 0 2 0) 0 3 (-1)) 0 4 (-1)) 0 5 (-1), s.2) K) (h_ga : ∀ t, Z1 t → ∀ K : Int → sx_S → Prop, (∀ u, Z2 u → K 1 u) → (∀ u, Z3 u → K 0 u) → CALL 35 [.inr (.inl 7)] t K) (h3 : ∀ u, Z3 u → cx_I u) (hK2 : ∀ u, Z3 u → ∀ t, R (-2) t) (h_ca : ∀ t, Z2 t → ∀ K : Int → sx_S → Prop, (∀ u, cx_I u → Zr u → K 1 u) → (Zw → ∀ u, cx_I u → K 0 u) → CALL 11 [.inr (.inl 18)] t K) (hK0 : ∀ u, cx_I u → Zr u → R 0 (sx_uf u.1 0 2 1, u.2)) (hK3 : Zw → ∀ t, R (-3) t) : sx_wp true sL sx eX11_load CALL [] Q R 400 0 (sx_argsF 0 [.inr (.inl 0), .inl a0]) [] s := by
  have h1 := hI.fld 0 1 (by decide) rfl
  by_cases hx : 0 ≤ a0 ∧ a0 ≤ s.1 0 1
  · have h_rd' := h_rd hx.1 hx.2
    clear hN h_rd
    repeat' (first | (with_reducible (rintro _ rfl)) | (with_reducible intro _) | (refine And.intro ?_ ?_) | (refine h_rd' _ ?_) | (refine h_ga _ ?_ _ ?_ ?_) | (refine h_ca _ ?_ _ ?_ ?_) | (refine h_dz_gpl _ _ ?_ ?_) | (refine h_dz_chp _ _ ?_ ?_) | (refine h_dz_chn _ _ ?_ ?_))
    all_goals (try dsimp only at *)
    all_goals (first | trivial | assumption | omega | (exfalso; omega) | (exact h3 _ (by assumption)) | (exact hK0 _ (by assumption) (by assumption)) | (exact hK3 (by assumption) _) | (exact hK2 _ (by assumption) _) | (refine cx_I_uf rfl rfl ?_ ?_ ?_ <;> first | assumption | omega) | skip)
  · have hN' := hN (by omega)
    clear h_rd h_ga h_ca
    repeat' (first | (with_reducible (rintro _ rfl)) | (with_reducible intro _) | (refine And.intro ?_ ?_) | (fail))
    all_goals (try dsimp only at *)
    all_goals (first | trivial | assumption | omega | (exfalso; omega) | skip)
end
section
/-! ===== what is loaded, as the solver wants it: ARGs and arities ===== -/
theorem dv_tr_snoc {A16 : Nat → Int} {AR : Nat → List Int} {g : rf_N} (hg : dv_tr A16 AR g) : ∀ {f : rf_N}, dv_tr A16 AR f → dv_tr A16 AR (rf_snoc f g)
  | .leaf, _ => hg
  | .inner j q u F X, ⟨h1, h2, h3⟩ => ⟨h1, h2, dv_tr_snoc hg h3⟩
theorem dl_dar_snoc {A : Nat → Int} {g : rf_N} : ∀ {f : rf_N}, dz_ar A (rf_snoc f g) → dz_ar A f ∧ dz_ar A g
  | .leaf, h => ⟨trivial, h⟩
  | .inner j q u F X, ⟨h1, h2, h3⟩ => ⟨⟨h1, h2, (dl_dar_snoc h3).1⟩, (dl_dar_snoc h3).2⟩
theorem vl_c1_dar {TV : Int → qx_T → Prop} {A : Nat → Int} : ∀ {x : qx_T} {W : rf_N} {k h : Int} {f : rf_N} {ρ : List Int}, vl_c1 TV x W k h f ρ → dz_ar A W → dz_ar A f
  | .leaf, W, k, h, f, ρ, ⟨j, e⟩, ha => by
    rw [e] at ha
    exact ha.2.1
  | .inner n b _ x y, W, k, h, f, ρ, hc, ha => by
    rcases hc with ⟨_, j, e⟩ | ⟨_, j, v, g, W', e, _, _, _, h5⟩
    · rw [e] at ha
      exact ha.2.1
    · rw [e] at ha
      exact (dl_dar_snoc (vl_c1_dar h5 ha.2.1)).1
theorem vl_c1_sg {TV : Int → qx_T → Prop} {x : qx_T} {W : rf_N} {k h : Int} {f : rf_N} {ρ : List Int} (hc : vl_c1 TV x W k h f ρ) : vx_sg W := by
  cases x with
  | leaf =>
    obtain ⟨j, e⟩ := hc
    exact ⟨_, _, _, _, e⟩
  | inner n b u x y =>
    rcases hc with ⟨_, j, e⟩ | ⟨_, j, v, g, W', e, _⟩
    · exact ⟨_, _, _, _, e⟩
    · exact ⟨_, _, _, _, e⟩
theorem vl_c3_sg {TV : Int → qx_T → Prop} {AR : Nat → List Int} {x : qx_T} {W : rf_N} {h : Int} {vs ρ : List Int} (hc : vl_c3 TV AR x W h vs ρ) : vx_sg W := by
  cases x with
  | leaf =>
    obtain ⟨j, F, e, _⟩ := hc
    exact ⟨_, _, _, _, e⟩
  | inner n b u x y =>
    rcases hc with ⟨_, j, F, e, _⟩ | ⟨_, j, v, W', e, _⟩
    · exact ⟨_, _, _, _, e⟩
    · exact ⟨_, _, _, _, e⟩
theorem vl_c1_tr {TV : Int → qx_T → Prop} {A16 : Nat → Int} {AR : Nat → List Int} : ∀ {x : qx_T} {W : rf_N} {k h : Int} {f : rf_N} {ρ : List Int}, vl_c1 TV x W k h f ρ → (k = 1 ∨ k = 2) → 0 ≤ h → rf_len f + qx_at x ≤ 5 → dz_ar A16 W → dv_tr A16 AR f → dv_tr A16 AR W := by
  have fin : ∀ {j : Nat} {W : rf_N} {k h : Int} {f : rf_N} {m : Nat}, 1 ≤ m → W = rf_n j k h f .leaf → (k = 1 ∨ k = 2) → 0 ≤ h → rf_len f + m ≤ 5 → dz_ar A16 W → dv_tr A16 AR f → dv_tr A16 AR W := by
    intro j W k h f m hm e hk hh hl ha hf
    rw [e] at ha ⊢
    have a1 : A16 j = (rf_len f : Int) := by
      exact ha.1.2.2 (by show k ≠ 0; omega)
    exact ⟨Or.inr (Or.inl ⟨hk, ⟨a1, by omega⟩, hf⟩), hh, trivial⟩
  intro x
  induction x with
  | leaf =>
    rintro W k h f ρ ⟨j, e⟩ hk hh hl ha hf
    exact fin (Nat.le_refl _) e hk hh hl ha hf
  | inner n b u x y ihx ihy =>
    intro W k h f ρ hc hk hh hl ha hf
    rcases hc with ⟨rfl, j, e⟩ | ⟨⟨rfl, rfl⟩, j, v, g, W', e, ⟨_, h6, _⟩, h3, h4, h5⟩
    · exact fin (Nat.le_refl _) e hk hh hl ha hf
    · have ea : qx_at (.inner 0 false u x y) = qx_at x + qx_at y := rfl
      have px := qx_at_pos x
      have py := qx_at_pos y
      rw [e] at ha ⊢
      have a2 : dz_ar A16 W' := ha.2.1
      have ag := (dl_dar_snoc (vl_c1_dar h5 a2)).2
      have lg : rf_len g = 1 := by
        obtain ⟨i, kk, hh', G, rfl⟩ := h3
        rfl
      have tg := ihx h4 (Or.inr rfl) h6 (by show 0 + qx_at x ≤ 5; omega) ag trivial
      exact ⟨Or.inl ⟨rfl, vl_c1_sg h5, ihy h5 hk hh (by rw [rf_len_snoc]; omega) a2 (dv_tr_snoc tg hf)⟩, h6, trivial⟩
theorem vl_c3_tr {TV : Int → qx_T → Prop} {A16 : Nat → Int} {AR : Nat → List Int} : ∀ {x : qx_T} {W : rf_N} {h : Int} {vs ρ : List Int}, vl_c3 TV AR x W h vs ρ → 0 ≤ h → vs.length + qx_at x ≤ 5 → dz_ar A16 W → dl_ar AR W → vs.Nodup → (∀ v ∈ vs, 0 ≤ v ∧ v ∈ ρ) → dv_tr A16 AR W := by
  have fin : ∀ {j : Nat} {W F : rf_N} {h : Int} {vs ρ : List Int} {m : Nat}, 1 ≤ m → W = rf_n j 3 h F .leaf → AR j = vs → 0 ≤ h → vs.length + m ≤ 5 → dz_ar A16 W → dl_ar AR W → vs.Nodup → (∀ v ∈ vs, 0 ≤ v ∧ v ∈ ρ) → dv_tr A16 AR W := by
    intro j W F h vs ρ m hm e ea hh hl ha hA hn hv
    rw [e] at ha hA ⊢
    have a1 : A16 j = (rf_len F : Int) := ha.1.2.2 (by show (3 : Int) ≠ 0; decide)
    have a2 : AR j = dz_hs F := hA.1 rfl
    have a3 : rf_len F = vs.length := by
      rw [← dz_hs_len, ← a2, ea]
    exact ⟨Or.inr (Or.inr ⟨rfl, ⟨a1, by omega⟩, a2, by rw [ea]; exact hn, fun v hv' => (hv v (by rw [← ea]; exact hv')).1⟩), hh, trivial⟩
  intro x
  induction x with
  | leaf =>
    rintro W h vs ρ ⟨j, F, e, ea⟩ hh hl ha hA hn hv
    exact fin (Nat.le_refl _) e ea hh hl ha hA hn hv
  | inner n b u x y ihx ihy =>
    intro W h vs ρ hc hh hl ha hA hn hv
    rcases hc with ⟨rfl, j, F, e, ea⟩ | ⟨⟨rfl, rfl⟩, j, v, W', e, ⟨h2, h6, _⟩, h5⟩
    · exact fin (Nat.le_refl _) e ea hh hl ha hA hn hv
    · have ea : qx_at (.inner 0 false u x y) = qx_at x + qx_at y := rfl
      have px := qx_at_pos x
      rw [e] at ha hA ⊢
      refine ⟨Or.inl ⟨rfl, vl_c3_sg h5, ihy h5 hh (by rw [List.length_append, List.length_singleton]; omega) ha.2.1 (hA.2.1 vx_03) ?_ (fun w hw => ?_)⟩, h6, trivial⟩
      · refine List.nodup_append.mpr ⟨hn, List.nodup_cons.mpr ⟨List.not_mem_nil, List.Pairwise.nil⟩, fun a ha' c hc e' => ?_⟩
        rw [List.mem_singleton.mp hc] at e'
        exact h2 (by rw [← e']; exact (hv a ha').2)
      · rcases List.mem_append.mp hw with hw | hw
        · exact ⟨(hv w hw).1, List.mem_cons_of_mem _ (hv w hw).2⟩
        · rw [List.mem_singleton.mp hw]
          exact ⟨h6, List.mem_cons_self⟩
theorem vl_id_inj {ρ : List Int} (hn : ρ.Nodup) {l l' : Nat} (h : l < ρ.length) (h' : l' < ρ.length) (e : vl_id ρ l = vl_id ρ l') : l = l' := by
  unfold vl_id at e
  rw [List.getElem?_eq_getElem (by omega), List.getElem?_eq_getElem (by omega)] at e
  have e' : ρ[ρ.length - 1 - l] = ρ[ρ.length - 1 - l'] := e
  have hp := List.pairwise_iff_getElem.mp hn
  rcases Nat.lt_trichotomy (ρ.length - 1 - l) (ρ.length - 1 - l') with q | q | q
  · exact absurd e' (hp _ _ (by omega) (by omega) q)
  · omega
  · exact absurd e'.symm (hp _ _ (by omega) (by omega) q)
theorem vl_map_nd {ρ : List Int} (hn : ρ.Nodup) : ∀ {ls : List Nat}, ls.Nodup → (∀ l ∈ ls, l < ρ.length) → (ls.map (vl_id ρ)).Nodup
  | [], _, _ => List.Pairwise.nil
  | l :: ls, h, hl => by
    obtain ⟨h1, h2⟩ := List.nodup_cons.mp h
    refine List.nodup_cons.mpr ⟨fun hm => ?_, vl_map_nd hn h2 (fun x hx => hl x (List.mem_cons_of_mem _ hx))⟩
    obtain ⟨l', m1, m2⟩ := List.mem_map.mp hm
    have := vl_id_inj hn (hl l' (List.mem_cons_of_mem _ m1)) (hl l List.mem_cons_self) m2
    rw [this] at m1
    exact h1 m1
/-- all of a long form stands as the solver wants it -/
theorem vl_tm_tr {SN : Int → Int → Prop} {C M : List (Int × qx_T)} {TV : Int → qx_T → Prop} {A16 : Nat → Int} {AR : Nat → List Int} (hC : ∀ q ∈ C, qx_at q.2 ≤ 5) (hM : ∀ q ∈ M, qx_at q.2 ≤ 5) : ∀ {n : px_N}, (∀ {W : rf_N} {Γ : List (Int × qx_T)} {ρ : List Int} {x y : qx_T}, (∀ q ∈ Γ, qx_at q.2 ≤ 5) → ρ.length = Γ.length → ρ.Nodup → (∀ z ∈ ρ, 0 ≤ z) → (vl_tm SN C M TV AR n).1 W Γ ρ x → (px_wt SN C M n).1 Γ y → dz_ar A16 W → dl_ar AR W → dv_tr A16 AR W) ∧ (∀ {F : rf_N} {Γ : List (Int × qx_T)} {ρ : List Int} {U L L' : qx_T}, (∀ q ∈ Γ, qx_at q.2 ≤ 5) → ρ.length = Γ.length → ρ.Nodup → (∀ z ∈ ρ, 0 ≤ z) → (vl_tm SN C M TV AR n).2 F Γ ρ U L → (px_wt SN C M n).2 Γ U L' → dz_ar A16 F → dl_ar AR F → dv_tr A16 AR F ∧ rf_len F + qx_at L ≤ qx_at U)
  | .leaf => ⟨fun _ _ _ _ h => h.elim, fun {F Γ ρ U L L'} _ _ _ _ ⟨h1, h2⟩ _ _ _ => by
    rw [h1, h2]
    exact ⟨trivial, by show 0 + _ ≤ _; omega⟩⟩
  | .inner g q u0 f n => by
    have hf := vl_tm_tr (SN := SN) (TV := TV) (A16 := A16) (AR := AR) hC hM (n := f)
    have hn := vl_tm_tr (SN := SN) (TV := TV) (A16 := A16) (AR := AR) hC hM (n := n)
    have one : ∀ {W : rf_N} {Γ : List (Int × qx_T)} {ρ : List Int} {x y : qx_T}, (∀ q ∈ Γ, qx_at q.2 ≤ 5) → ρ.length = Γ.length → ρ.Nodup → (∀ z ∈ ρ, 0 ≤ z) → (vl_tm SN C M TV AR (.inner g q u0 f n)).1 W Γ ρ x → (px_wt SN C M (.inner g q u0 f n)).1 Γ y → dz_ar A16 W → dl_ar AR W → dv_tr A16 AR W := by
      intro W Γ ρ x y hΓ hl hρ hz h hw ha hA
      rcases h with ⟨g0, j, v, F, B, h1, ⟨h2, h2a, _, h2c⟩, h3, _⟩ | ⟨g0, k, i, U, h0, h1, ⟨h2, h2n⟩, h3⟩ <;> rcases hw with ⟨w0, _, B', w1, _⟩ | ⟨w0, s, k', u, w1, w2, w3⟩
      · rw [h1] at ha hA ⊢
        have sF : vx_sg F := by
          cases f with
          | leaf => exact h3.elim
          | inner g2 q2 u2 f2 n2 =>
            rcases h3 with ⟨_, j', v', F', B2, e, _⟩ | ⟨_, k2, i2, U2, h02, _, _, ⟨_, F2, _, c⟩ | ⟨_, ls, _, _, _, c⟩⟩
            · exact ⟨_, _, _, _, e⟩
            · exact vl_c1_sg c
            · exact vl_c3_sg c
        refine ⟨Or.inl ⟨rfl, sF, hf.1 (fun p hp => ?_) (by rw [List.length_cons, List.length_cons, hl]) (List.nodup_cons.mpr ⟨h2, hρ⟩) (fun z hz' => ?_) h3 w1 ha.2.1 (hA.2.1 vx_03)⟩, h2a, trivial⟩
        · rcases List.mem_cons.mp hp with rfl | hp
          · exact h2c
          · exact hΓ p hp
        · rcases List.mem_cons.mp hz' with rfl | hz'
          · exact h2a
          · exact hz z hz'
      · exact absurd g0 w0
      · exact absurd w0 g0
      · obtain ⟨e1, e2, e3⟩ := px_hd_fun w1 h1
        subst e1 e2 e3
        have hU := vl_hd5 hC hM hΓ h1
        rcases h3 with ⟨k3, F, r1, r2⟩ | ⟨k3, ls, r1, r1', r3, r2⟩
        · have hk : s = 1 ∨ s = 2 := by
            rcases h1 with ⟨z, _⟩ | ⟨z, _⟩ | ⟨z, _⟩ <;> omega
          have h00 : 0 ≤ h0 := by
            by_cases c : s = 2
            · rw [h2 c]
              have hi : k' < Γ.length := by
                rcases h1 with ⟨_, z⟩ | ⟨z, _⟩ | ⟨z, _⟩
                · exact px_vr_lt z
                · omega
                · omega
              exact hz _ (vl_id_mem (by omega))
            · rw [h2n c]
              omega
          obtain ⟨t1, t2⟩ := hf.2 hΓ hl hρ hz r1 w2 (vl_c1_dar r2 ha) (vl_c1_ar r2 k3 hA)
          exact vl_c1_tr r2 hk h00 (by omega) ha t1
        · obtain ⟨vs, p1, p2⟩ := w3 k3
          have el : vs = ls := px_pv_fun.2 p1 r1
          subst el
          have eU : qx_at u = dz_sm (vs.map (vl_tl Γ)) + qx_at x := by rw [r3, dz_as_at]
          have sl := dz_sm_len (vs.map (vl_tl Γ))
          rw [List.length_map] at sl
          refine vl_c3_tr r2 (by rw [h2n (by omega)]; omega) (by rw [List.length_map]; omega) ha hA (vl_map_nd hρ p2 (fun l hl' => by have := r1' l hl'; omega)) (fun v hv => ?_)
          obtain ⟨l, hl', rfl⟩ := List.mem_map.mp hv
          have := vl_id_mem (ρ := ρ) (l := l) (by have := r1' l hl'; omega)
          exact ⟨hz _ this, this⟩
    refine ⟨one, fun {F Γ ρ U L L'} hΓ hl hρ hz h hw ha hA => ?_⟩
    obtain ⟨W, X, A, U1, ⟨a1, a2⟩, a3, a4, a5⟩ := vl_tm_c.mp h
    obtain ⟨A', U1', b1, b2, b3⟩ := px_wt_c.mp hw
    rw [a3] at b1
    obtain ⟨c1, c2⟩ := qx_a_inj b1
    subst c1 c2
    obtain ⟨j, k, hh, G, rfl⟩ := a1
    have es : vx_sb (rf_n j k hh G .leaf) X = rf_snoc (rf_n j k hh G .leaf) X := rfl
    rw [a2, es] at ha hA ⊢
    obtain ⟨d1, d2⟩ := dl_dar_snoc ha
    obtain ⟨d3, d4⟩ := dl_ar_snoc hA
    obtain ⟨t1, t2⟩ := hn.2 hΓ hl hρ hz a5 b3 d2 d4
    refine ⟨dv_tr_snoc t1 (one hΓ hl hρ hz a4 b2 d1 d3), ?_⟩
    have eU : qx_at U = qx_at A + qx_at U1 := by
      rw [a3]
      rfl
    have pA := qx_at_pos A
    rw [rf_len_snoc]
    show 1 + rf_len X + _ ≤ _
    omega
end
section
/-! ===== what is loaded, as the solver wants it: ARGs by memory, types, the list of sides ===== -/
/-- the heads of a row in memory -/
def dl_hl (H X : Nat → Int) : Nat → Int → List Int
  | 0, _ => []
  | n + 1, z => H z.toNat :: dl_hl H X n (X z.toNat)
def dl_AR (t : sx_S) (j : Nat) : List Int := dl_hl (t.2.1 13) (t.2.1 15) (t.2.1 16 j).toNat (t.2.1 14 j)
theorem dl_hl_hs {t : sx_S} : ∀ {F : rf_N} {z : Int}, dz_nd t F z → dl_hl (t.2.1 13) (t.2.1 15) (rf_len F) z = dz_hs F
  | .leaf, _, _ => rfl
  | .inner j q u F X, z, ⟨⟨h1, _⟩, ⟨_, h2⟩, _, h3⟩ => by
    show t.2.1 13 z.toNat :: dl_hl (t.2.1 13) (t.2.1 15) (rf_len X) (t.2.1 15 z.toNat) = q.2 :: dz_hs X
    rw [show z.toNat = j by omega, dl_hl_hs h3, h2]
theorem dl_AR_ar {t : sx_S} : ∀ {W : rf_N} {z : Int}, dz_nd t W z → dz_ar (t.2.1 16) W → dl_ar (dl_AR t) W
  | .leaf, _, _, _ => trivial
  | .inner j q u F X, z, ⟨_, _, h2, h3⟩, ⟨⟨_, _, a1⟩, a2, a3⟩ => by
    refine ⟨fun q3 => ?_, fun _ => dl_AR_ar h2 a2, dl_AR_ar h3 a3⟩
    have e : t.2.1 16 j = (rf_len F : Int) := a1 (by rw [q3]; decide)
    show dl_hl (t.2.1 13) (t.2.1 15) (t.2.1 16 j).toNat (t.2.1 14 j) = dz_hs F
    rw [e, Int.toNat_natCast]
    exact dl_hl_hs h2
noncomputable def dl_tv (t : sx_S) (v : Int) : rf_T := @dite rf_T (∃ T, dl_TV t v T) (Classical.propDecidable _) (fun h => qx_sh (Classical.choose h)) (fun _ => rf_b)
theorem dl_tv_eq {t : sx_S} {v : Int} {T : qx_T} (h : dl_TV t v T) : dl_tv t v = qx_sh T := by
  unfold dl_tv
  rw [dif_pos ⟨T, h⟩]
  have h' := Classical.choose_spec (⟨T, h⟩ : ∃ T, dl_TV t v T)
  rw [qx_ty_fun h'.2.2 h.2.2]
def dl_tc (C : List (Int × qx_T)) (i : Int) : rf_T := ((C[i.toNat]?).map (fun q => qx_sh q.2)).getD rf_b
def dl_tm (M : List (Int × qx_T)) (m a : Int) : rf_T := ((M[m.toNat]?).map (fun q => vl_ta q.2 a)).getD rf_b
def dl_ra (M : List (Int × qx_T)) (m : Int) : Int := ((M[m.toNat]?).map (fun q => ((rf_args (qx_sh q.2)).length : Int))).getD 0
theorem dl_vE {t : sx_S} {C M Cf Mf : List (Int × qx_T)} (hC : ∀ (i : Nat) q, C[i]? = some q → Cf[i]? = some q) (hM : ∀ (i : Nat) q, M[i]? = some q → Mf[i]? = some q) : vl_E (dl_tv t) (dl_tc Cf) (dl_tm Mf) (dl_ra Mf) C M (dl_TV t) := by
  refine ⟨fun v T h => dl_tv_eq h, fun i q h => ?_, fun i q h => ⟨?_, fun a => ?_⟩⟩
  · unfold dl_tc
    rw [Int.toNat_natCast, hC i q h]
    rfl
  · unfold dl_ra
    rw [Int.toNat_natCast, hM i q h]
    rfl
  · unfold dl_tm
    rw [Int.toNat_natCast, hM i q h]
    rfl
theorem rf_at_sh : ∀ x : qx_T, rf_at (qx_sh x) ≤ qx_at x
  | .leaf => Nat.le_refl _
  | .inner _ k _ x y => by
    cases k with
    | true => exact Nat.le_refl _
    | false =>
      have h1 := rf_at_sh x
      have h2 := rf_at_sh y
      show rf_at (qx_sh x) + rf_at (qx_sh y) ≤ qx_at x + qx_at y
      omega
theorem dl_ra_4 {M : List (Int × qx_T)} (h : ∀ q ∈ M, qx_at q.2 ≤ 5) (m : Int) : 0 ≤ dl_ra M m ∧ dl_ra M m ≤ 4 := by
  unfold dl_ra
  cases e : M[m.toNat]? with
  | none => exact ⟨Int.le_refl _, by show (0 : Int) ≤ 4; decide⟩
  | some q =>
    have h1 := h q (List.mem_of_getElem? e)
    have h2 := rf_at_sh q.2
    have h3 := rf_args_at (qx_sh q.2)
    show (0 : Int) ≤ ((rf_args (qx_sh q.2)).length : Int) ∧ ((rf_args (qx_sh q.2)).length : Int) ≤ 4
    omega
/-- one for each -/
theorem dl_list {α β : Type} {P : Nat → α → β → Prop} : ∀ {E : List α} {o : Nat}, (∀ (k : Nat) p, E[k]? = some p → ∃ y, P (o + k) p y) → ∃ tl : List β, tl.length = E.length ∧ ∀ (k : Nat) p, E[k]? = some p → ∃ y, tl[k]? = some y ∧ P (o + k) p y
  | [], _, _ => ⟨[], rfl, fun k p h => by simp at h⟩
  | p :: E, o, h => by
    obtain ⟨y, hy⟩ := h 0 p rfl
    obtain ⟨tl, t1, t2⟩ := dl_list (E := E) (o := o + 1) (P := P) (fun k q hk => by
      obtain ⟨z, hz⟩ := h (k + 1) q (by rw [List.getElem?_cons_succ]; exact hk)
      exact ⟨z, by rw [show o + 1 + k = o + (k + 1) by omega]; exact hz⟩)
    refine ⟨y :: tl, by rw [List.length_cons, List.length_cons, t1], fun k q hk => ?_⟩
    cases k with
    | zero =>
      have e : p = q := by simpa using hk
      rw [← e]
      exact ⟨y, rfl, hy⟩
    | succ k =>
      rw [List.getElem?_cons_succ] at hk
      obtain ⟨z, z1, z2⟩ := t2 k q hk
      exact ⟨z, by rw [List.getElem?_cons_succ]; exact z1, by rw [show o + (k + 1) = o + 1 + k by omega]; exact z2⟩
theorem vl_kf_at : ∀ {l : List vl_I} {C : List (Int × qx_T)} {i : Nat} {q : Int × qx_T}, C[i]? = some q → (vl_kf l C)[i]? = some q
  | [], _, _, _, h => h
  | p :: r, C, i, q, h => by
    show (if p.1.1 = 3 then vl_kf r (C ++ [p.1.2]) else vl_kf r C)[i]? = some q
    by_cases c : p.1.1 = 3
    · rw [if_pos c]
      refine vl_kf_at ?_
      rw [List.getElem?_append_left (List.getElem?_eq_some_iff.mp h).1]
      exact h
    · rw [if_neg c]
      exact vl_kf_at h
/-- the equations: what is declared before each, and that it is right -/
theorem vl_eq_in {SN : Int → Int → Prop} : ∀ {l : List vl_I} {C M : List (Int × qx_T)} {e : Nat}, px_ck SN l C M e → (∀ q ∈ C, qx_at q.2 ≤ 5) → (∀ q ∈ M, qx_at q.2 ≤ 5) → ∀ p ∈ vl_eq l C M, ((∀ (i : Nat) q, p.1.1[i]? = some q → (vl_kf l C)[i]? = some q) ∧ ∀ (i : Nat) q, p.1.2[i]? = some q → (vl_mf l M)[i]? = some q) ∧ ((∀ q ∈ p.1.1, qx_at q.2 ≤ 5) ∧ ∀ q ∈ p.1.2, qx_at q.2 ≤ 5) ∧ ∃ x, (px_wt SN p.1.1 p.1.2 p.2.1).1 [] x ∧ (px_wt SN p.1.1 p.1.2 p.2.2).1 [] x
  | [], _, _, _, _, _, _, p, hp => absurd hp List.not_mem_nil
  | q :: l, C, M, e, h, hC, hM, p, hp => by
    rcases h with ⟨k, _, _, _, h5, h⟩ | ⟨k, _, _, _, h5, h⟩ | ⟨k, _, hw, h⟩
    · have e1 : vl_eq (q :: l) C M = vl_eq l (C ++ [q.1.2]) M := by
        show (if q.1.1 = 3 then _ else _) = _
        rw [if_pos k]
      have e2 : vl_kf (q :: l) C = vl_kf l (C ++ [q.1.2]) := by
        show (if q.1.1 = 3 then _ else _) = _
        rw [if_pos k]
      have e3 : vl_mf (q :: l) M = vl_mf l M := by
        show (if q.1.1 = 4 then _ else _) = _
        rw [if_neg (by omega)]
      rw [e1] at hp
      rw [e2, e3]
      exact vl_eq_in h (fun z hz => by
        rcases List.mem_append.mp hz with hz | hz
        · exact hC z hz
        · rw [List.mem_singleton.mp hz]
          exact h5) hM p hp
    · have e1 : vl_eq (q :: l) C M = vl_eq l C (M ++ [q.1.2]) := by
        show (if q.1.1 = 3 then _ else if q.1.1 = 4 then _ else _) = _
        rw [if_neg (by omega), if_pos k]
      have e2 : vl_kf (q :: l) C = vl_kf l C := by
        show (if q.1.1 = 3 then _ else _) = _
        rw [if_neg (by omega)]
      have e3 : vl_mf (q :: l) M = vl_mf l (M ++ [q.1.2]) := by
        show (if q.1.1 = 4 then _ else _) = _
        rw [if_pos k]
      rw [e1] at hp
      rw [e2, e3]
      exact vl_eq_in h hC (fun z hz => by
        rcases List.mem_append.mp hz with hz | hz
        · exact hM z hz
        · rw [List.mem_singleton.mp hz]
          exact h5) p hp
    · have e1 : vl_eq (q :: l) C M = ((C, M), q.2) :: vl_eq l C M := by
        show (if q.1.1 = 3 then _ else if q.1.1 = 4 then _ else _) = _
        rw [if_neg (by omega), if_neg (by omega)]
      have e2 : vl_kf (q :: l) C = vl_kf l C := by
        show (if q.1.1 = 3 then _ else _) = _
        rw [if_neg (by omega)]
      have e3 : vl_mf (q :: l) M = vl_mf l M := by
        show (if q.1.1 = 4 then _ else _) = _
        rw [if_neg (by omega)]
      rw [e1] at hp
      rw [e2, e3]
      rcases List.mem_cons.mp hp with rfl | hp
      · exact ⟨⟨fun i z hz => vl_kf_at hz, fun i z hz => vl_mf_at hz⟩, ⟨hC, hM⟩, hw⟩
      · exact vl_eq_in h hC hM p hp
/-- their trees, one by one -/
theorem vl_tx_mk {SN : Int → Int → Prop} {TV : Int → qx_T → Prop} {AR : Nat → List Int} : ∀ {l : List vl_I} {C M : List (Int × qx_T)} {e : Nat} {tl : vw_L}, px_ck SN l C M e → tl.length = (vl_eq l C M).length → (∀ (k : Nat) p, (vl_eq l C M)[k]? = some p → ∃ L R x, tl[k]? = some (L, R) ∧ (vl_tm SN p.1.1 p.1.2 TV AR p.2.1).1 L [] [] x ∧ (vl_tm SN p.1.1 p.1.2 TV AR p.2.2).1 R [] [] x) → vl_tx SN TV AR l C M tl
  | [], C, M, e, tl, _, hl, _ => List.length_eq_zero_iff.mp hl
  | q :: l, C, M, e, tl, h, hl, ht => by
    rcases h with ⟨k, _, _, _, h5, h⟩ | ⟨k, _, _, _, h5, h⟩ | ⟨k, _, hw, h⟩
    · have e1 : vl_eq (q :: l) C M = vl_eq l (C ++ [q.1.2]) M := by
        show (if q.1.1 = 3 then _ else _) = _
        rw [if_pos k]
      rw [e1] at hl ht
      exact Or.inl ⟨k, vl_tx_mk h hl ht⟩
    · have e1 : vl_eq (q :: l) C M = vl_eq l C (M ++ [q.1.2]) := by
        show (if q.1.1 = 3 then _ else if q.1.1 = 4 then _ else _) = _
        rw [if_neg (by omega), if_pos k]
      rw [e1] at hl ht
      exact Or.inr (Or.inl ⟨k, vl_tx_mk h hl ht⟩)
    · have e1 : vl_eq (q :: l) C M = ((C, M), q.2) :: vl_eq l C M := by
        show (if q.1.1 = 3 then _ else if q.1.1 = 4 then _ else _) = _
        rw [if_neg (by omega), if_neg (by omega)]
      rw [e1] at hl ht
      obtain ⟨L, R, x, h1, h2, h3⟩ := ht 0 ((C, M), q.2) rfl
      cases tl with
      | nil => simp at h1
      | cons y tl =>
        have ey : y = (L, R) := by simpa using h1
        rw [List.length_cons, List.length_cons] at hl
        refine Or.inr (Or.inr ⟨k, L, R, tl, x, by rw [ey], h2, h3, vl_tx_mk h (by omega) (fun k' p hp => ?_)⟩)
        obtain ⟨L', R', x', g1, g2, g3⟩ := ht (k' + 1) p (by rw [List.getElem?_cons_succ]; exact hp)
        rw [List.getElem?_cons_succ] at g1
        exact ⟨L', R', x', g1, g2, g3⟩
end
section
/-! ===== what is loaded is a text for the solver ===== -/
theorem vx_hz_idx : ∀ A : rf_N, vx_hz A ≤ (rf_idx A).length
  | .leaf => Nat.le_refl _
  | .inner j q u F X => by
    have hF := vx_hz_idx F
    have hX := vx_hz_idx X
    show (if q.1 = 3 then 1 else vx_hz F + 1) + vx_hz X ≤ (j :: (rf_idx F ++ rf_idx X)).length
    rw [List.length_cons, List.length_append]
    split <;> omega
theorem dl_len {l : List Nat} {N : Int} (hN : 0 ≤ N) (h : l.Nodup) (hl : ∀ j ∈ l, (j : Int) < N) : (l.length : Int) ≤ N := by
  have h1 : (l.map (fun j : Nat => (j : Int))).Nodup := List.Pairwise.map _ (fun a b q e => q (by omega)) h
  have h2 := vx_ls_1 (n := N.toNat) h1 (fun x hx => by
    obtain ⟨j, hj, rfl⟩ := List.mem_map.mp hx
    have := hl j hj
    omega)
  rw [List.length_map] at h2
  omega
theorem vl_mf_5 {SN : Int → Int → Prop} : ∀ {l : List vl_I} {C M : List (Int × qx_T)} {e : Nat}, px_ck SN l C M e → M.length ≤ 5 → e ≤ 4 → (vl_mf l M).length ≤ 5 ∧ (vl_eq l C M).length + e ≤ 4
  | [], _, _, _, _, h, h' => ⟨h, by show 0 + _ ≤ 4; omega⟩
  | q :: l, C, M, e, h, hM, he => by
    rcases h with ⟨k, _, _, _, h5, h⟩ | ⟨k, h4, _, _, h5, h⟩ | ⟨k, h4, hw, h⟩
    · have e1 : vl_eq (q :: l) C M = vl_eq l (C ++ [q.1.2]) M := by
        show (if q.1.1 = 3 then _ else _) = _
        rw [if_pos k]
      have e3 : vl_mf (q :: l) M = vl_mf l M := by
        show (if q.1.1 = 4 then _ else _) = _
        rw [if_neg (by omega)]
      rw [e1, e3]
      exact vl_mf_5 h hM he
    · have e1 : vl_eq (q :: l) C M = vl_eq l C (M ++ [q.1.2]) := by
        show (if q.1.1 = 3 then _ else if q.1.1 = 4 then _ else _) = _
        rw [if_neg (by omega), if_pos k]
      have e3 : vl_mf (q :: l) M = vl_mf l (M ++ [q.1.2]) := by
        show (if q.1.1 = 4 then _ else _) = _
        rw [if_pos k]
      rw [e1, e3]
      exact vl_mf_5 h (by rw [List.length_append, List.length_singleton]; omega) he
    · have e1 : vl_eq (q :: l) C M = ((C, M), q.2) :: vl_eq l C M := by
        show (if q.1.1 = 3 then _ else if q.1.1 = 4 then _ else _) = _
        rw [if_neg (by omega), if_neg (by omega)]
      have e3 : vl_mf (q :: l) M = vl_mf l M := by
        show (if q.1.1 = 4 then _ else _) = _
        rw [if_neg (by omega)]
      rw [e1, e3, List.length_cons]
      have := vl_mf_5 h hM (by omega)
      exact ⟨this.1, by omega⟩
theorem dl_X {bb b : Nat → Int} {n : Int} {t : sx_S} {l : List vl_I} (hI : cx_I t) (hn : 0 ≤ n) (hX : vl_TX (px_K b n) l 0) (hck : px_ck (px_SN b n) l [] [] 0) (hE : dz_E bb n (vl_kf l []) (vl_mf l []) t) (hpr : dl_pr b n (vl_eq l [] []) t) (h6 : t.1 11 6 ≤ 960) (h10 : t.1 18 10 = ((vl_eq l [] []).length : Int)) : ∃ tl, dv_X (dl_tv t) (dl_tc (vl_kf l [])) (dl_tm (vl_mf l [])) t (dl_ra (vl_mf l [])) (dl_AR t) tl ∧ vl_tx (px_SN b n) (dl_TV t) (dl_AR t) l [] [] tl ∧ ∀ q ∈ tl, (∀ m, vx_mt m q.1 ∨ vx_mt m q.2 → 0 ≤ m ∧ m < ((vl_mf l []).length : Int)) ∧ (vx_ok (dl_ra (vl_mf l [])) (dl_AR t) q.1 ∧ vx_ok (dl_ra (vl_mf l [])) (dl_AR t) q.2) := by
  obtain ⟨_, E2, E3, _, E6, E7⟩ := hE trivial
  have lM := (E3 trivial).1
  obtain ⟨m5, e4⟩ := vl_mf_5 hck (by show 0 ≤ 5; decide) (by decide)
  have f6 := hI.fld 11 6 (by decide) rfl
  have hin := vl_eq_in hck (fun _ h => absurd h List.not_mem_nil) (fun _ h => absurd h List.not_mem_nil)
  obtain ⟨tl, t1, t2⟩ := dl_list (o := 0) (P := fun k p (y : rf_N × rf_N) => ∃ x, (y.1 ≠ .leaf ∧ dz_T 0 t y.1 (t.2.1 26 (2 * k))) ∧ (y.2 ≠ .leaf ∧ dz_T 0 t y.2 (t.2.1 26 (2 * k + 1))) ∧ dl_mt b n p.1.1 p.1.2 0 t y.1 p.2.1 [] [] x ∧ dl_mt b n p.1.1 p.1.2 0 t y.2 p.2.2 [] [] x) (E := vl_eq l [] []) (fun k p hk => by
    obtain ⟨L, R, x, a⟩ := hpr trivial k p hk
    exact ⟨(L, R), x, by rw [Nat.zero_add]; exact a⟩)
  have tx : vl_tx (px_SN b n) (dl_TV t) (dl_AR t) l [] [] tl := vl_tx_mk hck t1 (fun k p hk => by
    obtain ⟨y, y1, x, ⟨_, a1⟩, ⟨_, a2⟩, a3, a4⟩ := t2 k p hk
    obtain ⟨n1, r1, _⟩ := a1 trivial
    obtain ⟨n2, r2, _⟩ := a2 trivial
    exact ⟨y.1, y.2, x, y1, (a3 trivial).2.2 _ (dl_AR_ar n1 r1), (a4 trivial).2.2 _ (dl_AR_ar n2 r2)⟩)
  obtain ⟨_, _, _, _, _, hb, _⟩ := vl_text (D := []) (o := fun _ => 0) (AR := dl_AR t) List.Pairwise.nil (vl_P5_ps (b := b) hn) (Int.le_refl _) hX hck tx (fun _ h => absurd h List.not_mem_nil) (fun _ h => absurd h List.not_mem_nil) (fun _ _ _ => Or.inl (Nat.zero_le _)) (fun _ h => absurd h List.not_mem_nil)
  -- one side
  have side : ∀ {k : Nat} {C M : List (Int × qx_T)} {nn : px_N} {W : rf_N} {z : Int} {x : qx_T}, (∀ (i : Nat) q, C[i]? = some q → (vl_kf l [])[i]? = some q) → (∀ (i : Nat) q, M[i]? = some q → (vl_mf l [])[i]? = some q) → (∀ q ∈ C, qx_at q.2 ≤ 5) → (∀ q ∈ M, qx_at q.2 ≤ 5) → (∃ y, (px_wt (px_SN b n) C M nn).1 [] y) → dz_T 0 t W z → dl_mt b n C M 0 t W nn [] [] x → (vx_lh W ≤ 67 ∧ vx_hh W ≤ 26) → dv_at t (dl_AR t) W z ∧ dv_s1 (dl_tv t) (dl_tc (vl_kf l [])) (dl_tm (vl_mf l [])) (dv_S0 t (dl_ra (vl_mf l [])) (dl_AR t)) (qx_sh x) W ∧ (∀ m, vx_mt m W → 0 ≤ m ∧ m < ((vl_mf l []).length : Int)) ∧ vx_ok (dl_ra (vl_mf l [])) (dl_AR t) W := by
    intro k C M nn W z x pC pM c5 m5' hw hT hm hlh
    obtain ⟨y, hw⟩ := hw
    have lt := dz_T_lt hT
    obtain ⟨nd, ar, ndp, _, _⟩ := hT trivial
    obtain ⟨nb, sg, tm⟩ := hm trivial
    have hA := dl_AR_ar nd ar
    have htm := tm _ hA
    have vE := dl_vE (t := t) pC pM
    obtain ⟨_, ty, fv, mt, ok⟩ := (vl_tm_all (P := vx_U (dv_S0 t (dl_ra (vl_mf l [])) (dl_AR t))) vE).1 (Γ := []) (ρ := []) ⟨rfl, fun _ h => absurd h (Nat.not_lt_zero _)⟩ htm
    have tr := (vl_tm_tr (A16 := t.2.1 16) c5 m5').1 (Γ := []) (ρ := []) (fun _ h => absurd h List.not_mem_nil) rfl List.Pairwise.nil (fun _ h => absurd h List.not_mem_nil) htm hw ar hA
    have lMM : M.length ≤ (vl_mf l []).length := by
      apply Classical.byContradiction
      intro q
      have := pM (M.length - 1) _ (List.getElem?_eq_getElem (by omega))
      have := (List.getElem?_eq_some_iff.mp this).1
      omega
    have mt' : ∀ m, vx_mt m W → 0 ≤ m ∧ m < ((vl_mf l []).length : Int) := fun m hm => by
      have := mt m hm
      omega
    refine ⟨?_, fun _ => ⟨⟨⟨fun m hm => ?_, fun j hj => lt j hj, ok⟩, sg, ty⟩, fun z hz => absurd (fv z hz) List.not_mem_nil, vx_nb_mono (fun _ h => h.elim) nb, hlh.1, hlh.2, ?_⟩, mt', ok⟩
    · obtain ⟨j, kk, h, F, rfl⟩ := sg
      obtain ⟨⟨a1, a2⟩, ⟨a3, a4⟩, a5, _⟩ := nd
      exact ⟨j, kk, h, F, rfl, ⟨a1, a2⟩, ⟨a3, a4⟩, a5, tr⟩
    · have := mt' m hm
      show 0 ≤ m ∧ m < t.1 22 2
      omega
    · have h1 := vx_hz_idx W
      have h2 := dl_len f6.1 ndp lt
      omega
  have key : ∀ (k : Nat) A B, tl[k]? = some (A, B) → ((dv_at t (dl_AR t) A (t.2.1 26 (2 * k)) ∧ dv_at t (dl_AR t) B (t.2.1 26 (2 * k + 1))) ∧ ∃ ty, dv_s1 (dl_tv t) (dl_tc (vl_kf l [])) (dl_tm (vl_mf l [])) (dv_S0 t (dl_ra (vl_mf l [])) (dl_AR t)) ty A ∧ dv_s1 (dl_tv t) (dl_tc (vl_kf l [])) (dl_tm (vl_mf l [])) (dv_S0 t (dl_ra (vl_mf l [])) (dl_AR t)) ty B) ∧ (∀ m, vx_mt m A ∨ vx_mt m B → 0 ≤ m ∧ m < ((vl_mf l []).length : Int)) ∧ (vx_ok (dl_ra (vl_mf l [])) (dl_AR t) A ∧ vx_ok (dl_ra (vl_mf l [])) (dl_AR t) B) := fun k A B hk => by
    have hk' : k < (vl_eq l [] []).length := by
      rw [← t1]
      exact (List.getElem?_eq_some_iff.mp hk).1
    obtain ⟨y, y1, x, ⟨_, a1⟩, ⟨_, a2⟩, a3, a4⟩ := t2 k _ (List.getElem?_eq_getElem hk')
    rw [hk] at y1
    have ey : (A, B) = y := Option.some.inj y1
    subst ey
    rw [Nat.zero_add] at a1 a2
    obtain ⟨⟨p1, p2⟩, ⟨p3, p4⟩, x', w1, w2⟩ := hin _ (List.getElem_mem hk')
    obtain ⟨b1, b2⟩ := hb (A, B) (List.mem_of_getElem? hk)
    obtain ⟨s1, s2, s3, s4⟩ := side (k := k) p1 p2 p3 p4 ⟨x', w1⟩ a1 a3 b1
    obtain ⟨r1, r2, r3, r4⟩ := side (k := k) p1 p2 p3 p4 ⟨x', w2⟩ a2 a4 b2
    exact ⟨⟨⟨s1, r1⟩, qx_sh x, s2, r2⟩, fun m hm => hm.elim (s3 m) (r3 m), s4, r4⟩
  refine ⟨tl, fun _ => ⟨by omega, dl_ra_4 E7, h6, ⟨by rw [h10, t1], by omega⟩, fun k A B hk => (key k A B hk).1⟩, tx, fun q hq => ?_⟩
  obtain ⟨i, hi⟩ := List.mem_iff_getElem?.mp hq
  exact (key i q.1 q.2 hi).2
end
section
/-! ===== the desk's unifies: the text has a solution, or not ===== -/
theorem vl_tx_Q {SN : Int → Int → Prop} {TV TV' : Int → qx_T → Prop} {AR AR' : Nat → List Int} {th : Int → rf_N} (hg : ∀ m, vx_on (th m)) : ∀ {l : List vl_I} {C M : List (Int × qx_T)} {tl tl' : vw_L}, vl_tx SN TV AR l C M tl → vl_tx SN TV' AR' l C M tl' → dv_Q AR tl th → dv_Q AR' tl' th
  | [], C, M, tl, tl', h, h', _ => by
    have e : tl' = [] := h'
    subst e
    exact fun q hq => absurd hq List.not_mem_nil
  | p :: l, C, M, tl, tl', h, h', hQ => by
    rcases h with ⟨k, h⟩ | ⟨k, h⟩ | ⟨k, L, R, l1, x, e, a1, a2, h⟩ <;> rcases h' with ⟨k', h'⟩ | ⟨k', h'⟩ | ⟨k', L', R', l1', x', e', a1', a2', h'⟩
    · exact vl_tx_Q hg h h' hQ
    · omega
    · omega
    · omega
    · exact vl_tx_Q hg h h' hQ
    · omega
    · omega
    · omega
    · subst e e'
      intro q hq
      rcases List.mem_cons.mp hq with rfl | hq
      · have b1 := ((vl_tm_eq (th := th) hg (fun h1 h2 => px_pv_fun.2 h1 h2)).1 (Γ := []) (ρ := []) (ρ' := []) rfl a1 a1').2 (dv_lk []) (dv_lk []) 0 ⟨rfl, fun _ h => absurd h (Nat.not_lt_zero _)⟩
        have b2 := ((vl_tm_eq (th := th) hg (fun h1 h2 => px_pv_fun.2 h1 h2)).1 (Γ := []) (ρ := []) (ρ' := []) rfl a2 a2').2 (dv_lk []) (dv_lk []) 0 ⟨rfl, fun _ h => absurd h (Nat.not_lt_zero _)⟩
        have c := hQ (L, R) List.mem_cons_self
        show vx_val th AR' L' (dv_lk []) 0 = vx_val th AR' R' (dv_lk []) 0
        rw [← b1, ← b2]
        exact c
      · exact vl_tx_Q hg h h' (fun p hp => hQ p (List.mem_cons_of_mem _ hp)) q hq
/-- the text's equations have a solution -/
def vl_sat (SN : Int → Int → Prop) (l : List vl_I) : Prop := ∃ (TV : Int → qx_T → Prop) (AR : Nat → List Int) (tl : vw_L), vl_tx SN TV AR l [] [] tl ∧ dv_sat ((vl_mf l []).length : Int) (dl_ra (vl_mf l [])) (dv_Q AR tl)
theorem vl_sat_iff {SN : Int → Int → Prop} {l : List vl_I} {TV : Int → qx_T → Prop} {AR : Nat → List Int} {tl : vw_L} (h : vl_tx SN TV AR l [] [] tl) : vl_sat SN l ↔ dv_sat ((vl_mf l []).length : Int) (dl_ra (vl_mf l [])) (dv_Q AR tl) := by
  constructor
  · rintro ⟨TV', AR', tl', h', th, g, sc, q⟩
    exact ⟨th, g, sc, vl_tx_Q (fun m => (g m).1) h' h q⟩
  · exact fun hs => ⟨TV, AR, tl, h, hs⟩
/-- what load leaves -/
def dl_LD (b : Nat → Int) (n : Int) (l : List vl_I) (s : sx_S) : Prop := True → (0 ≤ n ∧ n ≤ 240) ∧ vl_TX (px_K b n) l 0 ∧ px_ck (px_SN b n) l [] [] 0 ∧ (∃ bb, dz_E bb n (vl_kf l []) (vl_mf l []) s) ∧ dl_pr b n (vl_eq l [] []) s ∧ s.1 11 6 ≤ 960 ∧ s.1 18 10 = ((vl_eq l [] []).length : Int)
end
section
/-! ===== the desk's solve, all of it ===== -/
/-- solve answers z in s, t is left -/
def dl_SO (b : Nat → Int) (n : Int) (l : List vl_I) (s : sx_S) (z : Int) (t : sx_S) : Prop := True → cx_I t ∧ cx_F [(0, 0), (11, 17), (29, 65)] s t ∧ (t.1 0 1 = s.1 0 1 ∧ t.1 0 2 = s.1 0 2) ∧ (s.1 0 2 = 0 → z = -1 ∧ t.1 0 3 = s.1 0 3) ∧ (s.1 0 2 ≠ 0 → s.1 0 3 ≠ -1 → z = s.1 0 3 ∧ t.1 0 3 = s.1 0 3) ∧ (s.1 0 2 ≠ 0 → s.1 0 3 = -1 → t.1 0 3 = z ∧ ((z = 0 ∧ vl_sat (px_SN b n) l) ∨ (z = 1 ∧ ¬ vl_sat (px_SN b n) l)))
end
section
/-! ===== what load leaves, for solve ===== -/
theorem vl_TX_px {K : Nat → Int} : ∀ {l : List vl_I} {a : Int}, px_TX K l a → vl_TX K l a
  | [], _, h => h
  | _ :: _, _, ⟨c, h1, h2⟩ => ⟨c, h1, vl_TX_px h2⟩
theorem vl_eq_c3 {SN : Int → Int → Prop} : ∀ {l : List vl_I} {C M : List (Int × qx_T)} {e : Nat}, px_ck SN l C M e → px_c3 5 l = (vl_eq l C M).length
  | [], _, _, _, _ => rfl
  | q :: l, C, M, e, h => by
    have e0 : px_c3 5 (q :: l) = (if q.1.1 = 5 then 1 else 0) + px_c3 5 l := by
      first
        | rfl
        | (show px_c3 5 l + _ = _; omega)
        | (simp only [px_c3]; omega)
    rcases h with ⟨k, _, _, _, h5, h⟩ | ⟨k, h4, _, _, h5, h⟩ | ⟨k, h4, hw, h⟩
    · have e1 : vl_eq (q :: l) C M = vl_eq l (C ++ [q.1.2]) M := by
        show (if q.1.1 = 3 then _ else _) = _
        rw [if_pos k]
      rw [e1, e0, if_neg (by omega), vl_eq_c3 h]
      omega
    · have e1 : vl_eq (q :: l) C M = vl_eq l C (M ++ [q.1.2]) := by
        show (if q.1.1 = 3 then _ else if q.1.1 = 4 then _ else _) = _
        rw [if_neg (by omega), if_pos k]
      rw [e1, e0, if_neg (by omega), vl_eq_c3 h]
      omega
    · have e1 : vl_eq (q :: l) C M = ((C, M), q.2) :: vl_eq l C M := by
        show (if q.1.1 = 3 then _ else if q.1.1 = 4 then _ else _) = _
        rw [if_neg (by omega), if_neg (by omega)]
      rw [e1, e0, if_pos k, vl_eq_c3 h, List.length_cons]
      omega
theorem dl_LD_mk {b bb : Nat → Int} {n : Int} {l : List vl_I} {t : sx_S} (h0 : 0 ≤ n ∧ n ≤ 240) (hX : px_TX (px_K b n) l 0) (hck : px_ck (px_SN b n) l [] [] 0) (h10 : t.1 18 10 = (px_c3 5 l : Int)) (hE : dz_E bb n (vl_kf l []) (vl_mf l []) t) (hpr : dl_pr b n (vl_eq l [] []) t) (h6 : t.1 11 6 ≤ 960) : dl_LD b n l t := fun _ => ⟨h0, vl_TX_px hX, hck, ⟨bb, hE⟩, hpr, h6, by rw [h10, vl_eq_c3 hck]⟩
/-- it stays where nothing of it is touched -/
theorem dl_LD_F {b : Nat → Int} {n : Int} {l : List vl_I} {s t : sx_S} (hE : ∀ bb C M, dz_E bb n C M s → dz_E bb n C M t) (h11 : t.1 11 = s.1 11) (h12 : ∀ k, 12 ≤ k → k ≤ 17 → t.2.1 k = s.2.1 k) (h26 : t.2.1 26 = s.2.1 26) (h18 : t.1 18 10 = s.1 18 10) (hu : dx_tu s t) (h : dl_LD b n l s) : dl_LD b n l t := fun _ => by
  obtain ⟨a1, a2, a3, ⟨bb, a4⟩, a5, a6, a7⟩ := h trivial
  refine ⟨a1, a2, a3, ⟨bb, hE _ _ _ a4⟩, dl_pr_mono (fun _ => ⟨by rw [h11]; exact Int.le_refl _, fun j _ => ?_⟩) ⟨by rw [h11]; exact Int.le_refl _, fun j _ => by rw [h12 17 (by decide) (by decide)]⟩ hu (fun j _ => by rw [h26]) a5, by rw [h11]; exact a6, by rw [h18]; exact a7⟩
  rw [h12 12 (by decide) (by decide), h12 13 (by decide) (by decide), h12 14 (by decide) (by decide), h12 15 (by decide) (by decide), h12 16 (by decide) (by decide)]
  exact ⟨rfl, rfl, rfl, rfl, rfl⟩
end
