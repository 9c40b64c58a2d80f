/-! ===== the desk's checker: equations ===== -/
theorem w_dq {CALL : sx_Ca} {sL : Nat} {sx : Nat → Int32} {Q : Nat → sx_L → sx_S → Prop} {R : Int → sx_S → Prop} (h_bl : ∀ (a0 a1 : Int) (u : sx_S) (K : Int → sx_S → Prop), cx_I u → (-2147483648 ≤ a0 ∧ a0 ≤ 2147483647) → (-2147483648 ≤ a1 ∧ a1 ≤ 2147483647) → (∀ t, cx_I t → t.1 18 9 = u.1 18 9 → K 0 t) → CALL 21 [.inr (.inl 18), .inl a0, .inl a1] u K) {s : sx_S} {Zs : Prop} {Z1 : Int → sx_S → Prop} (hI : cx_I s) (h11 : 0 ≤ s.1 18 11 ∧ s.1 18 11 ≤ 900) (h_lt : s.1 18 10 < 4 → ∀ K : Int → sx_S → Prop, (Zs → K (-1) s) → (¬ Zs → ∀ z, 0 ≤ z → z ≤ 240 → K z s) → CALL 24 [.inr (.inl 18)] s K) (h_tm : s.1 18 10 < 4 → Zs → ∀ K : Int → sx_S → Prop, (∀ z t, Z1 z t → K z t) → CALL 27 [.inr (.inl 18), .inl 0] (sx_uf s.1 18 11 (s.1 18 11 + 1), s.2) K) (hQ : ∀ z t, Z1 z t → Q 52 [(0, .inr (.inl 18)), (2, .inl z)] t) (hF : ¬ (s.1 18 10 < 4) ∨ ¬ Zs → ∀ u, cx_I u → R 0 u) : sx_wp true sL sx eX1_equation CALL [(52, [0, 2]), (86, [0, 2, 3, 4, 5])] Q R 400 0 (sx_argsF 0 [.inr (.inl 18)]) [] s := by
  have zzy : sx_w true (s.1 18 11 + 1) = s.1 18 11 + 1 := px_wid (by omega) (by omega)
  rw [← zzy] at h_tm
  have f1 : ¬ (s.1 18 10 < 4) → ∀ u, cx_I u → R 0 u := fun q => hF (Or.inl q)
  have f2 : ¬ Zs → ∀ u, cx_I u → R 0 u := fun q => hF (Or.inr q)
  clear hF
  by_cases h4 : s.1 18 10 < 4
  · have h_lt' := h_lt h4
    have h_tm' := h_tm h4
    clear h_lt h_tm f1
    repeat' (first | (with_reducible (rintro _ rfl)) | (with_reducible intro _) | (refine And.intro ?_ ?_) | (refine h_lt' _ ?_ ?_) | (refine h_tm' ?_ _ ?_) | (refine h_bl _ _ _ _ ?_ ?_ ?_ ?_))
    all_goals (try dsimp only at *)
    all_goals (first | trivial | assumption | omega | (exfalso; omega) | (exact hQ _ _ (by assumption)) | (exact f2 (by assumption) _ (by assumption)) | skip)
  · have f1' := f1 h4
    clear h_lt h_tm
    repeat' (first | (with_reducible (rintro _ rfl)) | (with_reducible intro _) | (refine And.intro ?_ ?_) | (refine h_bl _ _ _ _ ?_ ?_ ?_ ?_))
    all_goals (try dsimp only at *)
    all_goals (first | trivial | assumption | omega | (exfalso; omega) | (exact f1' _ (by assumption)) | skip)
theorem w_dq_52 {CALL : sx_Ca} {sL : Nat} {sx : Nat → Int32} {Q : Nat → sx_L → sx_S → Prop} {R : Int → sx_S → Prop} {s : sx_S} {x2 : Int} {Z2 : Int → sx_S → Prop} (hI : cx_I s) (r2 : -1 ≤ x2 ∧ x2 ≤ 2000) (h11 : 0 ≤ x2 → 0 ≤ s.1 18 11 ∧ s.1 18 11 ≤ 900) (hF : x2 < 0 → R 0 s) (h_tm : 0 ≤ x2 → ∀ K : Int → sx_S → Prop, (∀ z t, Z2 z t → K z t) → CALL 27 [.inr (.inl 18), .inl 0] (sx_uf s.1 18 11 (s.1 18 11 + 1), s.2) K) (hQ : ∀ z t, Z2 z t → Q 86 [(0, .inr (.inl 18)), (2, .inl x2), (3, .inl (s.1 18 12)), (4, .inl (s.1 18 11)), (5, .inl z)] t) : sx_wp true sL sx eX1_equation CALL [(52, [0, 2]), (86, [0, 2, 3, 4, 5])] Q R 400 52 [(0, .inr (.inl 18)), (2, .inl x2)] [] s := by
  by_cases hx : 0 ≤ x2
  · have h11' := h11 hx
    have zzy : sx_w true (s.1 18 11 + 1) = s.1 18 11 + 1 := px_wid (by omega) (by omega)
    have h_tm' := h_tm hx
    rw [← zzy] at h_tm'
    clear h_tm hF
    repeat' (first | (with_reducible (rintro _ rfl)) | (with_reducible intro _) | (refine And.intro ?_ ?_) | (refine h_tm' _ ?_))
    all_goals (try dsimp only at *)
    all_goals (first | trivial | assumption | omega | (exfalso; omega) | (exact hQ _ _ (by assumption)) | skip)
  · have hF' := hF (by omega)
    clear h_tm
    repeat' (first | (with_reducible (rintro _ rfl)) | (with_reducible intro _) | (refine And.intro ?_ ?_) | (fail))
    all_goals (try dsimp only at *)
    all_goals (first | trivial | assumption | omega | (exfalso; omega) | skip)
theorem w_dq_86 {CALL : sx_Ca} {sL : Nat} {sx : Nat → Int32} {Q : Nat → sx_L → sx_S → Prop} {R : Int → sx_S → Prop} (h_bl : ∀ (a0 a1 : Int) (u : sx_S) (K : Int → sx_S → Prop), cx_I u → (-2147483648 ≤ a0 ∧ a0 ≤ 2147483647) → (-2147483648 ≤ a1 ∧ a1 ≤ 2147483647) → (∀ t, cx_I t → t.1 18 9 = u.1 18 9 → K 0 t) → CALL 21 [.inr (.inl 18), .inl a0, .inl a1] u K) {s : sx_S} {x2 x3 x4 x5 : Int} (hI : cx_I s) (h11 : 0 ≤ x5 → 0 ≤ s.1 18 11 ∧ s.1 18 11 ≤ 900) (h10 : 0 ≤ x5 → s.1 18 10 < 4) (r4 : -2147483648 ≤ x4 ∧ x4 ≤ 2147483647) (r2 : 0 ≤ x2 ∧ x2 ≤ 2000) (r3 : -2147483648 ≤ x3 ∧ x3 ≤ 2147483647) (r5 : -1 ≤ x5 ∧ x5 ≤ 2000) (hF0 : x5 < 0 → R 0 s) (hF1 : 0 ≤ x5 → s.1 18 12 ≠ x3 → ∀ u, cx_I u → R 0 u) (hK : 0 ≤ x5 → s.1 18 12 = x3 → R 1 (sx_uf (sx_uf s.1 18 11 (s.1 18 11 + 1)) 18 10 (s.1 18 10 + 1), sx_ua (sx_ua s.2.1 26 (2 * s.1 18 10).toNat x2) 26 (2 * s.1 18 10 + 1).toNat x5, s.2.2)) : sx_wp true sL sx eX1_equation CALL [(52, [0, 2]), (86, [0, 2, 3, 4, 5])] Q R 400 86 [(0, .inr (.inl 18)), (2, .inl x2), (3, .inl x3), (4, .inl x4), (5, .inl x5)] [] s := by
  have h10' := hI.fld 18 10 (by decide) rfl
  by_cases hx : 0 ≤ x5
  · have h11' := h11 hx
    have h10'' := h10 hx
    have zz1 : sx_w true (s.1 18 11 + 1) = s.1 18 11 + 1 := px_wid (by omega) (by omega)
    have zz2 : sx_w true (s.1 18 10 + 1) = s.1 18 10 + 1 := px_wid (by omega) (by omega)
    have zz3 : sx_w true (2 * s.1 18 10) = 2 * s.1 18 10 := px_wid (by omega) (by omega)
    have zz4 : sx_w true (2 * s.1 18 10 + 1) = 2 * s.1 18 10 + 1 := px_wid (by omega) (by omega)
    have zz5 : sx_uf s.1 18 11 (sx_w true (s.1 18 11 + 1)) 18 10 = s.1 18 10 := rfl
    have zzI1 : cx_I (sx_uf s.1 18 11 (sx_w true (s.1 18 11 + 1)), s.2) := cx_I_uf rfl rfl hI (by omega) (by omega)
    have zzI2 : cx_I (sx_uf s.1 18 11 (sx_w true (s.1 18 11 + 1)), sx_ua s.2.1 26 (sx_w true (2 * sx_uf s.1 18 11 (sx_w true (s.1 18 11 + 1)) 18 10)).toNat x2, s.2.2) := cx_I_ua rfl rfl zzI1 (by omega) (by omega)
    have zzI3 : cx_I (sx_uf s.1 18 11 (sx_w true (s.1 18 11 + 1)), sx_ua (sx_ua s.2.1 26 (sx_w true (2 * sx_uf s.1 18 11 (sx_w true (s.1 18 11 + 1)) 18 10)).toNat x2) 26 (sx_w true (sx_w true (2 * sx_uf s.1 18 11 (sx_w true (s.1 18 11 + 1)) 18 10) + 1)).toNat x5, s.2.2) := cx_I_ua rfl rfl zzI2 (by omega) (by omega)
    have hF1' := hF1 hx
    have hK' := hK hx
    rw [← zz4, ← zz3, ← zz2, ← zz1] at hK'
    clear hF0 hF1 hK
    by_cases h3 : s.1 18 12 = x3
    · have hK'' := hK' h3
      repeat' (first | (with_reducible (rintro _ rfl)) | (with_reducible intro _) | (refine And.intro ?_ ?_) | (fail))
      all_goals (try dsimp only at *)
      all_goals (first | trivial | assumption | omega | (exfalso; omega) | (show R 1 _; exact hK'') | (show _ < _; rw [zz5]; omega) | (rw [zz5]; omega) | (rw [zz5, zz3]; omega) | (rw [zz5, zz3, zz4]; omega) | skip)
    · have hF1'' := hF1' h3
      repeat' (first | (with_reducible (rintro _ rfl)) | (with_reducible intro _) | (refine And.intro ?_ ?_) | (refine h_bl _ _ _ _ ?_ ?_ ?_ ?_))
      all_goals (try dsimp only at *)
      all_goals (first | trivial | assumption | omega | (exfalso; omega) | (exact hF1'' _ (by assumption)) | skip)
  · have hF0' := hF0 (by omega)
    clear hF1 hK
    repeat' (first | (with_reducible (rintro _ rfl)) | (with_reducible intro _) | (refine And.intro ?_ ?_) | (fail))
    all_goals (try dsimp only at *)
    all_goals (first | trivial | assumption | omega | (exfalso; omega) | skip)
theorem dz_E_F {b : Nat → Int} {n : Int} {C M : List (Int × qx_T)} {s t : sx_S} (h : dz_E b n C M s) (hF : cx_F [(18, 18), (25, 26)] s t) : dz_E b n C M t := fun _ => by
  obtain ⟨e1, e2, e3, ⟨e4, e5⟩, e6, e7⟩ := h trivial
  have c8 : t.1 8 2 = s.1 8 2 := congrFun (hF.same 8 rfl).1 2
  have c9 := (hF.same 9 rfl).2
  have c10 := (hF.same 10 rfl).2
  have hu : dx_tu s t := dx_tu_c c8 c9 c10
  have hdl : ∀ o p q : Nat, cx_outb [(18, 18), (25, 26)] o = true → cx_outb [(18, 18), (25, 26)] p = true → cx_outb [(18, 18), (25, 26)] q = true → ∀ L, dz_DL o p q s L → dz_DL o p q t L := fun o p q ho hp hq L hL => fun _ => by
    obtain ⟨l1, l2⟩ := hL trivial
    refine ⟨by rw [(hF.same o ho).1]; exact l1, fun k hk => ?_⟩
    obtain ⟨e, f1, f2, f3, f4⟩ := l2 k hk
    refine ⟨e, f1, by rw [(hF.same p hp).2]; exact f2, by rw [(hF.same 2 rfl).1]; exact f3, ?_⟩
    rw [(hF.same q hq).2]
    exact dx_is_up f4 hu
  refine ⟨fun _ => ?_, hdl _ _ _ rfl rfl rfl _ e2, hdl _ _ _ rfl rfl rfl _ e3, ⟨dx_TI_c e4 c8 c9 c10, by omega⟩, e6, e7⟩
  obtain ⟨a1, a2, a3⟩ := e1 trivial
  exact ⟨(hF.same 3 rfl).2.trans a1, (congrFun (hF.same 2 rfl).1 4).trans a2, px_TK_F hF rfl rfl rfl rfl a3⟩
theorem dz_SC_0 {s : sx_S} (h : s.1 18 9 = 0) : dz_SC s [] [] := fun _ => ⟨⟨h.symm, rfl⟩, fun k hk => absurd hk (Nat.not_lt_zero _), fun w hw => absurd hw List.not_mem_nil, trivial, fun q hq => absurd hq List.not_mem_nil⟩
/-- what has a type has small TYPEs alone -/
theorem px_ARg_ls {SN : Int → Int → Prop} {C M Γ : List (Int × qx_T)} {K : Nat → Int} {T : Int → px_N → Int → Prop} (hT : ∀ a t e Γ y, T a t e → (px_wt SN C M t).1 Γ y → px_ls t) (hT1 : ∀ a t e, T a t e → ∃ g q f', t = .inner g q () f' .leaf) : ∀ {g : Nat} {a : Int} {r r' : px_N} {c : Int} {u w : qx_T}, px_ARg K T g a r r' c → px_ls r → (px_wt SN C M r').2 Γ u w → px_ls r'
  | 0, _, _, _, _, _, _, h, _, _ => h.elim
  | g + 1, a, r, r', c, u, w, h, hr, hw => by
    rcases h with ⟨q0, t, e, q1, q2, q3⟩ | ⟨q0, q⟩ | ⟨_, _, q1, q2⟩
    · obtain ⟨q', hq'⟩ := px_AR_sn ⟨g, q3⟩
      have hw' := hw
      rw [hq'] at hw'
      obtain ⟨w1, h1, _⟩ := px_wt_snoc.mp hw'
      obtain ⟨w2, _, h2⟩ := px_wt_snoc.mp h1
      obtain ⟨tg, tq, tf, rfl⟩ := hT1 _ _ _ q1
      obtain ⟨A, B, _, h3, _⟩ := px_wt_c.mp h2
      exact px_ARg_ls hT hT1 q3 (px_ls_sn hr (hT _ _ _ _ _ q1 h3)) hw
    · exact px_ARg_ls hT hT1 q (px_ls_sn hr ⟨fun z => absurd z (by decide), trivial, trivial⟩) hw
    · rw [q1]
      exact hr
theorem px_TM_ls {SN : Int → Int → Prop} {C M : List (Int × qx_T)} {K : Nat → Int} : ∀ {f : Nat} {a : Int} {t : px_N} {c : Int} {Γ : List (Int × qx_T)} {y : qx_T}, px_TM K f a t c → (px_wt SN C M t).1 Γ y → px_ls t
  | 0, _, _, _, _, _, h, _ => h.elim
  | f + 1, a, t, c, Γ, y, h, hw => by
    rcases h with ⟨q1, q2, q3, x, e, q4, q5, u, q6, rfl⟩ | ⟨q1, r, ⟨g, q⟩, rfl⟩
    · rcases hw with ⟨_, h5, B, hw, _⟩ | ⟨hw, _⟩
      · exact ⟨fun _ => h5, px_TM_ls q6 hw, trivial⟩
      · exact absurd rfl hw
    · rcases hw with ⟨hw, _⟩ | ⟨_, s, k, u, _, hw, _⟩
      · exact absurd hw (by decide)
      · exact ⟨fun z => absurd z (by decide), px_ARg_ls (T := px_TM K f) (fun _ _ _ _ _ h1 h2 => px_TM_ls h1 h2) (fun _ _ _ h1 => px_TM_1 h1) q trivial hw, trivial⟩
/-- the trees of an equation, and what else is left -/
def dl_EQ (b : Nat → Int) (n : Int) (C M : List (Int × qx_T)) (t1 t2 : px_N) (s t : sx_S) : Prop := True → (∃ (L R : rf_N) (x : qx_T), (L ≠ .leaf ∧ dz_T (s.1 11 6) t L (t.2.1 26 (2 * s.1 18 10).toNat)) ∧ (R ≠ .leaf ∧ dz_T (s.1 11 6) t R (t.2.1 26 (2 * s.1 18 10 + 1).toNat)) ∧ dl_mt b n C M (s.1 11 8) t L t1 [] [] x ∧ dl_mt b n C M (s.1 11 8) t R t2 [] [] x) ∧ dz_fr (fun j => (j : Int) < s.1 11 6) s t ∧ (s.1 11 8 ≤ t.1 11 8 ∧ ∀ j : Nat, (j : Int) < s.1 11 8 → t.2.1 17 j = s.2.1 17 j) ∧ dx_tu s t ∧ (∀ j : Nat, j ≠ (2 * s.1 18 10).toNat → j ≠ (2 * s.1 18 10 + 1).toNat → t.2.1 26 j = s.2.1 26 j)
theorem dl_mt_G {b : Nat → Int} {n : Int} {C M : List (Int × qx_T)} {lo g : Int} {u t : sx_S} {W : rf_N} {nn : px_N} {Γ : List (Int × qx_T)} {ρ : List Int} {x : qx_T} (hG : dz_G g u t) (h : dl_mt b n C M lo u W nn Γ ρ x) : dl_mt b n C M lo t W nn Γ ρ x := fun _ => by
  obtain ⟨a1, a2, a3⟩ := h trivial
  have h8 : u.1 11 8 ≤ t.1 11 8 := ((hG trivial).2.2.2.2.1).1
  exact ⟨dl_nb_mono (Int.le_refl _) h8 a1, a2, fun AR hA => (vl_tm_mono (dl_TV_G hG)).1 (a3 AR hA)⟩
theorem dl_mt_lo {b : Nat → Int} {n : Int} {C M : List (Int × qx_T)} {lo lo' : Int} {t : sx_S} {W : rf_N} {nn : px_N} {Γ : List (Int × qx_T)} {ρ : List Int} {x : qx_T} (hl : lo' ≤ lo) (h : dl_mt b n C M lo t W nn Γ ρ x) : dl_mt b n C M lo' t W nn Γ ρ x := fun _ => by
  obtain ⟨a1, a2, a3⟩ := h trivial
  exact ⟨dl_nb_mono hl (Int.le_refl _) a1, a2, a3⟩

theorem c_dz_eq {sL : Nat} {sx : Nat → Int32} (hsL : sL ≤ 3072) (d : Nat) (hd : 85 ≤ d) (b : Nat → Int) (n : Int) (C M : List (Int × qx_T)) : ∀ (a e g : Int) (t1 t2 : px_N) (s : sx_S) (R : Int → sx_S → Prop), cx_I s → s.1 18 11 = a → 0 ≤ a → px_K b n a.toNat = 5 → px_TM (px_K b n) 21 (a + 1) t1 e → px_K b n e.toNat = 15 → px_TM (px_K b n) 21 (e + 1) t2 g → px_K b n g.toNat = 14 → dz_E b n C M s → s.1 18 9 = 0 → px_lv b n g.toNat → (s.1 11 6 + 3 * (g - a) + 30 ≤ 1024 ∧ s.1 11 8 + 2 * (g - a) + 24 ≤ 512 ∧ s.1 8 2 + (g - a) ≤ 255) → (∀ t, (s.1 18 10 < 4 ∧ ∃ x, (px_wt (px_SN b n) C M t1).1 [] x ∧ (px_wt (px_SN b n) C M t2).1 [] x) → dz_IT s t (g + 1) → t.1 18 10 = s.1 18 10 + 1 → dz_E b n C M t → dl_EQ b n C M t1 t2 s t → R 1 t) → (¬ (s.1 18 10 < 4 ∧ ∃ x, (px_wt (px_SN b n) C M t1).1 [] x ∧ (px_wt (px_SN b n) C M t2).1 [] x) → ∀ t, cx_I t → R 0 t) → sx_C sL sx d 23 [.inr (.inl 18)] s R := by
  intro a e g t1 t2 s R hI pa pa0 k5 p1 k15 p2 k14 hE h9 hlv hr hK hX
  have hTK := ((hE trivial).1 trivial).2.2
  have hm := (hTK trivial).1
  have l1 := px_TM_le p1
  have l2 := px_TM_le p2
  have hgm := (px_TK_kd hTK (show 0 ≤ g by omega) hlv).2.2
  have h10 := hI.fld 18 10 (by decide) rfl
  have sc : (px_ls t1 ∧ px_ls t2 → ∃ m, px_Sp (px_K b n) (s.1 18 11) g 0 m) ∧ (¬ (px_ls t1 ∧ px_ls t2) → px_Xp (px_K b n) (s.1 18 11) g 0) := by
    rw [pa]
    have s0 : px_Sp (px_K b n) a (a + 1) 0 0 := px_Sp_1 (by omega) (by omega) (by omega) (by omega) (by omega)
    obtain ⟨c1, c2⟩ := px_Sp_TM (n := 0) p1 (by omega)
    by_cases q1 : px_ls t1
    · obtain ⟨m, m1, m2⟩ := c1 q1
      have s1 : px_Sp (px_K b n) a (e + 1) 0 m := px_Sp_t s0 (px_Sp_t m2 (px_Sp_1 m1 (by omega) (by omega) (by omega) (by omega)))
      obtain ⟨c3, c4⟩ := px_Sp_TM (n := m) p2 m1
      refine ⟨fun q => ?_, fun q => px_Xp_r s1 (c4 (fun z => q ⟨q1, z⟩))⟩
      obtain ⟨m', _, m4⟩ := c3 q.2
      exact ⟨m', px_Sp_t s1 m4⟩
    · exact ⟨fun q => absurd q.1 q1, fun _ => px_Xp_l (px_Xp_r s0 (c2 q1)) (by omega)⟩
  obtain ⟨d, rfl⟩ : ∃ e, d = e + 2 := ⟨d - 2, by omega⟩
  have i1 : cx_I (sx_uf s.1 18 11 (s.1 18 11 + 1), s.2) := cx_I_uf rfl rfl hI (by omega) (by omega)
  have e1 : ((sx_uf s.1 18 11 (s.1 18 11 + 1), s.2) : sx_S).1 18 11 = a + 1 := px_uS.trans (by omega)
  have g0 : dz_G (s.1 11 6) s (sx_uf s.1 18 11 (s.1 18 11 + 1), s.2) := dz_G_uf i1 (hE trivial).2.2.2.1.1 rfl
  refine sx_methL (wr := true) (n := 400) (n' := 400) (stop := [(52, [0, 2]), (86, [0, 2, 3, 4, 5])]) (fun nn pc ls u => (pc = 52 ∧ ∃ x2, ls = [(0, .inr (.inl 18)), (2, .inl x2)] ∧ (s.1 18 10 < 4 ∧ px_ls t2) ∧ ((x2 = -1 ∧ cx_I u ∧ ∀ x, ¬ (px_wt (px_SN b n) C M t1).1 [] x) ∨ ∃ x W B V, B ≤ 3 * (e - (a + 1)) + 6 ∧ V ≤ 2 * (e - (a + 1)) + 2 ∧ dz_R b n C M t1 [] [] (sx_uf s.1 18 11 (s.1 18 11 + 1), s.2) u e B V x2 x W) ∧ nn = 2) ∨ (pc = 86 ∧ ∃ x2 x3 x4 x5, ls = [(0, .inr (.inl 18)), (2, .inl x2), (3, .inl x3), (4, .inl x4), (5, .inl x5)] ∧ s.1 18 10 < 4 ∧ (-2147483648 ≤ x4 ∧ x4 ≤ 2147483647) ∧ (0 ≤ x2 ∧ x2 ≤ 2000) ∧ (-2147483648 ≤ x3 ∧ x3 ≤ 2147483647) ∧ (∃ x, (px_wt (px_SN b n) C M t1).1 [] x ∧ ((x5 = -1 ∧ cx_I u ∧ ∀ x, ¬ (px_wt (px_SN b n) C M t2).1 [] x) ∨ ((0 ≤ x5 ∧ x5 ≤ 2000) ∧ dx_is u x x3 ∧ dz_G (s.1 11 6) s u ∧ u.1 18 11 = g ∧ (u.1 11 6 ≤ s.1 11 6 + 3 * (g + 1 - a) + 3 ∧ u.1 11 8 ≤ s.1 11 8 + 2 * (g + 1 - a) ∧ u.1 8 2 ≤ s.1 8 2 + (g + 1 - a)) ∧ ∃ y, (px_wt (px_SN b n) C M t2).1 [] y ∧ dx_is u y (u.1 18 12) ∧ ∃ W W', (W ≠ .leaf ∧ dz_T (s.1 11 6) u W x2) ∧ (W' ≠ .leaf ∧ dz_T (s.1 11 6) u W' x5) ∧ dl_mt b n C M (s.1 11 8) u W t1 [] [] x ∧ dl_mt b n C M (s.1 11 8) u W' t2 [] [] y))) ∧ nn = 1)) hsL (e := eX1_equation) rfl ?_ ?_
  · refine w_dq (Zs := px_ls t1 ∧ px_ls t2) (Z1 := fun z t => (s.1 18 10 < 4 ∧ px_ls t2) ∧ ((z = -1 ∧ cx_I t ∧ ∀ x, ¬ (px_wt (px_SN b n) C M t1).1 [] x) ∨ ∃ x W B V, B ≤ 3 * (e - (a + 1)) + 6 ∧ V ≤ 2 * (e - (a + 1)) + 2 ∧ dz_R b n C M t1 [] [] (sx_uf s.1 18 11 (s.1 18 11 + 1), s.2) t e B V z x W)) (c_dz_bl hsL (d + 1) (by omega)) hI (by omega) ?_ ?_ ?_ ?_
    · intro _ K q1 q2
      by_cases q : px_ls t1 ∧ px_ls t2
      · exact c_dz_large hsL (d + 1) (by omega) b n g s K hI hTK (by omega) hlv k14 (Or.inl (sc.1 q)) (fun _ => q1 q) (fun h => by
          obtain ⟨m, hm⟩ := sc.1 q
          exact (px_SX hm h).elim)
      · exact c_dz_large hsL (d + 1) (by omega) b n g s K hI hTK (by omega) hlv k14 (Or.inr (sc.2 q)) (fun ⟨m, hm⟩ => (px_SX hm (sc.2 q)).elim) (fun _ => q2 q)
    · intro q4 qs K hK'
      refine c_dz_term hsL b n C M 21 (by omega) (d + 1) (by omega) (a + 1) e 0 t1 [] [] _ K i1 (by omega) (by show (0 : Int) ≤ _; omega) e1 (by omega) p1 qs.1 (dz_E_G hE g0) (dz_SC_0 h9) (px_lv_le hlv (by omega)) ?_ (fun z t x W B V c1 c2 c3 => hK' z t ⟨⟨q4, qs.2⟩, Or.inr ⟨x, W, B, V, c1, c2, c3⟩⟩) (fun q t t1 _ => hK' _ t ⟨⟨q4, qs.2⟩, Or.inl ⟨rfl, t1, q⟩⟩)
      show s.1 11 6 + _ + _ ≤ _ ∧ s.1 11 8 + _ + _ ≤ _ ∧ s.1 8 2 + _ ≤ _
      omega
    · rintro z t ⟨hz1, hz2⟩
      exact ⟨2, Or.inl ⟨rfl, z, rfl, hz1, hz2, rfl⟩⟩
    · intro q u hu
      refine hX (fun ⟨z1, x, z2, z3⟩ => ?_) u hu
      rcases q with q | q
      · exact q z1
      · exact q ⟨px_TM_ls p1 z2, px_TM_ls p2 z3⟩
  · rintro nn pc ls u (⟨rfl, x2, rfl, ⟨q4, qs⟩, hU, rfl⟩ | ⟨rfl, x2, x3, x4, x5, rfl, q4, r4, r2, r3, ⟨x, wx, hU⟩, rfl⟩)
    · rcases hU with ⟨rfl, u1, u2⟩ | ⟨x, W, B, V, c1, c2, c3⟩
      · exact w_dq_52 (Z2 := fun _ _ => False) u1 (by omega) (fun q => absurd q (by decide)) (fun _ => hX (fun ⟨_, x, z, _⟩ => u2 x z) u u1) (fun q => absurd q (by decide)) (fun _ _ q => q.elim)
      · obtain ⟨b1, b2, b3, b4, ⟨b5, b6⟩, b7, b8, b9, b10⟩ := c3 trivial
        have b1' : dz_G (s.1 11 6) (sx_uf s.1 18 11 (s.1 18 11 + 1), s.2) u := b1
        have b8' : u.1 11 6 ≤ s.1 11 6 + B := b8
        have b9' : u.1 11 8 ≤ s.1 11 8 + V := b9
        rw [e1] at b10
        have b10' : u.1 8 2 ≤ s.1 8 2 + (e - (a + 1)) := b10
        have gu := dz_G_t b1' g0
        have uI := dz_G_I gu
        have uE := dz_E_G hE gu
        have u9 : u.1 18 9 = s.1 18 9 := (gu trivial).2.1 9 rfl
        have hz := dz_T_z b6 b5
        have u6 := uI.fld 11 6 (by decide) rfl
        have i2 : cx_I (sx_uf u.1 18 11 (u.1 18 11 + 1), u.2) := cx_I_uf rfl rfl uI (by omega) (by omega)
        have g2 : dz_G (s.1 11 6) u (sx_uf u.1 18 11 (u.1 18 11 + 1), u.2) := dz_G_uf i2 (dz_G_T gu) rfl
        have e2 : ((sx_uf u.1 18 11 (u.1 18 11 + 1), u.2) : sx_S).1 18 11 = e + 1 := px_uS.trans (by omega)
        refine w_dq_52 (Z2 := fun x5 t => (x5 = -1 ∧ cx_I t ∧ ∀ x, ¬ (px_wt (px_SN b n) C M t2).1 [] x) ∨ ((0 ≤ x5 ∧ x5 ≤ 2000) ∧ dx_is t x (u.1 18 12) ∧ dz_G (s.1 11 6) s t ∧ t.1 18 11 = g ∧ (t.1 11 6 ≤ s.1 11 6 + 3 * (g + 1 - a) + 3 ∧ t.1 11 8 ≤ s.1 11 8 + 2 * (g + 1 - a) ∧ t.1 8 2 ≤ s.1 8 2 + (g + 1 - a)) ∧ ∃ y, (px_wt (px_SN b n) C M t2).1 [] y ∧ dx_is t y (t.1 18 12) ∧ ∃ W W', (W ≠ .leaf ∧ dz_T (s.1 11 6) t W x2) ∧ (W' ≠ .leaf ∧ dz_T (s.1 11 6) t W' x5) ∧ dl_mt b n C M (s.1 11 8) t W t1 [] [] x ∧ dl_mt b n C M (s.1 11 8) t W' t2 [] [] y)) uI (by omega) (by omega) (fun q => by omega) ?_ ?_
        · intro _ K hK'
          refine c_dz_term hsL b n C M 21 (by omega) (d + 1) (by omega) (e + 1) g 0 t2 [] [] _ K i2 (by omega) (by show (0 : Int) ≤ _; omega) e2 (by omega) p2 qs (dz_E_G uE g2) (dz_SC_0 (u9.trans h9)) hlv ?_ (fun z t y W' B' V' d1 d2 d3 => hK' z t (Or.inr ?_)) (fun q t t1 _ => hK' _ t (Or.inl ⟨rfl, t1, q⟩))
          · show u.1 11 6 + _ + _ ≤ _ ∧ u.1 11 8 + _ + _ ≤ _ ∧ u.1 8 2 + _ ≤ _
            omega
          · obtain ⟨f1, f2, f3, f4, ⟨f5, f6⟩, f7, f8, f9, f10⟩ := d3 trivial
            have f8' : t.1 11 6 ≤ u.1 11 6 + B' := f8
            have f9' : t.1 11 8 ≤ u.1 11 8 + V' := f9
            rw [e2] at f10
            have f10' : t.1 8 2 ≤ u.1 8 2 + (g - (e + 1)) := f10
            have f1' : dz_G (u.1 11 6) (sx_uf u.1 18 11 (u.1 18 11 + 1), u.2) t := f1
            have su : s.1 11 6 ≤ u.1 11 6 := ((gu trivial).2.2.2.1 trivial).1
            have tI := dz_G_I f1
            have t6 := tI.fld 11 6 (by decide) rfl
            have hz' := dz_T_z f6 f5
            have b6' : dz_T (s.1 11 6) u W x2 := b6
            have f6' : dz_T (u.1 11 6) t W' z := f6
            have gt : dz_G (s.1 11 6) u t := dz_G_t (dz_G_lo f1' su) g2
            have u8 : s.1 11 8 ≤ u.1 11 8 := ((gu trivial).2.2.2.2.1).1
            exact ⟨by omega, dz_G_is f1 (dz_G_is g2 b4), dz_G_t (dz_G_lo f1' su) (dz_G_t g2 gu), f2, by omega, y, f3, f4, W, W', ⟨b5, dz_T_fr b6' (P := fun j => (j : Int) < u.1 11 6) (fun _ => (f1' trivial).2.2.2.1 trivial) (dz_T_lt b6')⟩, ⟨f5, dz_T_lo f6' su⟩, dl_mt_G gt (fun _ => b7.2 trivial), dl_mt_lo u8 (fun _ => f7.2 trivial)⟩
        · intro z t hz2
          have u11 := uI.fld 18 11 (by decide) rfl
          exact ⟨1, by omega, Or.inr ⟨rfl, x2, u.1 18 12, u.1 18 11, z, rfl, q4, u11, by omega, uI.fld 18 12 (by decide) rfl, ⟨x, b3, hz2⟩, rfl⟩⟩
    · rcases hU with ⟨rfl, u1, u2⟩ | ⟨r5, hx3, gu, u11, ⟨n6, n8, nt⟩, y, wy, hy, WL, WR, ⟨wl0, wlT⟩, ⟨wr0, wrT⟩, wlm, wrm⟩
      · exact w_dq_86 (c_dz_bl hsL (d + 1) (by omega)) u1 (fun q => absurd q (by decide)) (fun q => absurd q (by decide)) r4 r2 r3 (by omega) (fun _ => hX (fun ⟨_, x, _, z⟩ => u2 x z) u u1) (fun q => absurd q (by decide)) (fun q => absurd q (by decide))
      · have uI := dz_G_I gu
        have uE := dz_E_G hE gu
        have u9 : u.1 18 9 = s.1 18 9 := (gu trivial).2.1 9 rfl
        have u10 : u.1 18 10 = s.1 18 10 := (gu trivial).2.1 10 rfl
        have u25 : u.1 2 5 = s.1 2 5 := congrFun ((gu trivial).1.2.same 2 rfl).1 5
        refine w_dq_86 (c_dz_bl hsL (d + 1) (by omega)) uI (by omega) (by omega) r4 r2 r3 (by omega) (fun q => by omega) ?_ ?_
        · intro _ hne t ht
          refine hX (fun ⟨_, x', z1, z2⟩ => hne ?_) t ht
          have a1 := px_wt_fun.1 z1 wx
          have a2 := px_wt_fun.1 z2 wy
          rw [← a2, a1] at hy
          exact dx_inj (dz_G_T gu) hy hx3
        · intro _ heq
          rw [heq] at hy
          have exy : y = x := qx_ty_fun hy hx3
          subst exy
          have F2 : cx_F [(18, 18), (25, 26)] u ((sx_uf (sx_uf u.1 18 11 (u.1 18 11 + 1)) 18 10 (u.1 18 10 + 1), sx_ua (sx_ua u.2.1 26 (2 * u.1 18 10).toNat x2) 26 (2 * u.1 18 10 + 1).toNat x5, u.2.2) : sx_S) := cx_F_uf rfl (cx_F_uf rfl (cx_F_ua rfl (cx_F_ua rfl (cx_F_refl _ _))))
          refine hK _ ⟨q4, y, wx, wy⟩ (fun _ => ⟨cx_I_uf rfl rfl (cx_I_uf rfl rfl (cx_I_ua rfl rfl (cx_I_ua rfl rfl uI (by omega) (by omega)) (by omega) (by omega)) (by omega) (by omega)) (by omega) (by omega), ?_, u9, u25.symm, ?_, ?_, ?_⟩) ?_ (dz_E_F uE F2) ?_
          · show sx_uf u.1 18 11 (u.1 18 11 + 1) 18 11 = _
            rw [px_us]
            omega
          · show u.1 11 6 ≤ _
            omega
          · show u.1 11 8 ≤ _
            omega
          · show u.1 8 2 ≤ _
            omega
          · show sx_uf (sx_uf u.1 18 11 (u.1 18 11 + 1)) 18 10 (u.1 18 10 + 1) 18 10 = _
            rw [px_us]
            omega
          · have n26 : ∀ j : Nat, ((sx_uf (sx_uf u.1 18 11 (u.1 18 11 + 1)) 18 10 (u.1 18 10 + 1), sx_ua (sx_ua u.2.1 26 (2 * u.1 18 10).toNat x2) 26 (2 * u.1 18 10 + 1).toNat x5, u.2.2) : sx_S).2.1 26 j = if j = (2 * u.1 18 10 + 1).toNat then x5 else if j = (2 * u.1 18 10).toNat then x2 else u.2.1 26 j := fun j => by
              show sx_ua (sx_ua u.2.1 26 (2 * u.1 18 10).toNat x2) 26 (2 * u.1 18 10 + 1).toNat x5 26 j = _
              rw [sx_ua_if, if_pos rfl]
              by_cases q1 : j = (2 * u.1 18 10 + 1).toNat
              · rw [if_pos q1, if_pos q1]
              · rw [if_neg q1, if_neg q1, sx_ua_if, if_pos rfl]
            have r10 := uI.fld 18 10 (by decide) rfl
            have s26 : u.2.1 26 = s.2.1 26 := ((gu trivial).1.2.same 26 rfl).2
            have fr0 : dz_fr (fun _ => True) u ((sx_uf (sx_uf u.1 18 11 (u.1 18 11 + 1)) 18 10 (u.1 18 10 + 1), sx_ua (sx_ua u.2.1 26 (2 * u.1 18 10).toNat x2) 26 (2 * u.1 18 10 + 1).toNat x5, u.2.2) : sx_S) := fun _ => ⟨by rw [(F2.same 11 rfl).1]; exact Int.le_refl _, fun j _ => by
              rw [(F2.same 12 rfl).2, (F2.same 13 rfl).2, (F2.same 14 rfl).2, (F2.same 15 rfl).2, (F2.same 16 rfl).2]
              exact ⟨rfl, rfl, rfl, rfl, rfl⟩⟩
            have tv : ∀ v T, dl_TV u v T → dl_TV ((sx_uf (sx_uf u.1 18 11 (u.1 18 11 + 1)) 18 10 (u.1 18 10 + 1), sx_ua (sx_ua u.2.1 26 (2 * u.1 18 10).toNat x2) 26 (2 * u.1 18 10 + 1).toNat x5, u.2.2) : sx_S) v T := fun v T ⟨h1, h2, h3⟩ => ⟨h1, by rw [(F2.same 11 rfl).1]; exact h2, by
              rw [(F2.same 17 rfl).2]
              have h3' : qx_ty (u.2.1 9) (u.2.1 10) (u.1 8 2) T (u.2.1 17 v.toNat) := h3
              show qx_ty _ _ _ T _
              rw [(F2.same 9 rfl).2, (F2.same 10 rfl).2, (F2.same 8 rfl).1]
              exact h3'⟩
            have mtk : ∀ {W : rf_N} {nn : px_N}, dl_mt b n C M (s.1 11 8) u W nn [] [] y → dl_mt b n C M (s.1 11 8) ((sx_uf (sx_uf u.1 18 11 (u.1 18 11 + 1)) 18 10 (u.1 18 10 + 1), sx_ua (sx_ua u.2.1 26 (2 * u.1 18 10).toNat x2) 26 (2 * u.1 18 10 + 1).toNat x5, u.2.2) : sx_S) W nn [] [] y := fun {W nn} h _ => by
              obtain ⟨a1, a2, a3⟩ := h trivial
              exact ⟨by rw [(F2.same 11 rfl).1]; exact a1, a2, fun AR hA => (vl_tm_mono tv).1 (a3 AR hA)⟩
            refine fun _ => ⟨⟨WL, WR, y, ⟨wl0, ?_⟩, ⟨wr0, ?_⟩, mtk wlm, mtk wrm⟩, dz_fr_t (dz_fr_w fr0 (fun _ _ => trivial)) ((gu trivial).2.2.2.1) (fun _ q => q), ?_, ?_, fun j j1 j2 => ?_⟩
            · rw [n26, if_neg (by omega), if_pos (by rw [u10])]
              exact dz_T_fr wlT fr0 (fun _ _ => trivial)
            · rw [n26, if_pos (by rw [u10])]
              exact dz_T_fr wrT fr0 (fun _ _ => trivial)
            · rw [(F2.same 11 rfl).1, (F2.same 17 rfl).2]
              exact (gu trivial).2.2.2.2.1
            · intro j
              have q := (gu trivial).2.2.1.2 j
              rw [(F2.same 8 rfl).1, (F2.same 9 rfl).2, (F2.same 10 rfl).2]
              exact q
            · rw [n26, if_neg (by rw [u10]; exact j2), if_neg (by rw [u10]; exact j1), s26]
