/-! ===== types of variables: one that is none of the text has a type that is too large ===== -/
abbrev dl_hu : rf_T := rf_a rf_b (rf_a rf_b (rf_a rf_b (rf_a rf_b (rf_a rf_b rf_b))))
noncomputable def dl_tw (t : sx_S) (v : Int) : rf_T := @dite rf_T (∃ T, dl_TV t v T) (Classical.propDecidable _) (fun h => qx_sh (Classical.choose h)) (fun _ => dl_hu)
theorem dl_tw_tv {t : sx_S} {v : Int} (h : ∃ T, dl_TV t v T) : dl_tw t v = dl_tv t v := by
  unfold dl_tw dl_tv
  rw [dif_pos h, dif_pos h]
theorem dl_tw_eq {t : sx_S} {v : Int} {T : qx_T} (h : dl_TV t v T) : dl_tw t v = qx_sh T := by
  rw [dl_tw_tv ⟨T, h⟩]
  exact dl_tv_eq h
theorem dl_tw_5 {t : sx_S} {v : Int} (h : rf_at (dl_tw t v) ≤ 5) : ∃ T, dl_TV t v T ∧ dl_tw t v = qx_sh T := by
  by_cases c : ∃ T, dl_TV t v T
  · obtain ⟨T, hT⟩ := c
    exact ⟨T, hT, dl_tw_eq hT⟩
  · exfalso
    unfold dl_tw at h
    rw [dif_neg c] at h
    exact absurd h (by decide)
/-- what is in memory of such a variable -/
theorem dl_tw_ty {t : sx_S} {v : Int} (h : rf_at (dl_tw t v) ≤ 5) : (0 ≤ v ∧ v < t.1 11 8) ∧ wk_ty t (dl_tw t v) (t.2.1 17 v.toNat) := by
  obtain ⟨T, hT, e⟩ := dl_tw_5 h
  refine ⟨⟨hT.1, hT.2.1⟩, ?_⟩
  rw [e]
  exact wk_ty_dx hT.2.2
theorem dl_tc_5 {C : List (Int × qx_T)} (h : ∀ q ∈ C, qx_at q.2 ≤ 5) (i : Int) : rf_at (dl_tc C i) ≤ 5 := by
  unfold dl_tc
  cases e : C[i.toNat]? with
  | none => exact show rf_at rf_b ≤ 5 by decide
  | some q =>
    have h1 := h q (List.mem_of_getElem? e)
    have h2 := rf_at_sh q.2
    show rf_at (qx_sh q.2) ≤ 5
    omega
theorem dl_wE {t : sx_S} {C M Cf Mf : List (Int × qx_T)} (hC : ∀ (i : Nat) q, C[i]? = some q → Cf[i]? = some q) (hM : ∀ (i : Nat) q, M[i]? = some q → Mf[i]? = some q) : vl_E (dl_tw t) (dl_tc Cf) (dl_tm Mf) (dl_ra Mf) C M (dl_TV t) := by
  refine ⟨fun v T h => dl_tw_eq h, fun i q h => ?_, fun i q h => ⟨?_, fun a => ?_⟩⟩
  · unfold dl_tc
    rw [Int.toNat_natCast, hC i q h]
    rfl
  · unfold dl_ra
    rw [Int.toNat_natCast, hM i q h]
    rfl
  · unfold dl_tm
    rw [Int.toNat_natCast, hM i q h]
    rfl
theorem dl_Xw {bb b : Nat → Int} {n : Int} {t : sx_S} {l : List vl_I} (hI : cx_I t) (hn : 0 ≤ n) (hX : vl_TX (px_K b n) l 0) (hck : px_ck (px_SN b n) l [] [] 0) (hE : dz_E bb n (vl_kf l []) (vl_mf l []) t) (hpr : dl_pr b n (vl_eq l [] []) t) (h6 : t.1 11 6 ≤ 960) (h10 : t.1 18 10 = ((vl_eq l [] []).length : Int)) : ∃ tl, dv_X (dl_tw t) (dl_tc (vl_kf l [])) (dl_tm (vl_mf l [])) t (dl_ra (vl_mf l [])) (dl_AR t) tl ∧ vl_tx (px_SN b n) (dl_TV t) (dl_AR t) l [] [] tl ∧ ∀ q ∈ tl, (∀ m, vx_mt m q.1 ∨ vx_mt m q.2 → 0 ≤ m ∧ m < ((vl_mf l []).length : Int)) ∧ (vx_ok (dl_ra (vl_mf l [])) (dl_AR t) q.1 ∧ vx_ok (dl_ra (vl_mf l [])) (dl_AR t) q.2) ∧ ∃ ty, wk_tb ty ∧ (vx_ty (dl_tw t) (dl_tc (vl_kf l [])) (dl_tm (vl_mf l [])) (dl_AR t) q.1).1 ty ∧ (vx_ty (dl_tw t) (dl_tc (vl_kf l [])) (dl_tm (vl_mf l [])) (dl_AR t) q.2).1 ty := by
  obtain ⟨_, E2, E3, _, E6, E7⟩ := hE trivial
  have lM := (E3 trivial).1
  obtain ⟨m5, e4⟩ := vl_mf_5 hck (by show 0 ≤ 5; decide) (by decide)
  have f6 := hI.fld 11 6 (by decide) rfl
  have hin := vl_eq_in hck (fun _ h => absurd h List.not_mem_nil) (fun _ h => absurd h List.not_mem_nil)
  obtain ⟨tl, t1, t2⟩ := dl_list (o := 0) (P := fun k p (y : rf_N × rf_N) => ∃ x, (y.1 ≠ .leaf ∧ dz_T 0 t y.1 (t.2.1 26 (2 * k))) ∧ (y.2 ≠ .leaf ∧ dz_T 0 t y.2 (t.2.1 26 (2 * k + 1))) ∧ dl_mt b n p.1.1 p.1.2 0 t y.1 p.2.1 [] [] x ∧ dl_mt b n p.1.1 p.1.2 0 t y.2 p.2.2 [] [] x) (E := vl_eq l [] []) (fun k p hk => by
    obtain ⟨L, R, x, a⟩ := hpr trivial k p hk
    exact ⟨(L, R), x, by rw [Nat.zero_add]; exact a⟩)
  have tx : vl_tx (px_SN b n) (dl_TV t) (dl_AR t) l [] [] tl := vl_tx_mk hck t1 (fun k p hk => by
    obtain ⟨y, y1, x, ⟨_, a1⟩, ⟨_, a2⟩, a3, a4⟩ := t2 k p hk
    obtain ⟨n1, r1, _⟩ := a1 trivial
    obtain ⟨n2, r2, _⟩ := a2 trivial
    exact ⟨y.1, y.2, x, y1, (a3 trivial).2.2 _ (dl_AR_ar n1 r1), (a4 trivial).2.2 _ (dl_AR_ar n2 r2)⟩)
  obtain ⟨_, _, _, _, _, hb, _⟩ := vl_text (D := []) (o := fun _ => 0) (AR := dl_AR t) List.Pairwise.nil (vl_P5_ps (b := b) hn) (Int.le_refl _) hX hck tx (fun _ h => absurd h List.not_mem_nil) (fun _ h => absurd h List.not_mem_nil) (fun _ _ _ => Or.inl (Nat.zero_le _)) (fun _ h => absurd h List.not_mem_nil)
  -- one side
  have side : ∀ {k : Nat} {C M : List (Int × qx_T)} {nn : px_N} {W : rf_N} {z : Int} {x : qx_T}, (∀ (i : Nat) q, C[i]? = some q → (vl_kf l [])[i]? = some q) → (∀ (i : Nat) q, M[i]? = some q → (vl_mf l [])[i]? = some q) → (∀ q ∈ C, qx_at q.2 ≤ 5) → (∀ q ∈ M, qx_at q.2 ≤ 5) → (∃ y, (px_wt (px_SN b n) C M nn).1 [] y) → dz_T 0 t W z → dl_mt b n C M 0 t W nn [] [] x → (vx_lh W ≤ 67 ∧ vx_hh W ≤ 26) → dv_at t (dl_AR t) W z ∧ dv_s1 (dl_tw t) (dl_tc (vl_kf l [])) (dl_tm (vl_mf l [])) (dv_S0 t (dl_ra (vl_mf l [])) (dl_AR t)) (qx_sh x) W ∧ (∀ m, vx_mt m W → 0 ≤ m ∧ m < ((vl_mf l []).length : Int)) ∧ vx_ok (dl_ra (vl_mf l [])) (dl_AR t) W := by
    intro k C M nn W z x pC pM c5 m5' hw hT hm hlh
    obtain ⟨y, hw⟩ := hw
    have lt := dz_T_lt hT
    obtain ⟨nd, ar, ndp, _, _⟩ := hT trivial
    obtain ⟨nb, sg, tm⟩ := hm trivial
    have hA := dl_AR_ar nd ar
    have htm := tm _ hA
    have vE := dl_wE (t := t) pC pM
    obtain ⟨_, ty, fv, mt, ok⟩ := (vl_tm_all (P := vx_U (dv_S0 t (dl_ra (vl_mf l [])) (dl_AR t))) vE).1 (Γ := []) (ρ := []) ⟨rfl, fun _ h => absurd h (Nat.not_lt_zero _)⟩ htm
    have tr := (vl_tm_tr (A16 := t.2.1 16) c5 m5').1 (Γ := []) (ρ := []) (fun _ h => absurd h List.not_mem_nil) rfl List.Pairwise.nil (fun _ h => absurd h List.not_mem_nil) htm hw ar hA
    have lMM : M.length ≤ (vl_mf l []).length := by
      apply Classical.byContradiction
      intro q
      have := pM (M.length - 1) _ (List.getElem?_eq_getElem (by omega))
      have := (List.getElem?_eq_some_iff.mp this).1
      omega
    have mt' : ∀ m, vx_mt m W → 0 ≤ m ∧ m < ((vl_mf l []).length : Int) := fun m hm => by
      have := mt m hm
      omega
    refine ⟨?_, fun _ => ⟨⟨⟨fun m hm => ?_, fun j hj => lt j hj, ok⟩, sg, ty⟩, fun z hz => absurd (fv z hz) List.not_mem_nil, vx_nb_mono (fun _ h => h.elim) nb, hlh.1, hlh.2, ?_⟩, mt', ok⟩
    · obtain ⟨j, kk, h, F, rfl⟩ := sg
      obtain ⟨⟨a1, a2⟩, ⟨a3, a4⟩, a5, _⟩ := nd
      exact ⟨j, kk, h, F, rfl, ⟨a1, a2⟩, ⟨a3, a4⟩, a5, tr⟩
    · have := mt' m hm
      show 0 ≤ m ∧ m < t.1 22 2
      omega
    · have h1 := vx_hz_idx W
      have h2 := dl_len f6.1 ndp lt
      omega
  have key : ∀ (k : Nat) A B, tl[k]? = some (A, B) → ((dv_at t (dl_AR t) A (t.2.1 26 (2 * k)) ∧ dv_at t (dl_AR t) B (t.2.1 26 (2 * k + 1))) ∧ ∃ ty, dv_s1 (dl_tw t) (dl_tc (vl_kf l [])) (dl_tm (vl_mf l [])) (dv_S0 t (dl_ra (vl_mf l [])) (dl_AR t)) ty A ∧ dv_s1 (dl_tw t) (dl_tc (vl_kf l [])) (dl_tm (vl_mf l [])) (dv_S0 t (dl_ra (vl_mf l [])) (dl_AR t)) ty B) ∧ (∀ m, vx_mt m A ∨ vx_mt m B → 0 ≤ m ∧ m < ((vl_mf l []).length : Int)) ∧ (vx_ok (dl_ra (vl_mf l [])) (dl_AR t) A ∧ vx_ok (dl_ra (vl_mf l [])) (dl_AR t) B) ∧ ∃ ty, wk_tb ty ∧ (vx_ty (dl_tw t) (dl_tc (vl_kf l [])) (dl_tm (vl_mf l [])) (dl_AR t) A).1 ty ∧ (vx_ty (dl_tw t) (dl_tc (vl_kf l [])) (dl_tm (vl_mf l [])) (dl_AR t) B).1 ty := fun k A B hk => by
    have hk' : k < (vl_eq l [] []).length := by
      rw [← t1]
      exact (List.getElem?_eq_some_iff.mp hk).1
    obtain ⟨y, y1, x, ⟨_, a1⟩, ⟨_, a2⟩, a3, a4⟩ := t2 k _ (List.getElem?_eq_getElem hk')
    rw [hk] at y1
    have ey : (A, B) = y := Option.some.inj y1
    subst ey
    rw [Nat.zero_add] at a1 a2
    obtain ⟨⟨p1, p2⟩, ⟨p3, p4⟩, x', w1, w2⟩ := hin _ (List.getElem_mem hk')
    obtain ⟨b1, b2⟩ := hb (A, B) (List.mem_of_getElem? hk)
    have tb : wk_tb (qx_sh x) := by
      obtain ⟨nd', ar', _⟩ := a1 trivial
      exact vl_tm_tb p3 p4 (Γ := []) (fun _ h => absurd h List.not_mem_nil) ((a3 trivial).2.2 _ (dl_AR_ar nd' ar'))
    obtain ⟨s1, s2, s3, s4⟩ := side (k := k) p1 p2 p3 p4 ⟨x', w1⟩ a1 a3 b1
    obtain ⟨r1, r2, r3, r4⟩ := side (k := k) p1 p2 p3 p4 ⟨x', w2⟩ a2 a4 b2
    exact ⟨⟨⟨s1, r1⟩, qx_sh x, s2, r2⟩, fun m hm => hm.elim (s3 m) (r3 m), ⟨s4, r4⟩, qx_sh x, tb, (s2 trivial).1.2.2, (r2 trivial).1.2.2⟩
  refine ⟨tl, fun _ => ⟨by omega, dl_ra_4 E7, h6, ⟨by rw [h10, t1], by omega⟩, fun k A B hk => (key k A B hk).1⟩, tx, fun q hq => ?_⟩
  obtain ⟨i, hi⟩ := List.mem_iff_getElem?.mp hq
  exact (key i q.1 q.2 hi).2
