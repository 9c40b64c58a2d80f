/-! ===== what is loaded is a text for the solver ===== -/
theorem vx_hz_idx : ∀ A : rf_N, vx_hz A ≤ (rf_idx A).length
  | .leaf => Nat.le_refl _
  | .inner j q u F X => by
    have hF := vx_hz_idx F
    have hX := vx_hz_idx X
    show (if q.1 = 3 then 1 else vx_hz F + 1) + vx_hz X ≤ (j :: (rf_idx F ++ rf_idx X)).length
    rw [List.length_cons, List.length_append]
    split <;> omega
theorem dl_len {l : List Nat} {N : Int} (hN : 0 ≤ N) (h : l.Nodup) (hl : ∀ j ∈ l, (j : Int) < N) : (l.length : Int) ≤ N := by
  have h1 : (l.map (fun j : Nat => (j : Int))).Nodup := List.Pairwise.map _ (fun a b q e => q (by omega)) h
  have h2 := vx_ls_1 (n := N.toNat) h1 (fun x hx => by
    obtain ⟨j, hj, rfl⟩ := List.mem_map.mp hx
    have := hl j hj
    omega)
  rw [List.length_map] at h2
  omega
theorem vl_mf_5 {SN : Int → Int → Prop} : ∀ {l : List vl_I} {C M : List (Int × qx_T)} {e : Nat}, px_ck SN l C M e → M.length ≤ 5 → e ≤ 4 → (vl_mf l M).length ≤ 5 ∧ (vl_eq l C M).length + e ≤ 4
  | [], _, _, _, _, h, h' => ⟨h, by show 0 + _ ≤ 4; omega⟩
  | q :: l, C, M, e, h, hM, he => by
    rcases h with ⟨k, _, _, _, h5, h⟩ | ⟨k, h4, _, _, h5, h⟩ | ⟨k, h4, hw, h⟩
    · have e1 : vl_eq (q :: l) C M = vl_eq l (C ++ [q.1.2]) M := by
        show (if q.1.1 = 3 then _ else _) = _
        rw [if_pos k]
      have e3 : vl_mf (q :: l) M = vl_mf l M := by
        show (if q.1.1 = 4 then _ else _) = _
        rw [if_neg (by omega)]
      rw [e1, e3]
      exact vl_mf_5 h hM he
    · have e1 : vl_eq (q :: l) C M = vl_eq l C (M ++ [q.1.2]) := by
        show (if q.1.1 = 3 then _ else if q.1.1 = 4 then _ else _) = _
        rw [if_neg (by omega), if_pos k]
      have e3 : vl_mf (q :: l) M = vl_mf l (M ++ [q.1.2]) := by
        show (if q.1.1 = 4 then _ else _) = _
        rw [if_pos k]
      rw [e1, e3]
      exact vl_mf_5 h (by rw [List.length_append, List.length_singleton]; omega) he
    · have e1 : vl_eq (q :: l) C M = ((C, M), q.2) :: vl_eq l C M := by
        show (if q.1.1 = 3 then _ else if q.1.1 = 4 then _ else _) = _
        rw [if_neg (by omega), if_neg (by omega)]
      have e3 : vl_mf (q :: l) M = vl_mf l M := by
        show (if q.1.1 = 4 then _ else _) = _
        rw [if_neg (by omega)]
      rw [e1, e3, List.length_cons]
      have := vl_mf_5 h hM (by omega)
      exact ⟨this.1, by omega⟩
theorem dl_X {bb b : Nat → Int} {n : Int} {t : sx_S} {l : List vl_I} (hI : cx_I t) (hn : 0 ≤ n) (hX : vl_TX (px_K b n) l 0) (hck : px_ck (px_SN b n) l [] [] 0) (hE : dz_E bb n (vl_kf l []) (vl_mf l []) t) (hpr : dl_pr b n (vl_eq l [] []) t) (h6 : t.1 11 6 ≤ 960) (h10 : t.1 18 10 = ((vl_eq l [] []).length : Int)) : ∃ tl, dv_X (dl_tv t) (dl_tc (vl_kf l [])) (dl_tm (vl_mf l [])) t (dl_ra (vl_mf l [])) (dl_AR t) tl ∧ vl_tx (px_SN b n) (dl_TV t) (dl_AR t) l [] [] tl ∧ ∀ q ∈ tl, (∀ m, vx_mt m q.1 ∨ vx_mt m q.2 → 0 ≤ m ∧ m < ((vl_mf l []).length : Int)) ∧ (vx_ok (dl_ra (vl_mf l [])) (dl_AR t) q.1 ∧ vx_ok (dl_ra (vl_mf l [])) (dl_AR t) q.2) := by
  obtain ⟨_, E2, E3, _, E6, E7⟩ := hE trivial
  have lM := (E3 trivial).1
  obtain ⟨m5, e4⟩ := vl_mf_5 hck (by show 0 ≤ 5; decide) (by decide)
  have f6 := hI.fld 11 6 (by decide) rfl
  have hin := vl_eq_in hck (fun _ h => absurd h List.not_mem_nil) (fun _ h => absurd h List.not_mem_nil)
  obtain ⟨tl, t1, t2⟩ := dl_list (o := 0) (P := fun k p (y : rf_N × rf_N) => ∃ x, (y.1 ≠ .leaf ∧ dz_T 0 t y.1 (t.2.1 26 (2 * k))) ∧ (y.2 ≠ .leaf ∧ dz_T 0 t y.2 (t.2.1 26 (2 * k + 1))) ∧ dl_mt b n p.1.1 p.1.2 0 t y.1 p.2.1 [] [] x ∧ dl_mt b n p.1.1 p.1.2 0 t y.2 p.2.2 [] [] x) (E := vl_eq l [] []) (fun k p hk => by
    obtain ⟨L, R, x, a⟩ := hpr trivial k p hk
    exact ⟨(L, R), x, by rw [Nat.zero_add]; exact a⟩)
  have tx : vl_tx (px_SN b n) (dl_TV t) (dl_AR t) l [] [] tl := vl_tx_mk hck t1 (fun k p hk => by
    obtain ⟨y, y1, x, ⟨_, a1⟩, ⟨_, a2⟩, a3, a4⟩ := t2 k p hk
    obtain ⟨n1, r1, _⟩ := a1 trivial
    obtain ⟨n2, r2, _⟩ := a2 trivial
    exact ⟨y.1, y.2, x, y1, (a3 trivial).2.2 _ (dl_AR_ar n1 r1), (a4 trivial).2.2 _ (dl_AR_ar n2 r2)⟩)
  obtain ⟨_, _, _, _, _, hb, _⟩ := vl_text (D := []) (o := fun _ => 0) (AR := dl_AR t) List.Pairwise.nil (vl_P5_ps (b := b) hn) (Int.le_refl _) hX hck tx (fun _ h => absurd h List.not_mem_nil) (fun _ h => absurd h List.not_mem_nil) (fun _ _ _ => Or.inl (Nat.zero_le _)) (fun _ h => absurd h List.not_mem_nil)
  -- one side
  have side : ∀ {k : Nat} {C M : List (Int × qx_T)} {nn : px_N} {W : rf_N} {z : Int} {x : qx_T}, (∀ (i : Nat) q, C[i]? = some q → (vl_kf l [])[i]? = some q) → (∀ (i : Nat) q, M[i]? = some q → (vl_mf l [])[i]? = some q) → (∀ q ∈ C, qx_at q.2 ≤ 5) → (∀ q ∈ M, qx_at q.2 ≤ 5) → (∃ y, (px_wt (px_SN b n) C M nn).1 [] y) → dz_T 0 t W z → dl_mt b n C M 0 t W nn [] [] x → (vx_lh W ≤ 67 ∧ vx_hh W ≤ 26) → dv_at t (dl_AR t) W z ∧ dv_s1 (dl_tv t) (dl_tc (vl_kf l [])) (dl_tm (vl_mf l [])) (dv_S0 t (dl_ra (vl_mf l [])) (dl_AR t)) (qx_sh x) W ∧ (∀ m, vx_mt m W → 0 ≤ m ∧ m < ((vl_mf l []).length : Int)) ∧ vx_ok (dl_ra (vl_mf l [])) (dl_AR t) W := by
    intro k C M nn W z x pC pM c5 m5' hw hT hm hlh
    obtain ⟨y, hw⟩ := hw
    have lt := dz_T_lt hT
    obtain ⟨nd, ar, ndp, _, _⟩ := hT trivial
    obtain ⟨nb, sg, tm⟩ := hm trivial
    have hA := dl_AR_ar nd ar
    have htm := tm _ hA
    have vE := dl_vE (t := t) pC pM
    obtain ⟨_, ty, fv, mt, ok⟩ := (vl_tm_all (P := vx_U (dv_S0 t (dl_ra (vl_mf l [])) (dl_AR t))) vE).1 (Γ := []) (ρ := []) ⟨rfl, fun _ h => absurd h (Nat.not_lt_zero _)⟩ htm
    have tr := (vl_tm_tr (A16 := t.2.1 16) c5 m5').1 (Γ := []) (ρ := []) (fun _ h => absurd h List.not_mem_nil) rfl List.Pairwise.nil (fun _ h => absurd h List.not_mem_nil) htm hw ar hA
    have lMM : M.length ≤ (vl_mf l []).length := by
      apply Classical.byContradiction
      intro q
      have := pM (M.length - 1) _ (List.getElem?_eq_getElem (by omega))
      have := (List.getElem?_eq_some_iff.mp this).1
      omega
    have mt' : ∀ m, vx_mt m W → 0 ≤ m ∧ m < ((vl_mf l []).length : Int) := fun m hm => by
      have := mt m hm
      omega
    refine ⟨?_, fun _ => ⟨⟨⟨fun m hm => ?_, fun j hj => lt j hj, ok⟩, sg, ty⟩, fun z hz => absurd (fv z hz) List.not_mem_nil, vx_nb_mono (fun _ h => h.elim) nb, hlh.1, hlh.2, ?_⟩, mt', ok⟩
    · obtain ⟨j, kk, h, F, rfl⟩ := sg
      obtain ⟨⟨a1, a2⟩, ⟨a3, a4⟩, a5, _⟩ := nd
      exact ⟨j, kk, h, F, rfl, ⟨a1, a2⟩, ⟨a3, a4⟩, a5, tr⟩
    · have := mt' m hm
      show 0 ≤ m ∧ m < t.1 22 2
      omega
    · have h1 := vx_hz_idx W
      have h2 := dl_len f6.1 ndp lt
      omega
  have key : ∀ (k : Nat) A B, tl[k]? = some (A, B) → ((dv_at t (dl_AR t) A (t.2.1 26 (2 * k)) ∧ dv_at t (dl_AR t) B (t.2.1 26 (2 * k + 1))) ∧ ∃ ty, dv_s1 (dl_tv t) (dl_tc (vl_kf l [])) (dl_tm (vl_mf l [])) (dv_S0 t (dl_ra (vl_mf l [])) (dl_AR t)) ty A ∧ dv_s1 (dl_tv t) (dl_tc (vl_kf l [])) (dl_tm (vl_mf l [])) (dv_S0 t (dl_ra (vl_mf l [])) (dl_AR t)) ty B) ∧ (∀ m, vx_mt m A ∨ vx_mt m B → 0 ≤ m ∧ m < ((vl_mf l []).length : Int)) ∧ (vx_ok (dl_ra (vl_mf l [])) (dl_AR t) A ∧ vx_ok (dl_ra (vl_mf l [])) (dl_AR t) B) := fun k A B hk => by
    have hk' : k < (vl_eq l [] []).length := by
      rw [← t1]
      exact (List.getElem?_eq_some_iff.mp hk).1
    obtain ⟨y, y1, x, ⟨_, a1⟩, ⟨_, a2⟩, a3, a4⟩ := t2 k _ (List.getElem?_eq_getElem hk')
    rw [hk] at y1
    have ey : (A, B) = y := Option.some.inj y1
    subst ey
    rw [Nat.zero_add] at a1 a2
    obtain ⟨⟨p1, p2⟩, ⟨p3, p4⟩, x', w1, w2⟩ := hin _ (List.getElem_mem hk')
    obtain ⟨b1, b2⟩ := hb (A, B) (List.mem_of_getElem? hk)
    obtain ⟨s1, s2, s3, s4⟩ := side (k := k) p1 p2 p3 p4 ⟨x', w1⟩ a1 a3 b1
    obtain ⟨r1, r2, r3, r4⟩ := side (k := k) p1 p2 p3 p4 ⟨x', w2⟩ a2 a4 b2
    exact ⟨⟨⟨s1, r1⟩, qx_sh x, s2, r2⟩, fun m hm => hm.elim (s3 m) (r3 m), s4, r4⟩
  refine ⟨tl, fun _ => ⟨by omega, dl_ra_4 E7, h6, ⟨by rw [h10, t1], by omega⟩, fun k A B hk => (key k A B hk).1⟩, tx, fun q hq => ?_⟩
  obtain ⟨i, hi⟩ := List.mem_iff_getElem?.mp hq
  exact (key i q.1 q.2 hi).2
