section
/-! ===== the types of the unknowns stay: solving ===== -/
theorem c_dx_un {tv tc : Int → rf_T} {tm : Int → Int → rf_T} {sL : Nat} {sx : Nat → Int32} (hsL : sL ≤ 3072) (d : Nat) (hd : 12 ≤ d) : ∀ (ar : Int → Int) (AR : Nat → List Int) (l : vw_L) (s : sx_S) (K : Int → sx_S → Prop), cx_I s → dv_X tv tc tm s ar AR l → (∀ S th, vx_le (dv_S0 s ar AR) S → vx_So S th → dv_Q AR l th → vw_B l S → (∀ u B e, S.2.2.2.1 u = some (B, e) → ¬ vx_isl B) → vw_F S l < 1000000) → (∀ t, ¬ dv_sat (s.1 22 2) ar (dv_Q AR l) → K 0 t) → (∀ t S PR tm', dx_tm (dv_S0 s ar AR) tm tm' → dv_G tv tc (s.1 22 2) (dv_Q AR l) t S PR tm' [] [] → vx_le (dv_S0 s ar AR) S → dx_fr s t → vw_B l S → K 1 t) → sx_C sL sx d 70 [.inr (.inl 38), .inr (.inl 18)] s K := by
  intro ar AR l s K hI hX hcap hK0 hK1
  obtain ⟨x1, x2, x3, ⟨x4, x5⟩, x6⟩ := hX trivial
  have x6' : ∀ q ∈ l, ∃ t, dv_s1 tv tc tm (dv_S0 s ar AR) t q.1 ∧ dv_s1 tv tc tm (dv_S0 s ar AR) t q.2 := fun q hq => by
    obtain ⟨i, hi, e⟩ := List.getElem_of_mem hq
    exact (x6 i q.1 q.2 (by rw [List.getElem?_eq_getElem hi, e])).2
  have hmt : ∀ q ∈ l, (∀ m, vx_mt m q.1 → 0 ≤ m ∧ m < s.1 22 2) ∧ ∀ m, vx_mt m q.2 → 0 ≤ m ∧ m < s.1 22 2 := fun q hq => by
    obtain ⟨t, h1, h2⟩ := x6' q hq
    exact ⟨(h1 trivial).1.1.1, (h2 trivial).1.1.1⟩
  have hQ := dv_Q_ag (AR := AR) hmt
  have hM : ∀ m C, vw_M l C → vx_mt m C → m < s.1 22 2 := fun m C ⟨q, hq, h⟩ hm => by
    rcases h with h | h
    · exact ((hmt q hq).1 m (vw_su_mt hm h)).2
    · exact ((hmt q hq).2 m (vw_su_mt hm h)).2
  obtain ⟨d, rfl⟩ : ∃ e, d = e + 2 := ⟨d - 2, by omega⟩
  refine sx_methL (wr := true) (n := 400) (n' := 400) (stop := [(33, [0, 1, 2]), (70, [0, 2, 3])]) (fun nn pc ls u => (pc = 33 ∧ ∃ x2 : Int, ls = [(0, .inr (.inl 38)), (1, .inr (.inl 18)), (2, .inl x2)] ∧ (-1 ≤ x2 ∧ x2 < s.1 18 10) ∧ cx_I u ∧ cx_F [(29, 29), (33, 35), (39, 45)] s u ∧ u.1 33 6 = s.1 22 2 ∧ (∀ i : Nat, i < 32 → u.2.1 34 i = -1) ∧ u.1 29 3 = 0 ∧ u.1 39 6 = ((l.drop (x2 + 1).toNat).length : Int) ∧ dv_ps u AR 0 (dv_r0 (l.drop (x2 + 1).toNat)) ∧ nn = 2000000 + (x2 + 1).toNat) ∨ (pc = 70 ∧ ∃ (x2 : Int) (x3 : Nat), ls = [(0, .inr (.inl 38)), (2, .inl x2), (3, .inl (x3 : Int))] ∧ x3 ≤ 1000000 ∧ nn = 1000001 - x3 ∧ ((x2 = 0 ∧ cx_I u ∧ vx_NO (s.1 22 2) (dv_Q AR l) (dv_S0 s ar AR)) ∨ (x2 = 1 ∧ ∃ S PR tm' r, dx_tm (dv_S0 s ar AR) tm tm' ∧ dv_G tv tc (s.1 22 2) (dv_Q AR l) u S PR tm' [] r ∧ vx_le (dv_S0 s ar AR) S ∧ dx_fr s u ∧ vw_TI l (s.1 22 2).toNat (dv_Q AR l) x3 S r)))) hsL (e := eX6_unifies) rfl ?_ ?_
  · refine w_dv_un (c_dv_unk hsL (d + 1) (by omega)) (c_dv_eqs hsL (d + 1) (by omega)) (c_dv_rel hsL (d + 1) (by omega)) (c_dv_pclear39 hsL (d + 1) (by omega)) (c_dv_cl hsL (d + 1) (by omega)) hI (fun t t1 t2 t3 t4 t5 t6 t7 => ⟨_, Or.inl ⟨rfl, s.1 18 10 - 1, rfl, by omega, t1, cx_F_step t2 rfl (cx_F_refl _ _), t3, t4, t6, ?_, ?_, rfl⟩⟩)
    · rw [t7, List.length_drop]
      omega
    · rw [List.drop_eq_nil_of_le (by omega)]
      trivial
  · rintro nn pc ls u (⟨rfl, y2, rfl, j1, j2, j3, j4, j5, j6, j7, j8, rfl⟩ | ⟨rfl, y2, y3, rfl, i1, rfl, i2⟩)
    · have e18 : u.1 18 = s.1 18 := (j3.same 18 rfl).1
      have e26 : u.2.1 26 = s.2.1 26 := (j3.same 26 rfl).2
      have len : ((l.drop (y2 + 1).toNat).length : Int) = s.1 18 10 - (y2 + 1) := by
        rw [List.length_drop]
        omega
      have a26 : ∀ i, -2147483648 ≤ u.2.1 26 i ∧ u.2.1 26 i ≤ 2147483647 := fun i => by
        have := j2.arr 26 (by decide) rfl i
        omega
      refine w_dv_un33 (c_dv_rt hsL (d + 1) (by omega)) (fun a0 a1 a2 a3 a4 a5 s' R => c_dv_pair39 hsL (d + 1) (by omega) a0 a1 a2 a3 a4 a5 s' R) j2 (by rw [e18]; exact j1) (by omega) (fun _ => ⟨a26 _, a26 _⟩) (fun hx => ?_) (fun hx t t1 t2 t3 => ?_)
      · refine ⟨1000001, by omega, Or.inr ⟨rfl, 1, 0, rfl, by omega, rfl, Or.inr ⟨rfl, dv_S0 s ar AR, fun _ => [], tm, dv_r0 l, fun _ _ _ => rfl, ?_, vx_le_refl _, dx_fr_F j3 (cx_F_step j3 rfl (cx_F_refl _ _)) (by decide), ?_⟩⟩⟩
        · have ed : l.drop (y2 + 1).toNat = l := by
            rw [show (y2 + 1).toNat = 0 by omega]
            rfl
          rw [ed] at j7 j8
          exact dv_G0 hX j2 j3 j4 j5 j6 j7 j8
        · refine vw_TI_0 (by omega) ?_ (fun q hq => ?_) (fun _ => rfl)
          · unfold dv_r0
            rw [List.map_map]
            exact List.map_id' l
          · obtain ⟨t, h1, h2⟩ := x6' q hq
            exact ⟨(h1 trivial).1.2.1, (h2 trivial).1.2.1⟩
      · obtain ⟨p1, p2, p3, p4, p5, p6, p7, p8⟩ := t3 trivial
        have hy : y2.toNat < l.length := by omega
        have ed : l.drop (y2 - 1 + 1).toNat = l[y2.toNat] :: l.drop (y2 + 1).toNat := by
          rw [show (y2 - 1 + 1).toNat = y2.toNat by omega, show (y2 + 1).toNat = y2.toNat + 1 by omega]
          exact List.drop_eq_getElem_cons hy
        obtain ⟨⟨w1, w2⟩, _⟩ := x6 y2.toNat (l[y2.toNat]).1 (l[y2.toNat]).2 (by rw [List.getElem?_eq_getElem hy])
        have nf : dv_nf (s.1 11 6) AR AR s t := dv_nf_F _ (cx_F_step t2 rfl j3) (by decide)
        have nf' : dv_nf (u.1 11 6) AR AR u t := dv_nf_F _ t2 (by decide)
        have rl : (dv_r0 (l.drop (y2 + 1).toNat)).length = (u.1 39 6).toNat := by
          unfold dv_r0
          rw [List.length_map]
          omega
        refine ⟨2000000 + (y2 - 1 + 1).toNat, by omega, Or.inl ⟨rfl, y2 - 1, rfl, by omega, t1, cx_F_step t2 rfl j3, by rw [(t2.same 33 rfl).1]; exact j4, fun i hi => by rw [(t2.same 34 rfl).2]; exact j5 i hi, by rw [(t2.same 29 rfl).1]; exact j6, ?_, ?_, rfl⟩⟩
        · rw [ed, List.length_cons, p1, j7]
          omega
        · rw [ed]
          show dv_ps t AR 0 (((l[y2.toNat].1, []), (l[y2.toNat].2, []), 0, 0) :: dv_r0 (l.drop (y2 + 1).toNat))
          refine ⟨⟨Int.le_refl _, Int.le_refl _⟩, ⟨?_, ?_⟩, ⟨?_, ?_⟩, ⟨?_, ?_⟩, ?_⟩
          · rw [rl]
            show dv_at t AR _ (t.2.1 (39 + 1) _)
            rw [p3]
            show dv_at t AR _ (u.2.1 26 (2 * y2 + 0).toNat)
            rw [e26, show (2 * y2 + 0).toNat = 2 * y2.toNat by omega]
            exact dv_at_fr (Int.le_refl _) nf w1
          · rw [rl]
            show t.2.1 (39 + 2) _ = -1
            exact p4
          · rw [rl]
            show dv_at t AR _ (t.2.1 (39 + 3) _)
            rw [p5]
            show dv_at t AR _ (u.2.1 26 (2 * y2 + 1).toNat)
            rw [e26, show (2 * y2 + 1).toNat = 2 * y2.toNat + 1 by omega]
            exact dv_at_fr (Int.le_refl _) nf w2
          · rw [rl]
            show t.2.1 (39 + 4) _ = -1
            exact p6
          · rw [rl]
            exact p7
          · rw [rl]
            exact p8
          · refine dv_ps_fr (Int.le_refl _) nf' (fun i hi => ?_) (fun i hi => ?_) j8
            · have hi' : (i : Int) < 0 := hi
              omega
            · obtain ⟨z1, z2, z3, z4, z5, z6⟩ := p2 i (by omega)
              exact ⟨z1, z2, z3, z4, z5, z6⟩
    · have hIu : cx_I u := by
        rcases i2 with ⟨_, h, _⟩ | ⟨_, S, PR, tm', r, _, h, _⟩
        · exact h
        · exact (h trivial).1
      have hno : vx_NO (s.1 22 2) (dv_Q AR l) (dv_S0 s ar AR) → ¬ dv_sat (s.1 22 2) ar (dv_Q AR l) := fun hn ⟨th, g, sc, q⟩ => hn th g sc q
      refine w_dv_un70 (G := fun z t => (z = 0 ∧ cx_I t ∧ vx_NO (s.1 22 2) (dv_Q AR l) (dv_S0 s ar AR)) ∨ (z = 1 ∧ ∃ S PR tm' r, dx_tm (dv_S0 s ar AR) tm tm' ∧ dv_G tv tc (s.1 22 2) (dv_Q AR l) t S PR tm' [] r ∧ vx_le (dv_S0 s ar AR) S ∧ dx_fr s t ∧ vw_TI l (s.1 22 2).toNat (dv_Q AR l) (y3 + 1) S r)) (c_dv_pempty39 hsL (d + 1) (by omega)) (fun hx hne K' hK' => ?_) (fun z t ht => ?_) hIu ?_ (by omega) (fun hx => ?_) (fun hx h0 => ?_) (fun hx h0 h3 => ?_) (fun hx h0 h3 z t ht => ?_)
      · rcases i2 with ⟨e, _⟩ | ⟨_, S, PR, tm', r, zx, hG, hle, hfr, hTI⟩
        · omega
        · obtain ⟨g1, g2, g3, g4, ⟨g5, g6⟩, g7, g8⟩ := hG trivial
          obtain ⟨⟨W, B1, Sc, rk, hrk⟩, _⟩ := g3 trivial
          cases r with
          | nil => exact absurd g6 hne
          | cons p r =>
            exact c_dx_st hsL (d + 1) (by omega) hQ S PR tm' p r u K' hG (fun t t1 t2 => hK' 0 t (Or.inl ⟨rfl, t1, vx_NO_le hle (Int.le_refl _) t2⟩)) (fun t S' PR' tm'' r' t0 t1 t2 t3 t4 => hK' 1 t (Or.inr ⟨rfl, S', PR', tm'', r', dx_tm_t hle.1.1 zx t0, t2, vx_le_trans hle t1, dx_fr_t hfr t4, vw_TI_st hM x1.1 W t1 (fun th hS hq => g8.2.1 th hS hq _ List.mem_cons_self) hTI t3⟩))
      · rcases ht with ⟨q, _⟩ | ⟨q, _⟩
        · exact Or.inl q
        · exact Or.inr q
      · rcases i2 with ⟨q, _⟩ | ⟨q, _⟩
        · exact Or.inl q
        · exact Or.inr q
      · rcases i2 with ⟨_, _, q⟩ | ⟨q, _⟩
        · exact hK0 u (hno q)
        · omega
      · rcases i2 with ⟨q, _⟩ | ⟨_, S, PR, tm', r, zx, hG, hle, hfr, hTI⟩
        · omega
        · obtain ⟨g1, g2, g3, g4, ⟨g5, g6⟩, g7, g8⟩ := hG trivial
          obtain ⟨⟨W, B1, Sc, rk, hrk⟩, _⟩ := g3 trivial
          have er : r = [] := List.length_eq_zero_iff.mp (by omega)
          subst er
          exact hK1 u S PR tm' zx hG hle hfr (hTI trivial).2.1
      · rcases i2 with ⟨q, _⟩ | ⟨_, S, PR, tm', r, zx, hG, hle, hfr, hTI⟩
        · omega
        · obtain ⟨g1, g2, g3, g4, ⟨g5, g6⟩, g7, g8⟩ := hG trivial
          refine hK0 u (fun ⟨th0, gd, sc, q0⟩ => ?_)
          obtain ⟨th, hS, ha⟩ := g8.2.2.2 th0 gd (fun v v0 v1 => by
            have h2 : S.2.2.1 v = ar v := hle.2.1 v v0 v1
            rw [h2]
            exact sc v v0 v1) q0
          have hq := hQ _ _ ha q0
          obtain ⟨_, hB, hT⟩ := hTI trivial
          obtain ⟨f, _, f2⟩ := hT S th (vx_le_refl S) hS hq
          have hnl : ∀ v B e, S.2.2.2.1 v = some (B, e) → ¬ vx_isl B := fun v B e hb ⟨j, y, G, eB⟩ => by
            obtain ⟨_, g3b⟩ := g3 trivial
            obtain ⟨_, ⟨_, ty⟩, _⟩ := g3b v B e hb
            rw [eB] at ty
            rcases ty with ⟨_, B', q, _⟩ | ⟨q, _⟩ | ⟨q, _⟩ | ⟨q, _⟩
            · cases q
            · exact absurd q (by show ¬ ((0 : Int) = 1); decide)
            · exact absurd q (by show ¬ ((0 : Int) = 2); decide)
            · exact absurd q vx_03
          have := hcap S th hle hS hq hB hnl
          omega
      · refine ⟨1000001 - (y3 + 1), by omega, Or.inr ⟨rfl, z, y3 + 1, rfl, by omega, rfl, ?_⟩⟩
        rcases ht with ⟨q1, q2, q3⟩ | ⟨q1, S, PR, tm', r, zq, q2, q3, q4, q5⟩
        · exact Or.inl ⟨q1, q2, q3⟩
        · exact Or.inr ⟨q1, S, PR, tm', r, zq, q2, q3, q4, q5⟩
end
section
/-! ===== types of variables: one that is none of the text has a type that is too large ===== -/
abbrev dl_hu : rf_T := rf_a rf_b (rf_a rf_b (rf_a rf_b (rf_a rf_b (rf_a rf_b rf_b))))
noncomputable def dl_tw (t : sx_S) (v : Int) : rf_T := @dite rf_T (∃ T, dl_TV t v T) (Classical.propDecidable _) (fun h => qx_sh (Classical.choose h)) (fun _ => dl_hu)
theorem dl_tw_tv {t : sx_S} {v : Int} (h : ∃ T, dl_TV t v T) : dl_tw t v = dl_tv t v := by
  unfold dl_tw dl_tv
  rw [dif_pos h, dif_pos h]
theorem dl_tw_eq {t : sx_S} {v : Int} {T : qx_T} (h : dl_TV t v T) : dl_tw t v = qx_sh T := by
  rw [dl_tw_tv ⟨T, h⟩]
  exact dl_tv_eq h
theorem dl_tw_5 {t : sx_S} {v : Int} (h : rf_at (dl_tw t v) ≤ 5) : ∃ T, dl_TV t v T ∧ dl_tw t v = qx_sh T := by
  by_cases c : ∃ T, dl_TV t v T
  · obtain ⟨T, hT⟩ := c
    exact ⟨T, hT, dl_tw_eq hT⟩
  · exfalso
    unfold dl_tw at h
    rw [dif_neg c] at h
    exact absurd h (by decide)
/-- what is in memory of such a variable -/
theorem dl_tw_ty {t : sx_S} {v : Int} (h : rf_at (dl_tw t v) ≤ 5) : (0 ≤ v ∧ v < t.1 11 8) ∧ wk_ty t (dl_tw t v) (t.2.1 17 v.toNat) := by
  obtain ⟨T, hT, e⟩ := dl_tw_5 h
  refine ⟨⟨hT.1, hT.2.1⟩, ?_⟩
  rw [e]
  exact wk_ty_dx hT.2.2
theorem dl_tc_5 {C : List (Int × qx_T)} (h : ∀ q ∈ C, qx_at q.2 ≤ 5) (i : Int) : rf_at (dl_tc C i) ≤ 5 := by
  unfold dl_tc
  cases e : C[i.toNat]? with
  | none => exact show rf_at rf_b ≤ 5 by decide
  | some q =>
    have h1 := h q (List.mem_of_getElem? e)
    have h2 := rf_at_sh q.2
    show rf_at (qx_sh q.2) ≤ 5
    omega
theorem dl_wE {t : sx_S} {C M Cf Mf : List (Int × qx_T)} (hC : ∀ (i : Nat) q, C[i]? = some q → Cf[i]? = some q) (hM : ∀ (i : Nat) q, M[i]? = some q → Mf[i]? = some q) : vl_E (dl_tw t) (dl_tc Cf) (dl_tm Mf) (dl_ra Mf) C M (dl_TV t) := by
  refine ⟨fun v T h => dl_tw_eq h, fun i q h => ?_, fun i q h => ⟨?_, fun a => ?_⟩⟩
  · unfold dl_tc
    rw [Int.toNat_natCast, hC i q h]
    rfl
  · unfold dl_ra
    rw [Int.toNat_natCast, hM i q h]
    rfl
  · unfold dl_tm
    rw [Int.toNat_natCast, hM i q h]
    rfl
theorem dl_Xw {bb b : Nat → Int} {n : Int} {t : sx_S} {l : List vl_I} (hI : cx_I t) (hn : 0 ≤ n) (hX : vl_TX (px_K b n) l 0) (hck : px_ck (px_SN b n) l [] [] 0) (hE : dz_E bb n (vl_kf l []) (vl_mf l []) t) (hpr : dl_pr b n (vl_eq l [] []) t) (h6 : t.1 11 6 ≤ 960) (h10 : t.1 18 10 = ((vl_eq l [] []).length : Int)) : ∃ tl, dv_X (dl_tw t) (dl_tc (vl_kf l [])) (dl_tm (vl_mf l [])) t (dl_ra (vl_mf l [])) (dl_AR t) tl ∧ vl_tx (px_SN b n) (dl_TV t) (dl_AR t) l [] [] tl ∧ ∀ q ∈ tl, (∀ m, vx_mt m q.1 ∨ vx_mt m q.2 → 0 ≤ m ∧ m < ((vl_mf l []).length : Int)) ∧ (vx_ok (dl_ra (vl_mf l [])) (dl_AR t) q.1 ∧ vx_ok (dl_ra (vl_mf l [])) (dl_AR t) q.2) ∧ ∃ ty, wk_tb ty ∧ (vx_ty (dl_tw t) (dl_tc (vl_kf l [])) (dl_tm (vl_mf l [])) (dl_AR t) q.1).1 ty ∧ (vx_ty (dl_tw t) (dl_tc (vl_kf l [])) (dl_tm (vl_mf l [])) (dl_AR t) q.2).1 ty := by
  obtain ⟨_, E2, E3, _, E6, E7⟩ := hE trivial
  have lM := (E3 trivial).1
  obtain ⟨m5, e4⟩ := vl_mf_5 hck (by show 0 ≤ 5; decide) (by decide)
  have f6 := hI.fld 11 6 (by decide) rfl
  have hin := vl_eq_in hck (fun _ h => absurd h List.not_mem_nil) (fun _ h => absurd h List.not_mem_nil)
  obtain ⟨tl, t1, t2⟩ := dl_list (o := 0) (P := fun k p (y : rf_N × rf_N) => ∃ x, (y.1 ≠ .leaf ∧ dz_T 0 t y.1 (t.2.1 26 (2 * k))) ∧ (y.2 ≠ .leaf ∧ dz_T 0 t y.2 (t.2.1 26 (2 * k + 1))) ∧ dl_mt b n p.1.1 p.1.2 0 t y.1 p.2.1 [] [] x ∧ dl_mt b n p.1.1 p.1.2 0 t y.2 p.2.2 [] [] x) (E := vl_eq l [] []) (fun k p hk => by
    obtain ⟨L, R, x, a⟩ := hpr trivial k p hk
    exact ⟨(L, R), x, by rw [Nat.zero_add]; exact a⟩)
  have tx : vl_tx (px_SN b n) (dl_TV t) (dl_AR t) l [] [] tl := vl_tx_mk hck t1 (fun k p hk => by
    obtain ⟨y, y1, x, ⟨_, a1⟩, ⟨_, a2⟩, a3, a4⟩ := t2 k p hk
    obtain ⟨n1, r1, _⟩ := a1 trivial
    obtain ⟨n2, r2, _⟩ := a2 trivial
    exact ⟨y.1, y.2, x, y1, (a3 trivial).2.2 _ (dl_AR_ar n1 r1), (a4 trivial).2.2 _ (dl_AR_ar n2 r2)⟩)
  obtain ⟨_, _, _, _, _, hb, _⟩ := vl_text (D := []) (o := fun _ => 0) (AR := dl_AR t) List.Pairwise.nil (vl_P5_ps (b := b) hn) (Int.le_refl _) hX hck tx (fun _ h => absurd h List.not_mem_nil) (fun _ h => absurd h List.not_mem_nil) (fun _ _ _ => Or.inl (Nat.zero_le _)) (fun _ h => absurd h List.not_mem_nil)
  -- one side
  have side : ∀ {k : Nat} {C M : List (Int × qx_T)} {nn : px_N} {W : rf_N} {z : Int} {x : qx_T}, (∀ (i : Nat) q, C[i]? = some q → (vl_kf l [])[i]? = some q) → (∀ (i : Nat) q, M[i]? = some q → (vl_mf l [])[i]? = some q) → (∀ q ∈ C, qx_at q.2 ≤ 5) → (∀ q ∈ M, qx_at q.2 ≤ 5) → (∃ y, (px_wt (px_SN b n) C M nn).1 [] y) → dz_T 0 t W z → dl_mt b n C M 0 t W nn [] [] x → (vx_lh W ≤ 67 ∧ vx_hh W ≤ 26) → dv_at t (dl_AR t) W z ∧ dv_s1 (dl_tw t) (dl_tc (vl_kf l [])) (dl_tm (vl_mf l [])) (dv_S0 t (dl_ra (vl_mf l [])) (dl_AR t)) (qx_sh x) W ∧ (∀ m, vx_mt m W → 0 ≤ m ∧ m < ((vl_mf l []).length : Int)) ∧ vx_ok (dl_ra (vl_mf l [])) (dl_AR t) W := by
    intro k C M nn W z x pC pM c5 m5' hw hT hm hlh
    obtain ⟨y, hw⟩ := hw
    have lt := dz_T_lt hT
    obtain ⟨nd, ar, ndp, _, _⟩ := hT trivial
    obtain ⟨nb, sg, tm⟩ := hm trivial
    have hA := dl_AR_ar nd ar
    have htm := tm _ hA
    have vE := dl_wE (t := t) pC pM
    obtain ⟨_, ty, fv, mt, ok⟩ := (vl_tm_all (P := vx_U (dv_S0 t (dl_ra (vl_mf l [])) (dl_AR t))) vE).1 (Γ := []) (ρ := []) ⟨rfl, fun _ h => absurd h (Nat.not_lt_zero _)⟩ htm
    have tr := (vl_tm_tr (A16 := t.2.1 16) c5 m5').1 (Γ := []) (ρ := []) (fun _ h => absurd h List.not_mem_nil) rfl List.Pairwise.nil (fun _ h => absurd h List.not_mem_nil) htm hw ar hA
    have lMM : M.length ≤ (vl_mf l []).length := by
      apply Classical.byContradiction
      intro q
      have := pM (M.length - 1) _ (List.getElem?_eq_getElem (by omega))
      have := (List.getElem?_eq_some_iff.mp this).1
      omega
    have mt' : ∀ m, vx_mt m W → 0 ≤ m ∧ m < ((vl_mf l []).length : Int) := fun m hm => by
      have := mt m hm
      omega
    refine ⟨?_, fun _ => ⟨⟨⟨fun m hm => ?_, fun j hj => lt j hj, ok⟩, sg, ty⟩, fun z hz => absurd (fv z hz) List.not_mem_nil, vx_nb_mono (fun _ h => h.elim) nb, hlh.1, hlh.2, ?_⟩, mt', ok⟩
    · obtain ⟨j, kk, h, F, rfl⟩ := sg
      obtain ⟨⟨a1, a2⟩, ⟨a3, a4⟩, a5, _⟩ := nd
      exact ⟨j, kk, h, F, rfl, ⟨a1, a2⟩, ⟨a3, a4⟩, a5, tr⟩
    · have := mt' m hm
      show 0 ≤ m ∧ m < t.1 22 2
      omega
    · have h1 := vx_hz_idx W
      have h2 := dl_len f6.1 ndp lt
      omega
  have key : ∀ (k : Nat) A B, tl[k]? = some (A, B) → ((dv_at t (dl_AR t) A (t.2.1 26 (2 * k)) ∧ dv_at t (dl_AR t) B (t.2.1 26 (2 * k + 1))) ∧ ∃ ty, dv_s1 (dl_tw t) (dl_tc (vl_kf l [])) (dl_tm (vl_mf l [])) (dv_S0 t (dl_ra (vl_mf l [])) (dl_AR t)) ty A ∧ dv_s1 (dl_tw t) (dl_tc (vl_kf l [])) (dl_tm (vl_mf l [])) (dv_S0 t (dl_ra (vl_mf l [])) (dl_AR t)) ty B) ∧ (∀ m, vx_mt m A ∨ vx_mt m B → 0 ≤ m ∧ m < ((vl_mf l []).length : Int)) ∧ (vx_ok (dl_ra (vl_mf l [])) (dl_AR t) A ∧ vx_ok (dl_ra (vl_mf l [])) (dl_AR t) B) ∧ ∃ ty, wk_tb ty ∧ (vx_ty (dl_tw t) (dl_tc (vl_kf l [])) (dl_tm (vl_mf l [])) (dl_AR t) A).1 ty ∧ (vx_ty (dl_tw t) (dl_tc (vl_kf l [])) (dl_tm (vl_mf l [])) (dl_AR t) B).1 ty := fun k A B hk => by
    have hk' : k < (vl_eq l [] []).length := by
      rw [← t1]
      exact (List.getElem?_eq_some_iff.mp hk).1
    obtain ⟨y, y1, x, ⟨_, a1⟩, ⟨_, a2⟩, a3, a4⟩ := t2 k _ (List.getElem?_eq_getElem hk')
    rw [hk] at y1
    have ey : (A, B) = y := Option.some.inj y1
    subst ey
    rw [Nat.zero_add] at a1 a2
    obtain ⟨⟨p1, p2⟩, ⟨p3, p4⟩, x', w1, w2⟩ := hin _ (List.getElem_mem hk')
    obtain ⟨b1, b2⟩ := hb (A, B) (List.mem_of_getElem? hk)
    have tb : wk_tb (qx_sh x) := by
      obtain ⟨nd', ar', _⟩ := a1 trivial
      exact vl_tm_tb p3 p4 (Γ := []) (fun _ h => absurd h List.not_mem_nil) ((a3 trivial).2.2 _ (dl_AR_ar nd' ar'))
    obtain ⟨s1, s2, s3, s4⟩ := side (k := k) p1 p2 p3 p4 ⟨x', w1⟩ a1 a3 b1
    obtain ⟨r1, r2, r3, r4⟩ := side (k := k) p1 p2 p3 p4 ⟨x', w2⟩ a2 a4 b2
    exact ⟨⟨⟨s1, r1⟩, qx_sh x, s2, r2⟩, fun m hm => hm.elim (s3 m) (r3 m), ⟨s4, r4⟩, qx_sh x, tb, (s2 trivial).1.2.2, (r2 trivial).1.2.2⟩
  refine ⟨tl, fun _ => ⟨by omega, dl_ra_4 E7, h6, ⟨by rw [h10, t1], by omega⟩, fun k A B hk => (key k A B hk).1⟩, tx, fun q hq => ?_⟩
  obtain ⟨i, hi⟩ := List.mem_iff_getElem?.mp hq
  exact (key i q.1 q.2 hi).2
end
section
/-! ===== the types of the unknowns stay: what stands after solving ===== -/
def dx_U (b : Nat → Int) (n : Int) (l : List vl_I) (s t : sx_S) : Prop := True → ∃ (tl : vw_L) (S : vx_S) (PR : Int → List (Int × Int)) (tm' : Int → Int → rf_T), dx_tm (dv_S0 s (dl_ra (vl_mf l [])) (dl_AR s)) (dl_tm (vl_mf l [])) tm' ∧ dv_G (dl_tw s) (dl_tc (vl_kf l [])) (s.1 22 2) (dv_Q (dl_AR s) tl) t S PR tm' [] [] ∧ vx_le (dv_S0 s (dl_ra (vl_mf l [])) (dl_AR s)) S ∧ dx_fr s t ∧ vl_tx (px_SN b n) (dl_TV s) (dl_AR s) l [] [] tl ∧ vw_B tl S ∧ dv_X (dl_tw s) (dl_tc (vl_kf l [])) (dl_tm (vl_mf l [])) s (dl_ra (vl_mf l [])) (dl_AR s) tl ∧ ∀ q ∈ tl, ∃ ty, wk_tb ty ∧ (vx_ty (dl_tw s) (dl_tc (vl_kf l [])) (dl_tm (vl_mf l [])) (dl_AR s) q.1).1 ty ∧ (vx_ty (dl_tw s) (dl_tc (vl_kf l [])) (dl_tm (vl_mf l [])) (dl_AR s) q.2).1 ty
theorem c_dx_un1 {sL : Nat} {sx : Nat → Int32} (hsL : sL ≤ 3072) (d : Nat) (hd : 12 ≤ d) : ∀ (b : Nat → Int) (n : Int) (l : List vl_I) (s : sx_S) (K : Int → sx_S → Prop), cx_I s → dl_LD b n l s → (∀ t, ¬ vl_sat (px_SN b n) l → K 0 t) → (∀ t, dx_U b n l s t → K 1 t) → sx_C sL sx d 70 [.inr (.inl 38), .inr (.inl 18)] s K := by
  intro b n l s K hI hL hK0 hK1
  obtain ⟨⟨n0, n240⟩, hX, hck, ⟨bb, hE⟩, hpr, h6, h10⟩ := hL trivial
  obtain ⟨tl, x1, x2, x3⟩ := dl_Xw hI n0 hX hck hE hpr h6 h10
  have lM := ((hE trivial).2.2.1 trivial).1
  have iff := vl_sat_iff x2
  rw [lM] at iff
  have m5 := (vl_mf_5 hck (by show 0 ≤ 5; decide) (by decide)).1
  refine c_dx_un hsL d hd (dl_ra (vl_mf l [])) (dl_AR s) tl s K hI x1 (fun S th hle hS hQ hB hnl => ?_) (fun t h => hK0 t (fun q => h (iff.mp q))) (fun t S PR tm' h0 h1 h2 h3 h4 => hK1 t (fun _ => ⟨tl, S, PR, tm', h0, h1, h2, h3, x2, h4, x1, fun q hq => (x3 q hq).2.2⟩))
  obtain ⟨_, _, _, _, x6⟩ := x1 trivial
  have idx : ∀ q ∈ tl, (∀ j ∈ rf_idx q.1, S.2.2.2.2 j = dl_AR s j) ∧ ∀ j ∈ rf_idx q.2, S.2.2.2.2 j = dl_AR s j := fun q hq => by
    obtain ⟨i, hi⟩ := List.mem_iff_getElem?.mp hq
    obtain ⟨_, ty, s1, s2⟩ := x6 i q.1 q.2 hi
    exact ⟨fun j hj => hle.2.2.2 j ((s1 trivial).1.1.2.1 j hj), fun j hj => hle.2.2.2 j ((s2 trivial).1.1.2.1 j hj)⟩
  refine vl_cap n0 n240 hX hck x2 idx (fun q hq => (x3 q hq).1) m5 (fun m q hm hne => ?_) hS hB hnl
  apply Classical.byContradiction
  intro hlt
  have p1 := qx_at_pos q.2
  have e0 : dl_ra (vl_mf l []) (m : Int) = 0 := by
    unfold dl_ra
    rw [Int.toNat_natCast, hm]
    have h2 := rf_at_sh q.2
    have h3 := rf_args_at (qx_sh q.2)
    show ((rf_args (qx_sh q.2)).length : Int) = 0
    omega
  have key : ∀ l' : vw_L, (∀ q ∈ l', vx_ok (dl_ra (vl_mf l [])) (dl_AR s) q.1 ∧ vx_ok (dl_ra (vl_mf l [])) (dl_AR s) q.2) → vw_cl (dl_AR s) false (m : Int) l' = 0 := fun l' => by
    induction l' with
    | nil => exact fun _ => rfl
    | cons p r ih =>
      intro h
      show vw_cn (dl_AR s) false (m : Int) p.1 [] + vw_cn (dl_AR s) false (m : Int) p.2 [] + vw_cl (dl_AR s) false (m : Int) r = 0
      rw [ih (fun q hq => h q (List.mem_cons_of_mem _ hq)), vw_cn_b0 e0 (h p List.mem_cons_self).1, vw_cn_b0 e0 (h p List.mem_cons_self).2]
  exact hne (key tl (fun q hq => (x3 q hq).2.1))
theorem c_dx_unI {sL : Nat} {sx : Nat → Int32} (hsL : sL ≤ 3072) (d : Nat) (hd : 12 ≤ d) : ∀ (b : Nat → Int) (n : Int) (l : List vl_I) (s : sx_S) (K : Int → sx_S → Prop), cx_I s → dl_LD b n l s → (∀ t, cx_I t → cx_F [(11, 17), (29, 54)] s t → ¬ vl_sat (px_SN b n) l → K 0 t) → (∀ t, dx_U b n l s t → K 1 t) → sx_C sL sx d 70 [.inr (.inl 38), .inr (.inl 18)] s K := by
  intro b n l s K hI hL hK0 hK1
  refine sx_bothM (e := eX6_unifies) rfl (c_unifiesD hsL d (by omega) s (fun z t => cx_I t ∧ cx_F [(11, 17), (29, 54)] s t ∧ (0 ≤ z ∧ z ≤ 1)) hI (fun z t a1 a2 a3 _ => ⟨a1, a2, a3⟩)) (c_dx_un1 hsL d hd b n l s (fun z t => (z = 0 ∧ ¬ vl_sat (px_SN b n) l) ∨ (z = 1 ∧ dx_U b n l s t)) hI hL (fun t h => Or.inl ⟨rfl, h⟩) (fun t h => Or.inr ⟨rfl, h⟩)) (fun z1 t1 z2 t2 h1 h2 hv hh => ?_)
  obtain ⟨a1, a2, a3⟩ := h1
  have hz2 : z2 = 0 ∨ z2 = 1 := by
    rcases h2 with ⟨q, _⟩ | ⟨q, _⟩
    · exact Or.inl q
    · exact Or.inr q
  have e : z1 = z2 := sx_vo_int hv (by omega) (by omega)
  subst e
  rcases h2 with ⟨q1, q2⟩ | ⟨q1, q2⟩
  · refine ⟨t1, rfl, rfl, ?_⟩
    rw [q1]
    exact hK0 t1 a1 a2 q2
  · refine ⟨t2, hh.symm, ?_, ?_⟩
    · obtain ⟨_, _, _, _, _, _, _, q3, _⟩ := q2 trivial
      have c1 := ((q3 trivial).1.2 0).2
      have c2 := (a2 0).2
      rw [c1, c2]
    · rw [q1]
      exact hK1 t2 q2
end
