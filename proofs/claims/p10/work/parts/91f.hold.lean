section
/-! ===== what the desk holds after solve ===== -/
def wk_D (b : Nat → Int) (n : Int) (l : List vl_I) (u : sx_S) : Prop := True → ∃ (tv tc : Int → rf_T) (n0 : Int) (Qs : (Int → rf_N) → Prop) (th : Int → rf_N) (rk : Int → Nat) (nm : Int → List Int) (S : vx_S) (PR : Int → List (Int × Int)) (tm : Int → Int → rf_T) (TV : Int → qx_T → Prop) (AR : Nat → List Int) (tl : vw_L), wy_Z b n l TV AR tl S th (wk_ht tm) nm ∧ wk_X tv tc n0 Qs th rk nm u S PR tm (wz_al th (vl_mf l []).length) ∧ wk_ink (wk_E nm (wk_ht tm)) th S (wz_al th (vl_mf l []).length) u ∧ (u.1 22 2 = ((vl_mf l []).length : Int) ∧ ∀ (k : Nat) p, (vl_mf l [])[k]? = some p → ∃ A, dv_at u S.2.2.2.2 A (u.2.1 25 k) ∧ wk_T tv tc tm S th (u.1 19 2) 0 (wz_al th (vl_mf l []).length) 0 A [] 0 0 ∧ wd_v th S.2.2.2.2 (A, dv_lk [], 0) = vq_lm (rf_args (qx_sh p.2)).length (th (k : Int))) ∧ (u.1 18 10 = (tl.length : Int) ∧ ∀ (k : Nat) A B, tl[k]? = some (A, B) → (dv_at u S.2.2.2.2 A (u.2.1 26 (2 * k)) ∧ wk_T tv tc tm S th (u.1 19 2) 0 (wz_al th (vl_mf l []).length) 0 A [] 0 0 ∧ wd_v th S.2.2.2.2 (A, dv_lk [], 0) = vx_val th AR A (dv_lk []) 0) ∧ dv_at u S.2.2.2.2 B (u.2.1 26 (2 * k + 1)) ∧ wk_T tv tc tm S th (u.1 19 2) 0 (wz_al th (vl_mf l []).length) 0 B [] 0 0 ∧ wd_v th S.2.2.2.2 (B, dv_lk [], 0) = vx_val th AR B (dv_lk []) 0)
theorem wz_hr_lm {P : List Int → Prop} {T : rf_N} : ∀ {n : Nat}, wz_hr P (vq_lm n T) → wz_hr P T
  | 0, h => h
  | n + 1, h => by
    have h' : wz_hr P (.inner 0 (0, 0) () (vq_lm n T) .leaf) := h
    rw [wz_hr_in, if_neg (by decide)] at h'
    exact wz_hr_lm h'.1
theorem wk_Nm_fr {s u : sx_S} {h : Int} (e19 : u.1 19 = s.1 19) (e20 : u.2.1 20 = s.2.1 20) (e2 : u.1 2 = s.1 2) (e3 : u.2.1 3 = s.2.1 3) (e5 : u.2.1 5 = s.2.1 5) (e6 : u.2.1 6 = s.2.1 6) (hN : wk_Nm s h) : wk_Nm u h ∧ wk_nm u h = wk_nm s h := by
  refine ⟨fun _ => ?_, ?_⟩
  · have n1' := hN trivial
    rw [e19, e20, e2, e5, e6]
    exact n1'
  · unfold wk_nm
    rw [e20, e3, e5, e6]
theorem dk_bl (rk : Int → Nat) : ∀ A : rf_N, ∃ N, vx_bl rk N A
  | .leaf => ⟨0, fun m h => h.elim⟩
  | .inner j q u F X => by
    obtain ⟨a, ha⟩ := dk_bl rk F
    obtain ⟨b, hb⟩ := dk_bl rk X
    refine ⟨a + b + rk q.2 + 1, fun m hm => ?_⟩
    rcases hm with ⟨_, e⟩ | ⟨_, h⟩ | h
    · have : rk m = rk q.2 := by rw [e]
      omega
    · have := ha m h
      omega
    · have := hb m h
      omega
/-- what stands when solve has numbered the unknowns -/
theorem wk_D_mk {b : Nat → Int} {n : Int} {l : List vl_I} {s t u : sx_S} {tl : vw_L} {S : vx_S} {PR : Int → List (Int × Int)} {tm' : Int → Int → rf_T} {th : Int → rf_N} {rk : Int → Nat} (hI : cx_I s) (hL : dk_LD b n l s) (htm : dx_tm (dv_S0 s (dl_ra (vl_mf l [])) (dl_AR s)) (dl_tm (vl_mf l [])) tm') (hle : vx_le (dv_S0 s (dl_ra (vl_mf l [])) (dl_AR s)) S) (hfr : dx_fr s t) (htx : vl_tx (px_SN b n) (dl_TV s) (dl_AR s) l [] [] tl) (hB : vw_B tl S) (hXd : dv_X (dl_tw s) (dl_tc (vl_kf l [])) (dl_tm (vl_mf l [])) s (dl_ra (vl_mf l [])) (dl_AR s) tl) (hty : ∀ q ∈ tl, ∃ ty, wk_tb ty ∧ (vx_ty (dl_tw s) (dl_tc (vl_kf l [])) (dl_tm (vl_mf l [])) (dl_AR s) q.1).1 ty ∧ (vx_ty (dl_tw s) (dl_tc (vl_kf l [])) (dl_tm (vl_mf l [])) (dl_AR s) q.2).1 ty) (hS : vx_So S th) (ho : ∀ m, S.2.2.2.1 m = none → th m = vx_gn S.2.2.1 m) (hrk : vx_rk S rk) (hF : cx_F [(0, 0), (29, 32), (55, 64)] t u) (h11 : u.1 55 11 = -1) (hG : dv_G (dl_tw s) (dl_tc (vl_kf l [])) (s.1 22 2) (dv_Q (dl_AR s) tl) u S PR tm' [] []) (hN : wd_N u S (wz_al th (vl_mf l []).length)) : wk_D b n l u := fun _ => by
  obtain ⟨hLDw, bb, hbb, hE⟩ := hL trivial
  obtain ⟨hLD, hro⟩ := hLDw trivial
  obtain ⟨⟨n0, n240⟩, hX, hck, _, hpr, h6, h10⟩ := hLD trivial
  obtain ⟨f1, fv⟩ := hfr trivial
  obtain ⟨f1a, f1b⟩ := f1
  obtain ⟨g1, g2, g3, g4, ⟨_, g6⟩, g7, g8⟩ := hG trivial
  obtain ⟨⟨W, B1, Sc, _⟩, TS⟩ := g3 trivial
  obtain ⟨⟨M1, M2, M3, M5⟩, M4⟩ := g2 trivial
  obtain ⟨eTN, eC, eM, _, E6, E7⟩ := hE trivial
  have lC := (eC trivial).1
  have lM := (eM trivial).1
  have m5 := (vl_mf_5 hck (by show 0 ≤ 5; decide) (by decide)).1
  have fsu : cx_F [(0, 0), (11, 17), (29, 64)] s u := cx_F_step hF rfl (cx_F_step f1b rfl (cx_F_refl _ _))
  have e19 : u.1 19 = s.1 19 := (fsu.same 19 rfl).1
  have e22 : u.1 22 = s.1 22 := (fsu.same 22 rfl).1
  have e18 : u.1 18 = s.1 18 := (fsu.same 18 rfl).1
  have n19 : u.1 19 2 = ((vl_kf l []).length : Int) := by rw [e19]; exact lC.symm
  have hon : ∀ m, vx_on (th m) := fun m => (hS.1 m).1
  have MG0 := dw_MG hG hS ho
  rw [← lM] at MG0
  have nn := (MG0 trivial).2.1
  -- bodies
  have hha := vl_ha_tx hX hck htx (fun _ h => absurd h List.not_mem_nil) (fun _ h => absurd h List.not_mem_nil)
  have hkc := vl_kc_tx (nC := u.1 19 2) (by omega) htx
  have hbod : ∀ m B e, S.2.2.2.1 m = some (B, e) → vx_ha B ≤ 84 ∧ wk_kc (u.1 19 2) B := fun m B e hb => by
    rcases hB m B e hb with ⟨j, x, F, rfl⟩ | ⟨q, hq, hs⟩
    · exact ⟨by rw [vx_ha_call]; omega, fun c => absurd c (show ¬ (3 : Int) = 1 by decide), fun c => absurd rfl c, trivial⟩
    · rcases hs with hs | hs
      · have := vx_ha_su hs
        exact ⟨by have := (hha q hq).1; omega, wk_kc_su hs (hkc q hq).1⟩
      · have := vx_ha_su hs
        exact ⟨by have := (hha q hq).2; omega, wk_kc_su hs (hkc q hq).2⟩
  have hbt : ∀ m B e, S.2.2.2.1 m = some (B, e) → dv_tr (u.2.1 16) S.2.2.2.2 B ∧ wk_kc (u.1 19 2) B := fun m B e hb => by
    refine ⟨?_, (hbod m B e hb).2⟩
    obtain ⟨m0, m1⟩ := (W m B e hb).1
    rcases (M4 m m0 m1).2 with ⟨q, _⟩ | ⟨B', q, at', _⟩
    · rw [hb] at q
      cases q
    · rw [hb] at q
      have eB : B = B' := (Prod.mk.inj (Option.some.inj q)).1
      obtain ⟨_, _, _, _, _, _, _, _, tr⟩ := at'
      rw [eB]
      exact tr
  have nfsu : dv_nf (t.1 11 6) S.2.2.2.2 S.2.2.2.2 t u := dv_nf_F _ hF (by decide)
  -- the roots of the unknowns
  have root : ∀ (k : Nat) p, (vl_mf l [])[k]? = some p → ∃ A, dv_at u S.2.2.2.2 A (u.2.1 25 k) ∧ vx_sd (dl_tw s) (dl_tc (vl_kf l [])) tm' S (fun _ => rf_b) 0 (qx_sh p.2) A [] ∧ (vx_lh A ≤ 67 ∧ vx_hh A ≤ 20 ∧ vx_hz A ≤ 1024) ∧ wd_v th S.2.2.2.2 (A, dv_lk [], 0) = vq_lm (rf_args (qx_sh p.2)).length (th (k : Int)) ∧ wk_kc (u.1 19 2) A ∧ vx_ha A = 0 := fun k p hp => by
    have hk : k < (vl_mf l []).length := (List.getElem?_eq_some_iff.mp hp).1
    obtain ⟨A, p', e1, a1, a2, a3, a4, a5, a6⟩ := dx_root (tc := dl_tc (vl_kf l [])) htm hI E7 hk (by omega) h6 hle (dx_fr_w hfr) hS (hro trivial k hk)
    rw [hp] at e1
    have ep : p = p' := Option.some.inj e1
    subst ep
    exact ⟨A, by rw [(hF.same 25 rfl).2]; exact dv_at_fr (Int.le_refl _) nfsu a1, a2, a3, a4, a5 _, a6⟩
  have wtr : ∀ (k : Nat) p, (vl_mf l [])[k]? = some p → (wt (dl_tc (vl_kf l [])) ((vl_kf l []).length : Int) (wk_ht tm') (vq_lm (rf_args (qx_sh p.2)).length (th (k : Int)))).1 (fun _ => rf_b) 0 (qx_sh p.2) := fun k p hp => by
    obtain ⟨A, a1, a2, _, a4, a5, _⟩ := root k p hp
    have sg := (a2 trivial).1.2.1
    obtain ⟨_, _, _, _, _, _, _, _, tr⟩ := id a1
    have bl : ∃ r, vx_bl rk r A := by
      obtain ⟨N, hN⟩ := dk_bl rk A
      exact ⟨N, hN⟩
    obtain ⟨r, hr⟩ := bl
    have w := wt_sd (nC := u.1 19 2) g3 hS ho hrk hbt hr tr a5 a2
    rw [n19] at w
    have a4' : vx_val th S.2.2.2.2 A (dv_lk []) 0 = vq_lm (rf_args (qx_sh p.2)).length (th (k : Int)) := a4
    rw [a4'] at w
    exact w
  -- what is numbered
  have rows : wt_rows (wz_al th (vl_mf l []).length) := by
    refine wd_rows hN (fun m m0 m1 => (M4 m m0 m1).1) (fun p hp m e => ?_) (fun p hp => ?_)
    · have hm : p.1 ∈ (wz_al th (vl_mf l []).length).map Prod.fst := List.mem_map_of_mem hp
      obtain ⟨v, _, hv⟩ := wz_al_mem.mp hm
      obtain ⟨m', e', hm'⟩ := wz_oc_op hrk W hS ho nn hS.2.2 (rk v + 1) v (Nat.lt_succ_self _) hv
      have : m = m' := by omega
      rw [this]
      exact hm'
    · refine wz_al_P (P := fun xs => ∀ y ∈ xs, 0 ≤ y) (th := th) (fun k hk => ?_) p hp
      have w := wtr k _ (List.getElem?_eq_getElem hk)
      have w' := (wt_hr).1 w
      rw [we_on_1 (vq_lm_on (hon _) _)] at w'
      exact wz_hr_lm w'
  have inal : ∀ (k : Nat), k < (vl_mf l []).length → ∀ x, wz_oc x (th (k : Int)) → x ∈ (wz_al th (vl_mf l []).length).map Prod.fst := fun k hk x hx => wz_al_mem.mpr ⟨(k : Int), ⟨by omega, by omega⟩, hx⟩
  -- a term at the bottom of the pile
  have bot : ∀ {A : rf_N} {ty : rf_T}, vx_sd (dl_tw s) (dl_tc (vl_kf l [])) tm' S (fun _ => rf_b) 0 ty A [] → wk_tb ty → (vx_lh A ≤ 67 ∧ vx_hh A ≤ 26 ∧ vx_hz A ≤ 1024) → vx_ha A ≤ 84 → wk_kc (u.1 19 2) A → (∀ x, wz_oc x (vx_val th S.2.2.2.2 A (dv_lk []) 0) → x ∈ (wz_al th (vl_mf l []).length).map Prod.fst) → wk_T (dl_tw s) (dl_tc (vl_kf l [])) tm' S th (u.1 19 2) 0 (wz_al th (vl_mf l []).length) 0 A [] 0 0 := fun {A ty} h1 h2 h3 h4 h5 h6 => fun _ => ⟨⟨fun _ => rf_b, ty, h1, h2, fun l0 q1 q2 => absurd q2 (by omega)⟩, fun _ => ⟨[], vx_wu_nil S A, h3, by show (0 : Int) + (vx_lh A : Int) ≤ 134 + ((0 : Nat) : Int) + ((vx_lc S [] : Nat) : Int); omega, by show (0 : Int) + (vx_lh A : Int) ≤ 1000 + 67 * ((vx_ls (vx_rw S) [] : Nat) : Int); omega, by have := h3.2.1; omega⟩, fun _ => ⟨[], vx_wu_nil S A, h4, by omega⟩, h5, h6⟩
  refine ⟨dl_tw s, dl_tc (vl_kf l []), s.1 22 2, dv_Q (dl_AR s) tl, th, rk, wy_nm b n (vl_kf l []), S, PR, tm', dl_TV s, dl_AR s, tl, fun _ => ⟨⟨htx, MG0, fun v v0 v1 => hle.2.1 v v0 (by show v < s.1 22 2; omega)⟩, rows, fun _ _ _ => rfl, ⟨⟨dl_tv s, fun v T h => dl_tv_eq h⟩, hck⟩, wtr⟩, fun _ => ⟨hG, hN, ⟨hS, ho, hrk⟩, hbod, fun x x0 x1 => ?_, fun v hv => ?_, dl_tc_5 E6⟩, fun _ => Or.inl (by omega), ⟨by rw [e22]; exact lM.symm, fun k p hp => ?_⟩, ?_, fun k A B hk => ?_⟩
  · obtain ⟨c1, c2⟩ := wk_nm_of (l := l) ⟨n0, n240⟩ hbb hE (vl_kf_K (Int.le_refl _) hX (fun _ h => absurd h List.not_mem_nil)) x0 (by omega)
    obtain ⟨d1, d2⟩ := wk_Nm_fr e19 (fsu.same 20 rfl).2 (fsu.same 2 rfl).1 (fsu.same 3 rfl).2 (fsu.same 5 rfl).2 (fsu.same 6 rfl).2 c1
    exact ⟨d1, by rw [d2, c2]⟩
  · obtain ⟨c1, c2⟩ := dl_tw_ty hv
    have e8 : u.1 11 8 = s.1 11 8 := by rw [(hF.same 11 rfl).1]; exact fv.1
    have e17 : u.2.1 17 = s.2.1 17 := by rw [(hF.same 17 rfl).2]; exact fv.2
    rw [e8, e17]
    exact ⟨c1, wk_ty_c (by rw [(fsu.same 8 rfl).1]) (fsu.same 9 rfl).2 (fsu.same 10 rfl).2 c2⟩
  · obtain ⟨A, a1, a2, a3, a4, a5, a6⟩ := root k p hp
    have hk : k < (vl_mf l []).length := (List.getElem?_eq_some_iff.mp hp).1
    have p5 : qx_at p.2 ≤ 5 := E7 p (List.mem_of_getElem? hp)
    have p6 := rf_at_sh p.2
    have a4' : vx_val th S.2.2.2.2 A (dv_lk []) 0 = vq_lm (rf_args (qx_sh p.2)).length (th (k : Int)) := a4
    refine ⟨A, a1, bot a2 (wk_tb_5 (by omega)) ⟨a3.1, by omega, a3.2.2⟩ (by omega) a5 (fun x hx => inal k hk x (Classical.byContradiction (fun c => wz_lm_oc c _ (by rw [a4'] at hx; exact hx)))), a4⟩
  · obtain ⟨_, _, _, ⟨q1, _⟩, _⟩ := hXd trivial
    rw [e18]
    exact q1
  · obtain ⟨_, _, _, _, q2⟩ := hXd trivial
    obtain ⟨⟨r1, r2⟩, ty0, s1, s2⟩ := q2 k A B hk
    have hq := List.mem_of_getElem? hk
    obtain ⟨ty, y1, y2, y3⟩ := hty (A, B) hq
    have side : ∀ {A : rf_N} {z : Int}, dv_at s (dl_AR s) A z → dv_s1 (dl_tw s) (dl_tc (vl_kf l [])) (dl_tm (vl_mf l [])) (dv_S0 s (dl_ra (vl_mf l [])) (dl_AR s)) ty0 A → (vx_ty (dl_tw s) (dl_tc (vl_kf l [])) (dl_tm (vl_mf l [])) (dl_AR s) A).1 ty → vx_ha A ≤ 84 → wk_kc (u.1 19 2) A → dv_at u S.2.2.2.2 A z ∧ wk_T (dl_tw s) (dl_tc (vl_kf l [])) tm' S th (u.1 19 2) 0 (wz_al th (vl_mf l []).length) 0 A [] 0 0 ∧ wd_v th S.2.2.2.2 (A, dv_lk [], 0) = vx_val th (dl_AR s) A (dv_lk []) 0 := fun {A z} hat hs1 hty1 h84 hkc1 => by
      obtain ⟨⟨in0, sg0, _⟩, fv0, nb0, bd0⟩ := hs1 trivial
      have idx : ∀ j ∈ rf_idx A, S.2.2.2.2 j = dl_AR s j := fun j hj => hle.2.2.2 j (in0.2.1 j hj)
      have nf : dv_nf (s.1 11 6) (dl_AR s) S.2.2.2.2 s t := fun _ => ⟨f1a, fun j hj => hle.2.2.2 j hj⟩
      have at1 : dv_at u S.2.2.2.2 A z := dv_at_fr (Int.le_refl _) nfsu (dv_at_fr (Int.le_refl _) nf hat)
      obtain ⟨_, _, _, _, _, _, _, _, tr⟩ := id at1
      refine ⟨at1, bot (ty := ty) (fun _ => ⟨⟨vx_in_le hle in0, sg0, (vx_ty_cg (fun m i hm => htm m i (in0.1 m hm).2) idx).1 _ hty1⟩, fun z hz => absurd hz (show ¬ (0 : Int) ≤ -1 by decide), ⟨Int.le_refl _, vx_ck_nil 0⟩, fun z hz => ?_, vx_nb_mono (fun z hz => absurd hz List.not_mem_nil) nb0⟩) y1 bd0 h84 hkc1 (fun x hx => ?_), ?_⟩
      · exfalso
        refine fv0 z (vx_fv_mono' (U := vx_U S) in0.2.2 (fun m i hm hi _ => ?_) ((vx_fv_ar idx).mp hz))
        exact (vx_U_cl (dv_S0 s (dl_ra (vl_mf l [])) (dl_AR s))).1 m (i : Int) rfl (by omega) hi
      · obtain ⟨m, m1, m2⟩ := we_val_oc hon (dw_nn_tr tr) hx
        obtain ⟨m3, m4⟩ := in0.1 m m1
        have m4' : m < s.1 22 2 := m4
        exact wz_al_mem.mpr ⟨m, ⟨m3, by omega⟩, m2⟩
      · exact vx_val_th (fun _ _ => rfl) idx
    have ea : u.2.1 26 = s.2.1 26 := (fsu.same 26 rfl).2
    rw [ea]
    exact ⟨side r1 s1 y2 (hha (A, B) hq).1 (hkc (A, B) hq).1, side r2 s2 y3 (hha (A, B) hq).2 (hkc (A, B) hq).2⟩
end
section
/-! ===== the desk's solve, with what it holds then ===== -/
/-- solve answers z in s, t is left -/
def dk_SO (b : Nat → Int) (n : Int) (l : List vl_I) (s : sx_S) (z : Int) (t : sx_S) : Prop := True → dl_SO b n l s z t ∧ (s.1 0 2 ≠ 0 → s.1 0 3 = -1 → z = 0 → wk_D b n l t) ∧ (s.1 0 2 = 0 ∨ s.1 0 3 ≠ -1 → t = s)
theorem c_k_solve {sL : Nat} {sx : Nat → Int32} (hsL : sL ≤ 3072) (d : Nat) (hd : 14 ≤ d) : ∀ (b : Nat → Int) (n : Int) (l : List vl_I) (s : sx_S) (K : Int → sx_S → Prop), cx_I s → (s.1 0 2 ≠ 0 → s.1 0 3 = -1 → dk_LD b n l s) → (∀ z t, dk_SO b n l s z t → K z t) → sx_C sL sx d 141 [.inr (.inl 0)] s K := by
  intro b n l s K hI hL hK
  obtain ⟨d, rfl⟩ : ∃ e, d = e + 2 := ⟨d - 2, by omega⟩
  refine sx_meth (wr := true) (n := 400) hsL (e := eX11_solve) rfl (w_dw_solve (Q := fun _ _ _ => False) (G := fun z t => cx_I t ∧ cx_F [(11, 17), (29, 54)] s t ∧ ((z = 0 ∧ ¬ vl_sat (px_SN b n) l) ∨ (z = 1 ∧ (s.1 0 2 ≠ 0 ∧ s.1 0 3 = -1) ∧ dx_U b n l s t))) (G2 := fun t u => cx_I u ∧ cx_F [(29, 37), (55, 65)] (sx_uf t.1 0 3 0, t.2) u ∧ wk_D b n l u ∧ vl_sat (px_SN b n) l) (fun c2 c3 K' hK' => ?_) (fun z t h => ⟨h.1, ?_⟩) (fun t ht iu K' hK' => ?_) (fun t u h => h.1) hI (fun c => ?_) (fun c2 c3 => ?_) (fun c2 c3 t ht => ?_) (fun c2 c3 t ht u u2 => ?_))
  · refine c_dx_unI hsL (d + 1) (by omega) b n l s K' hI ((hL c2 c3 trivial).1 trivial).1 (fun t a1 a2 a3 => hK' 0 t ⟨a1, a2, Or.inl ⟨rfl, a3⟩⟩) (fun t a => hK' 1 t ?_)
    obtain ⟨_, _, _, _, _, q1, _, q3, _⟩ := a trivial
    exact ⟨(q1 trivial).1, (q3 trivial).1.2, Or.inr ⟨rfl, ⟨c2, c3⟩, a⟩⟩
  · rcases h.2.2 with ⟨q, _⟩ | ⟨q, _⟩
    · exact Or.inl q
    · exact Or.inr q
  · obtain ⟨a1, a2, a3⟩ := ht
    rcases a3 with ⟨q, _⟩ | ⟨_, ⟨c2, c3⟩, hU⟩
    · exact absurd q (by decide)
    · obtain ⟨hLD, hro⟩ := (hL c2 c3 trivial).1 trivial
      obtain ⟨⟨n0, n240⟩, hX, hck, ⟨bb, hE⟩, hpr, h6, h10⟩ := hLD trivial
      obtain ⟨tl, S, PR, tm', htm, hG, hle, hfr, htx, hB, hXd, hty⟩ := hU trivial
      obtain ⟨g1, g2, g3, g4, ⟨_, g6⟩, g7, g8⟩ := hG trivial
      obtain ⟨⟨W, B1, Sc, rk, hrk⟩, TS⟩ := g3 trivial
      obtain ⟨th, hS, ho, _⟩ := vx_fin W B1 hrk Sc
      obtain ⟨_, _, hE3, _, _, E7⟩ := hE trivial
      have lM := (hE3 trivial).1
      have m5 := (vl_mf_5 hck (by show 0 ≤ 5; decide) (by decide)).1
      obtain ⟨ls, l1, hR⟩ := dw_R hI E7 (by omega) h6 hle (dx_fr_w hfr) hS hro
      have hF0 : cx_F [(0, 0)] t ((sx_uf t.1 0 3 0, t.2) : sx_S) := cx_F_uf rfl (cx_F_refl _ _)
      have hG' : dv_G (dl_tw s) (dl_tc (vl_kf l [])) (s.1 22 2) (dv_Q (dl_AR s) tl) (sx_uf t.1 0 3 0, t.2) S PR tm' [] [] := fun _ => by
        have nf : dv_nf (t.1 11 6) S.2.2.2.2 S.2.2.2.2 t ((sx_uf t.1 0 3 0, t.2) : sx_S) := dv_nf_F _ hF0 (by decide)
        exact ⟨iu, dv_M_fr (Int.le_refl _) (by rw [(hF0.same 11 rfl).1]) nf (by rw [(hF0.same 33 rfl).1]) rfl rfl rfl rfl g2, g3, g4, ⟨trivial, by rw [(hF0.same 39 rfl).1]; exact g6⟩, g7, g8⟩
      have hR' : wd_R S th ((sx_uf t.1 0 3 0, t.2) : sx_S) ls := fun _ => by
        obtain ⟨r1, r2⟩ := hR trivial
        refine ⟨by rw [(hF0.same 22 rfl).1]; exact r1, fun k A hA => ?_⟩
        obtain ⟨y1, y2⟩ := r2 k A hA
        exact ⟨dv_at_fr (Int.le_refl _) (dv_nf_F (t.1 11 6) hF0 (by decide)) y1, y2⟩
      refine c_dw_nu hsL (d + 1) (by omega) S PR tm' ls _ K' hG' hS ho hrk (by omega) hR' (fun u u1 u2 u3 u4 u5 => hK' u ⟨u1, cx_F_step u2 rfl (cx_F_refl _ _), ?_, ?_⟩)
      · rw [l1] at u5
        exact wk_D_mk hI (hL c2 c3) htm hle hfr htx hB hXd hty hS ho hrk (cx_F_step u2 rfl (cx_F_step hF0 rfl (cx_F_refl _ _))) u3 u4 u5
      · refine (vl_sat_iff htx).mpr ⟨th, hS.1, fun v v0 v1 => ?_, g8.1 th hS (fun _ hp => absurd hp List.not_mem_nil)⟩
        have h1 := hS.2.1 v v0 (by have q1 : s.1 22 2 ≤ S.1 := hle.1.1; omega)
        have h2 : S.2.2.1 v = dl_ra (vl_mf l []) v := hle.2.1 v v0 (by show v < s.1 22 2; omega)
        rw [h2] at h1
        exact h1
  · exact hK _ _ (fun _ => ⟨fun _ => ⟨hI, cx_F_refl _ _, ⟨rfl, rfl⟩, fun _ => ⟨rfl, rfl⟩, fun q => absurd c q, fun q => absurd c q⟩, fun q => absurd c q, fun _ => rfl⟩)
  · exact hK _ _ (fun _ => ⟨fun _ => ⟨hI, cx_F_refl _ _, ⟨rfl, rfl⟩, fun q => absurd q c2, fun _ _ => ⟨rfl, rfl⟩, fun _ q => absurd q c3⟩, fun _ q => absurd q c3, fun _ => rfl⟩)
  · obtain ⟨a1, a2, a3⟩ := ht
    have e0 : t.1 0 = s.1 0 := (a2.same 0 rfl).1
    have e3 : ((sx_uf t.1 0 3 1, t.2) : sx_S).1 0 3 = 1 := px_uS
    have ns : ¬ vl_sat (px_SN b n) l := by
      rcases a3 with q | q
      · exact q.2
      · exact absurd q.1 (by decide)
    refine hK _ _ (fun _ => ⟨fun _ => ⟨cx_I_uf rfl rfl a1 (by omega) (by omega), cx_F_uf rfl (cx_F_step a2 rfl (cx_F_refl _ _)), ⟨?_, ?_⟩, fun q => absurd q c2, fun _ q => absurd c3 q, fun _ _ => ⟨rfl, Or.inr ⟨e3, ns⟩⟩⟩, fun _ _ q => ?_, fun q => ?_⟩)
    · show sx_uf t.1 0 3 1 0 1 = _
      rw [sx_uf_if, if_neg (by omega), e0]
    · show sx_uf t.1 0 3 1 0 2 = _
      rw [sx_uf_if, if_neg (by omega), e0]
    · rw [e3] at q
      exact absurd q (by decide)
    · exact absurd q (by omega)
  · obtain ⟨a1, a2, a3⟩ := ht
    obtain ⟨u1, u2, u3, ns⟩ := u2
    have e0 : t.1 0 = s.1 0 := (a2.same 0 rfl).1
    have eu : u.1 0 = sx_uf t.1 0 3 0 0 := (u2.same 0 rfl).1
    have e3 : u.1 0 3 = 0 := by
      rw [eu]
      exact px_us _ _ _ _
    refine hK _ _ (fun _ => ⟨fun _ => ⟨u1, cx_F_step u2 rfl (cx_F_uf rfl (cx_F_step a2 rfl (cx_F_refl _ _))), ⟨?_, ?_⟩, fun q => absurd q c2, fun _ q => absurd c3 q, fun _ _ => ⟨rfl, Or.inl ⟨e3, ns⟩⟩⟩, fun _ _ _ => u3, fun q => ?_⟩)
    · rw [eu]
      show sx_uf t.1 0 3 0 0 1 = _
      rw [sx_uf_if, if_neg (by omega), e0]
    · rw [eu]
      show sx_uf t.1 0 3 0 0 2 = _
      rw [sx_uf_if, if_neg (by omega), e0]
    · exact absurd q (by omega)
end
section
/-! ===== the desk's size, letter, side, sideLetter, exactly ===== -/
theorem wk_T_mk {tv tc : Int → rf_T} {tm : Int → Int → rf_T} {S : vx_S} {th : Int → rf_N} {nC nC' : Int} {bs : Nat} {a : List (Int × List Int)} {i : Nat} {A : rf_N} {c : List (Int × Int)} {L mk : Int} (e : nC' = nC) (h : wk_T tv tc tm S th nC bs a i A c L mk) : wk_T tv tc tm S th nC' bs a i A c L mk := by
  rw [e]
  exact h
/-- writing leaves what the desk holds -/
theorem wk_D_st {b : Nat → Int} {n : Int} {l : List vl_I} {tv tc : Int → rf_T} {n0 : Int} {Qs : (Int → rf_N) → Prop} {th : Int → rf_N} {rk : Int → Nat} {nm : Int → List Int} {s t : sx_S} {S : vx_S} {PR : Int → List (Int × Int)} {tm : Int → Int → rf_T} {TV : Int → qx_T → Prop} {AR : Nat → List Int} {tl : vw_L} (z1 : wy_Z b n l TV AR tl S th (wk_ht tm) nm) (z2 : wk_X tv tc n0 Qs th rk nm s S PR tm (wz_al th (vl_mf l []).length)) (z4 : s.1 22 2 = ((vl_mf l []).length : Int) ∧ ∀ (k : Nat) p, (vl_mf l [])[k]? = some p → ∃ A, dv_at s S.2.2.2.2 A (s.2.1 25 k) ∧ wk_T tv tc tm S th (s.1 19 2) 0 (wz_al th (vl_mf l []).length) 0 A [] 0 0 ∧ wd_v th S.2.2.2.2 (A, dv_lk [], 0) = vq_lm (rf_args (qx_sh p.2)).length (th (k : Int))) (z5 : s.1 18 10 = (tl.length : Int) ∧ ∀ (k : Nat) A B, tl[k]? = some (A, B) → (dv_at s S.2.2.2.2 A (s.2.1 26 (2 * k)) ∧ wk_T tv tc tm S th (s.1 19 2) 0 (wz_al th (vl_mf l []).length) 0 A [] 0 0 ∧ wd_v th S.2.2.2.2 (A, dv_lk [], 0) = vx_val th AR A (dv_lk []) 0) ∧ dv_at s S.2.2.2.2 B (s.2.1 26 (2 * k + 1)) ∧ wk_T tv tc tm S th (s.1 19 2) 0 (wz_al th (vl_mf l []).length) 0 B [] 0 0 ∧ wd_v th S.2.2.2.2 (B, dv_lk [], 0) = vx_val th AR B (dv_lk []) 0) (hI : cx_I t) (hf : wk_fw s t) (z3 : wk_ink (wk_E nm (wk_ht tm)) th S (wz_al th (vl_mf l []).length) t) : wk_D b n l t := fun _ => by
  have hF := (hf trivial).1
  have nf : dv_nf (s.1 11 6) S.2.2.2.2 S.2.2.2.2 s t := dv_nf_F _ hF (by decide)
  have e19 : t.1 19 2 = s.1 19 2 := by rw [(hF.same 19 rfl).1]
  refine ⟨tv, tc, n0, Qs, th, rk, nm, S, PR, tm, TV, AR, tl, z1, wk_X_fw z2 hI hf, z3, ⟨by rw [(hF.same 22 rfl).1]; exact z4.1, fun k p hp => ?_⟩, by rw [(hF.same 18 rfl).1]; exact z5.1, fun k A B hk => ?_⟩
  · obtain ⟨A, a1, a2, a3⟩ := z4.2 k p hp
    exact ⟨A, by rw [(hF.same 25 rfl).2]; exact dv_at_fr (Int.le_refl _) nf a1, wk_T_mk e19 a2, a3⟩
  · obtain ⟨⟨a1, a2, a5⟩, a3, a4, a6⟩ := z5.2 k A B hk
    rw [(hF.same 26 rfl).2]
    exact ⟨⟨dv_at_fr (Int.le_refl _) nf a1, wk_T_mk e19 a2, a5⟩, dv_at_fr (Int.le_refl _) nf a3, wk_T_mk e19 a4, a6⟩
/-- other calls leave it too -/
theorem wk_D_F {b : Nat → Int} {n : Int} {l : List vl_I} {s t : sx_S} {V : List (Nat × Nat)} (hI : cx_I t) (hF : cx_F V s t) (hV : cx_le V [(0, 1), (66, 124)] = true) (h : wk_D b n l s) : wk_D b n l t := fun _ => by
  obtain ⟨tv, tc, n0, Qs, th, rk, nm, S, PR, tm, TV, AR, tl, z1, z2, z3, z4, z5⟩ := h trivial
  have hF1 : cx_F [(0, 1), (66, 124)] s t := cx_F_step hF hV (cx_F_refl _ _)
  have nf : dv_nf (s.1 11 6) S.2.2.2.2 S.2.2.2.2 s t := dv_nf_F _ hF1 (by decide)
  obtain ⟨hG, hN, hS, hB, hnm, hty, htc⟩ := z2 trivial
  obtain ⟨g1, g2, g3, g4, ⟨_, g6⟩, g7, g8⟩ := hG trivial
  have e19 : t.1 19 = s.1 19 := (hF1.same 19 rfl).1
  have e19' : t.1 19 2 = s.1 19 2 := by rw [e19]
  have e11 : t.1 11 = s.1 11 := (hF1.same 11 rfl).1
  have e17 : t.2.1 17 = s.2.1 17 := (hF1.same 17 rfl).2
  have e55 : t.1 55 = s.1 55 := (hF1.same 55 rfl).1
  have e56 : t.1 56 = s.1 56 := (hF1.same 56 rfl).1
  have e65 : t.2.1 65 = s.2.1 65 := (hF1.same 65 rfl).2
  refine ⟨tv, tc, n0, Qs, th, rk, nm, S, PR, tm, TV, AR, tl, z1, fun _ => ⟨fun _ => ⟨hI, dv_M_fr (Int.le_refl _) (by rw [e11]) nf (by rw [(hF1.same 33 rfl).1]) (hF1.same 34 rfl).2 (hF1.same 35 rfl).2 (hF1.same 36 rfl).2 (hF1.same 37 rfl).2 g2, g3, g4, ⟨trivial, by rw [(hF1.same 39 rfl).1]; exact g6⟩, g7, g8⟩, wd_N_same (by rw [e55]) (hF1.same 63 rfl).2 (hF1.same 64 rfl).2 hN, hS, by rw [e19]; exact hB, fun x x0 x1 => ?_, fun v hv => ?_, htc⟩, fun _ => ?_, ⟨by rw [(hF1.same 22 rfl).1]; exact z4.1, fun k p hp => ?_⟩, by rw [(hF1.same 18 rfl).1]; exact z5.1, fun k A B hk => ?_⟩
  · obtain ⟨n1, n2⟩ := hnm x x0 (by omega)
    obtain ⟨d1, d2⟩ := wk_Nm_fr e19 (hF1.same 20 rfl).2 (hF1.same 2 rfl).1 (hF1.same 3 rfl).2 (hF1.same 5 rfl).2 (hF1.same 6 rfl).2 n1
    exact ⟨d1, by rw [d2]; exact n2⟩
  · obtain ⟨v1, v2⟩ := hty v hv
    rw [e11, e17]
    exact ⟨v1, wk_ty_c (by rw [(hF1.same 8 rfl).1]) (hF1.same 9 rfl).2 (hF1.same 10 rfl).2 v2⟩
  · have z3' := z3 trivial
    rw [e55, e56]
    rcases z3' with q | ⟨A, a1, a2⟩
    · exact Or.inl q
    · refine Or.inr ⟨A, dv_at_fr (Int.le_refl _) nf a1, ?_⟩
      rcases a2 with ⟨c1, c2, c3⟩ | c
      · exact Or.inl ⟨c1, wk_Dp_c (by rw [e55]) e65 c2, c3⟩
      · exact Or.inr c
  · obtain ⟨A, a1, a2, a3⟩ := z4.2 k p hp
    exact ⟨A, by rw [(hF1.same 25 rfl).2]; exact dv_at_fr (Int.le_refl _) nf a1, wk_T_mk e19' a2, a3⟩
  · obtain ⟨⟨a1, a2, a5⟩, a3, a4, a6⟩ := z5.2 k A B hk
    rw [(hF1.same 26 rfl).2]
    exact ⟨⟨dv_at_fr (Int.le_refl _) nf a1, wk_T_mk e19' a2, a5⟩, dv_at_fr (Int.le_refl _) nf a3, wk_T_mk e19' a4, a6⟩
/-- the number of bytes that is answered for a text o -/
def wy_sz (o : List Int) : Int := if o.length ≤ 4000 then (o.length : Int) else -1
/-- the byte that is answered -/
def wy_by (o : List Int) (i : Int) : Int := if o.length ≤ 4000 ∧ 0 ≤ i ∧ i < (o.length : Int) then o.getD i.toNat (-1) else -1
/-- o is what is written of the unknown k -/
def wy_O (b : Nat → Int) (n : Int) (l : List vl_I) (k : Int) (o : List Int) : Prop := True → ∃ (TV : Int → qx_T → Prop) (AR : Nat → List Int) (tl : vw_L) (S : vx_S) (th : Int → rf_N) (ht : Int → List rf_T) (nm : Int → List Int) (p : Int × qx_T), wy_Z b n l TV AR tl S th ht nm ∧ (vl_mf l [])[k.toNat]? = some p ∧ o = wy_o l th ht nm p k.toNat
theorem wk_Dp_at {t : sx_S} {o : List Int} (h : wb_Dp t o) {i : Int} (i0 : 0 ≤ i) (i1 : i < (o.length : Int)) (i4 : i < 4000) : t.2.1 65 i.toNat = o.getD i.toNat (-1) := by
  have h1 := h.2 i.toNat (by omega) (by omega)
  rw [List.getD_eq_getElem?_getD, h1]
  rfl
/-- what write answers for one of the roots -/
theorem c_K_root {b : Nat → Int} {n : Int} {l : List vl_I} {sL : Nat} {sx : Nat → Int32} (hsL : sL ≤ 3072) (d : Nat) (hd : 22 ≤ d) : ∀ (z : Int) (s : sx_S) (K : Int → sx_S → Prop) (PO : List Int → Prop), wk_D b n l s → ((∃ k : Nat, k < (vl_mf l []).length ∧ z = s.2.1 25 k ∧ ∀ o, wy_O b n l (k : Int) o → PO o) ∨ (∃ (k : Nat) (si : Int), (k : Int) < s.1 18 10 ∧ ((si = 0 ∧ z = s.2.1 26 (2 * k)) ∨ (si ≠ 0 ∧ z = s.2.1 26 (2 * k + 1))) ∧ ∀ o, wy_Os b n l (k : Int) si o → PO o)) → (∀ zz t o, cx_I t → wk_fw s t → wk_D b n l t → PO o → zz = wy_sz o → (o.length ≤ 4000 → wb_Dp t o) → K zz t) → sx_C sL sx d 123 [.inr (.inl 55), .inl z] s K := by
  intro z s K PO hD hz hK
  obtain ⟨tv, tc, n0, Qs, th, rk, nm, S, PR, tm, TV, AR, tl, z1, z2, z3, z4, z5⟩ := hD trivial
  have key : ∀ A, dv_at s S.2.2.2.2 A z → wk_T tv tc tm S th (s.1 19 2) 0 (wz_al th (vl_mf l []).length) 0 A [] 0 0 → PO (wk_out (wk_E nm (wk_ht tm)) th S (wz_al th (vl_mf l []).length) A) → sx_C sL sx d 123 [.inr (.inl 55), .inl z] s K := fun A a1 a2 hp => by
    refine c_k_write hsL d hd S PR tm _ A z s K z2 a1 a2 z3 (fun zz t t1 t2 t3 t4 => hK zz t _ t1 t2 (wk_D_st z1 z2 z4 z5 t1 t2 t3) hp ?_ (fun q => ?_))
    · unfold wy_sz
      rcases t4 with ⟨c1, c2, _⟩ | ⟨c1, c2⟩
      · rw [if_pos c1]
        exact c2
      · rw [if_neg (by omega)]
        exact c2
    · rcases t4 with ⟨_, _, c3⟩ | ⟨c1, _⟩
      · exact c3
      · omega
  rcases hz with ⟨k, k1, k2, k3⟩ | ⟨k, si, k1, k2, k3⟩
  · obtain ⟨A, a1, a2, a3⟩ := z4.2 k _ (List.getElem?_eq_getElem k1)
    rw [← k2] at a1
    refine key A a1 a2 (k3 _ (fun _ => ⟨TV, AR, tl, S, th, wk_ht tm, nm, _, z1, by rw [Int.toNat_natCast]; exact List.getElem?_eq_getElem k1, ?_⟩))
    unfold wk_out wy_o
    rw [a3, Int.toNat_natCast]
  · have hk : k < tl.length := by have := z5.1; omega
    obtain ⟨l1, l2⟩ := vs_tl_mk (z1 trivial).1.1
    have hke : k < (vl_eq l [] []).length := by omega
    have hpe := List.getElem?_eq_getElem hke
    obtain ⟨W, V, x, y, w1, w2, w3⟩ := l2 k _ hpe
    obtain ⟨⟨a1, a2, a5⟩, a3, a4, a6⟩ := z5.2 k W V w1
    rcases k2 with ⟨k2, k4⟩ | ⟨k2, k4⟩
    · rw [← k4] at a1
      refine key _ a1 a2 (k3 _ (fun _ => ⟨TV, AR, tl, S, th, wk_ht tm, nm, _, W, x, z1, by rw [Int.toNat_natCast]; exact hpe, by rw [if_pos k2]; exact w2, ?_⟩))
      unfold wk_out
      rw [a5]
    · rw [← k4] at a3
      refine key _ a3 a4 (k3 _ (fun _ => ⟨TV, AR, tl, S, th, wk_ht tm, nm, _, V, y, z1, by rw [Int.toNat_natCast]; exact hpe, by rw [if_neg k2]; exact w3, ?_⟩))
      unfold wk_out
      rw [a6]
theorem c_K_size {b : Nat → Int} {n : Int} {l : List vl_I} {sL : Nat} {sx : Nat → Int32} (hsL : sL ≤ 3072) (d : Nat) (hd : 26 ≤ d) : ∀ (a0 : Int) (s : sx_S) (K : Int → sx_S → Prop), cx_I s → (-2147483648 ≤ a0 ∧ a0 ≤ 2147483647) → (s.1 0 2 ≠ 0 → s.1 0 3 = 0 → wk_D b n l s) → (∀ zz t, cx_I t → wk_fw s t → (s.1 0 2 ≠ 0 → s.1 0 3 = 0 → wk_D b n l t) → (((s.1 0 2 ≠ 0 ∧ s.1 0 3 = 0 ∧ 0 ≤ a0 ∧ a0 < s.1 22 2) ∧ ∃ o, wy_O b n l a0 o ∧ zz = wy_sz o) ∨ (¬ (s.1 0 2 ≠ 0 ∧ s.1 0 3 = 0 ∧ 0 ≤ a0 ∧ a0 < s.1 22 2) ∧ zz = -1)) → K zz t) → sx_C sL sx d 143 [.inr (.inl 0), .inl a0] s K := by
  intro a0 s K hI p0 hD hK
  refine c_k_size hsL d hd a0 s K (fun zz t => cx_I t ∧ wk_fw s t ∧ wk_D b n l t ∧ (-1 ≤ zz ∧ zz ≤ 4000) ∧ ∃ o, wy_O b n l a0 o ∧ zz = wy_sz o) hI p0 (fun zz t h => h.2.2.2.1) (fun c d' hd' K' hK' => ?_) (fun c zz t h => hK zz t h.1 h.2.1 (fun _ _ => h.2.2.1) (Or.inl ⟨c, h.2.2.2.2⟩)) (fun c => hK (-1) s hI (wk_fw_of (wk_fr_refl s)) hD (Or.inr ⟨c, rfl⟩))
  have hDs := hD c.1 c.2.1
  have n22 : s.1 22 2 = ((vl_mf l []).length : Int) := by
    obtain ⟨_, _, _, _, _, _, _, _, _, _, _, _, _, _, _, _, z4, _⟩ := hDs trivial
    exact z4.1
  refine c_K_root hsL d' hd' _ s K' (fun o => wy_O b n l a0 o) hDs (Or.inl ⟨a0.toNat, by omega, rfl, fun o ho => by rw [Int.toNat_of_nonneg c.2.2.1] at ho; exact ho⟩) (fun zz t o t1 t2 t3 t4 t5 _ => hK' zz t ⟨t1, t2, t3, ?_, o, t4, t5⟩)
  rw [t5]
  unfold wy_sz
  by_cases q : o.length ≤ 4000
  · rw [if_pos q]
    omega
  · rw [if_neg q]
    omega
theorem c_K_letter {b : Nat → Int} {n : Int} {l : List vl_I} {sL : Nat} {sx : Nat → Int32} (hsL : sL ≤ 3072) (d : Nat) (hd : 26 ≤ d) : ∀ (a0 a1 : Int) (s : sx_S) (K : Int → sx_S → Prop), cx_I s → (-2147483648 ≤ a0 ∧ a0 ≤ 2147483647) → (-2147483648 ≤ a1 ∧ a1 ≤ 2147483647) → (s.1 0 2 ≠ 0 → s.1 0 3 = 0 → wk_D b n l s) → (∀ zz t, cx_I t → wk_fw s t → (s.1 0 2 ≠ 0 → s.1 0 3 = 0 → wk_D b n l t) → (-2147483648 ≤ zz ∧ zz ≤ 2147483647) → (((s.1 0 2 ≠ 0 ∧ s.1 0 3 = 0 ∧ 0 ≤ a0 ∧ a0 < s.1 22 2) ∧ ∃ o, wy_O b n l a0 o ∧ zz = wy_by o a1) ∨ (¬ (s.1 0 2 ≠ 0 ∧ s.1 0 3 = 0 ∧ 0 ≤ a0 ∧ a0 < s.1 22 2) ∧ zz = -1)) → K zz t) → sx_C sL sx d 144 [.inr (.inl 0), .inl a0, .inl a1] s K := by
  intro a0 a1 s K hI p0 p1 hD hK
  refine c_k_letter hsL d hd a0 a1 s K (fun zz t => cx_I t ∧ wk_fw s t ∧ wk_D b n l t ∧ (-1 ≤ zz ∧ zz ≤ 4000) ∧ ∃ o, wy_O b n l a0 o ∧ zz = wy_sz o ∧ (o.length ≤ 4000 → wb_Dp t o)) hI p0 p1 (fun zz t h => ⟨h.1, h.2.2.2.1⟩) (fun c d' hd' K' hK' => ?_) (fun c zz t h => ?_) (fun c => hK (-1) s hI (wk_fw_of (wk_fr_refl s)) hD (by decide) (Or.inr ⟨c, rfl⟩))
  · have hDs := hD c.1 c.2.1
    have n22 : s.1 22 2 = ((vl_mf l []).length : Int) := by
      obtain ⟨_, _, _, _, _, _, _, _, _, _, _, _, _, _, _, _, z4, _⟩ := hDs trivial
      exact z4.1
    refine c_K_root hsL d' hd' _ s K' (fun o => wy_O b n l a0 o) hDs (Or.inl ⟨a0.toNat, by omega, rfl, fun o ho => by rw [Int.toNat_of_nonneg c.2.2.1] at ho; exact ho⟩) (fun zz t o t1 t2 t3 t4 t5 t6 => hK' zz t ⟨t1, t2, t3, ?_, o, t4, t5, t6⟩)
    rw [t5]
    unfold wy_sz
    by_cases q : o.length ≤ 4000
    · rw [if_pos q]
      omega
    · rw [if_neg q]
      omega
  · obtain ⟨t1, t2, t3, _, o, t4, t5, t6⟩ := h
    have fin : ∀ y, (-2147483648 ≤ y ∧ y ≤ 2147483647) → y = wy_by o a1 → K y t := fun y ry hy => hK y t t1 t2 (fun _ _ => t3) ry (Or.inl ⟨c, o, t4, hy⟩)
    have ra := t1.arr 65 (by decide) rfl a1.toNat
    unfold wy_sz at t5
    unfold wy_by at fin
    by_cases q : o.length ≤ 4000
    · rw [if_pos q] at t5
      have dp := t6 q
      have d10 := dp.1
      refine ⟨fun z0 => by omega, fun _ q1 q2 q3 => fin _ (by omega) ?_, fun _ q1 => fin _ (by decide) ?_⟩
      · rw [if_pos ⟨q, q1, by omega⟩]
        exact wk_Dp_at dp q1 (by omega) q3
      · rw [if_neg (by omega)]
    · rw [if_neg q] at t5
      refine ⟨fun _ => fin _ (by decide) (by rw [if_neg (fun z => q z.1)]), fun z0 => by omega, fun z0 => by omega⟩
theorem wy_sz_r (o : List Int) : -1 ≤ wy_sz o ∧ wy_sz o ≤ 4000 := by
  unfold wy_sz
  by_cases c : o.length ≤ 4000
  · rw [if_pos c]
    omega
  · rw [if_neg c]
    decide
theorem c_K_side {b : Nat → Int} {n : Int} {l : List vl_I} {sL : Nat} {sx : Nat → Int32} (hsL : sL ≤ 3072) (d : Nat) (hd : 26 ≤ d) : ∀ (a0 a1 : Int) (s : sx_S) (K : Int → sx_S → Prop), cx_I s → (-2147483648 ≤ a0 ∧ a0 ≤ 2147483647) → (-2147483648 ≤ a1 ∧ a1 ≤ 2147483647) → (s.1 0 2 ≠ 0 → s.1 0 3 = 0 → wk_D b n l s) → (∀ zz t, cx_I t → wk_fw s t → (s.1 0 2 ≠ 0 → s.1 0 3 = 0 → wk_D b n l t) → (((s.1 0 2 ≠ 0 ∧ s.1 0 3 = 0 ∧ (0 ≤ a0 ∧ a0 < s.1 18 10) ∧ 0 ≤ a1 ∧ a1 ≤ 1) ∧ ∃ o, wy_Os b n l a0 a1 o ∧ zz = wy_sz o) ∨ (¬ (s.1 0 2 ≠ 0 ∧ s.1 0 3 = 0 ∧ (0 ≤ a0 ∧ a0 < s.1 18 10) ∧ 0 ≤ a1 ∧ a1 ≤ 1) ∧ zz = -1)) → K zz t) → sx_C sL sx d 145 [.inr (.inl 0), .inl a0, .inl a1] s K := by
  intro a0 a1 s K hI p0 p1 hD hK
  refine c_k_side hsL d hd a0 a1 s K (fun zz t => cx_I t ∧ wk_fw s t ∧ wk_D b n l t ∧ ∃ o, wy_Os b n l a0 a1 o ∧ zz = wy_sz o) hI p0 p1 (fun zz t h => ?_) (fun c d' hd' K' hK' => ?_) (fun c zz t h => hK zz t h.1 h.2.1 (fun _ _ => h.2.2.1) (Or.inl ⟨c, h.2.2.2⟩)) (fun c => hK (-1) s hI (wk_fw_of (wk_fr_refl s)) hD (Or.inr ⟨c, rfl⟩))
  · obtain ⟨_, _, _, o, _, h⟩ := h
    rw [h]
    exact wy_sz_r o
  · refine c_K_root hsL d' hd' _ s K' (fun o => wy_Os b n l a0 a1 o) (hD c.1 c.2.1) (Or.inr ⟨a0.toNat, a1, by omega, ?_, fun o ho => by rw [Int.toNat_of_nonneg c.2.2.1.1] at ho; exact ho⟩) (fun zz t o t1 t2 t3 t4 t5 _ => hK' zz t ⟨t1, t2, t3, o, t4, t5⟩)
    by_cases q : a1 = 0
    · exact Or.inl ⟨q, by rw [show (2 * a0 + a1).toNat = 2 * a0.toNat by omega]⟩
    · exact Or.inr ⟨q, by rw [show (2 * a0 + a1).toNat = 2 * a0.toNat + 1 by omega]⟩
theorem c_K_sideLetter {b : Nat → Int} {n : Int} {l : List vl_I} {sL : Nat} {sx : Nat → Int32} (hsL : sL ≤ 3072) (d : Nat) (hd : 26 ≤ d) : ∀ (a0 a1 a2 : Int) (s : sx_S) (K : Int → sx_S → Prop), cx_I s → (-2147483648 ≤ a0 ∧ a0 ≤ 2147483647) → (-2147483648 ≤ a1 ∧ a1 ≤ 2147483647) → (-2147483648 ≤ a2 ∧ a2 ≤ 2147483647) → (s.1 0 2 ≠ 0 → s.1 0 3 = 0 → wk_D b n l s) → (∀ zz t, cx_I t → wk_fw s t → (s.1 0 2 ≠ 0 → s.1 0 3 = 0 → wk_D b n l t) → (-2147483648 ≤ zz ∧ zz ≤ 2147483647) → (((s.1 0 2 ≠ 0 ∧ s.1 0 3 = 0 ∧ (0 ≤ a0 ∧ a0 < s.1 18 10) ∧ 0 ≤ a1 ∧ a1 ≤ 1) ∧ ∃ o, wy_Os b n l a0 a1 o ∧ zz = wy_by o a2) ∨ (¬ (s.1 0 2 ≠ 0 ∧ s.1 0 3 = 0 ∧ (0 ≤ a0 ∧ a0 < s.1 18 10) ∧ 0 ≤ a1 ∧ a1 ≤ 1) ∧ zz = -1)) → K zz t) → sx_C sL sx d 146 [.inr (.inl 0), .inl a0, .inl a1, .inl a2] s K := by
  intro a0 a1 a2 s K hI p0 p1 p2 hD hK
  refine c_k_sideLetter hsL d hd a0 a1 a2 s K (fun zz t => cx_I t ∧ wk_fw s t ∧ wk_D b n l t ∧ (-1 ≤ zz ∧ zz ≤ 4000) ∧ ∃ o, wy_Os b n l a0 a1 o ∧ zz = wy_sz o ∧ (o.length ≤ 4000 → wb_Dp t o)) hI p0 p1 p2 (fun zz t h => ⟨h.1, h.2.2.2.1⟩) (fun c d' hd' K' hK' => ?_) (fun c zz t h => ?_) (fun c => hK (-1) s hI (wk_fw_of (wk_fr_refl s)) hD (by decide) (Or.inr ⟨c, rfl⟩))
  · refine c_K_root hsL d' hd' _ s K' (fun o => wy_Os b n l a0 a1 o) (hD c.1 c.2.1) (Or.inr ⟨a0.toNat, a1, by omega, ?_, fun o ho => by rw [Int.toNat_of_nonneg c.2.2.1.1] at ho; exact ho⟩) (fun zz t o t1 t2 t3 t4 t5 t6 => hK' zz t ⟨t1, t2, t3, by rw [t5]; exact wy_sz_r o, o, t4, t5, t6⟩)
    by_cases q : a1 = 0
    · exact Or.inl ⟨q, by rw [show (2 * a0 + a1).toNat = 2 * a0.toNat by omega]⟩
    · exact Or.inr ⟨q, by rw [show (2 * a0 + a1).toNat = 2 * a0.toNat + 1 by omega]⟩
  · obtain ⟨t1, t2, t3, _, o, t4, t5, t6⟩ := h
    have fin : ∀ y, (-2147483648 ≤ y ∧ y ≤ 2147483647) → y = wy_by o a2 → K y t := fun y ry hy => hK y t t1 t2 (fun _ _ => t3) ry (Or.inl ⟨c, o, t4, hy⟩)
    have ra := t1.arr 65 (by decide) rfl a2.toNat
    unfold wy_sz at t5
    unfold wy_by at fin
    by_cases q : o.length ≤ 4000
    · rw [if_pos q] at t5
      have dp := t6 q
      have d10 := dp.1
      refine ⟨fun z0 => by omega, fun _ q1 q2 q3 => fin _ (by omega) ?_, fun _ q1 => fin _ (by decide) ?_⟩
      · rw [if_pos ⟨q, q1, by omega⟩]
        exact wk_Dp_at dp q1 (by omega) q3
      · rw [if_neg (by omega)]
    · rw [if_neg q] at t5
      refine ⟨fun _ => fin _ (by decide) (by rw [if_neg (fun z => q z.1)]), fun z0 => by omega, fun z0 => by omega⟩
end
