/-! ===== the reference: writeFresh, with what it writes ===== -/
section
variable {Ω : Type}
theorem we_gv_1 {pb : Int → Ω → Ω} {v : rf_N} {o : Int → we_A Ω → we_A Ω} (ho : ∀ dp w, (o dp w).1 = w.1) (dp : Int) (w : we_A Ω) : (we_gv pb v o dp w).1 = w.1 := by
  unfold we_gv we_g
  by_cases c : (wz_q v).1 = 0 ∨ rf_len (wz_F v) ≠ 0
  · rw [if_pos c, we_bs_1, ho, we_bs_1]
  · rw [if_neg c, ho]
theorem we_rl_c {E : we_E Ω} {Ts : List rf_T} {Ls : List Int} {p : Nat} {dp : Int} {w : we_A Ω} (hT : p < Ts.length) (hL : p < Ls.length) : (we_W0 E (vq_rl (Ts.drop p) (Ls.drop p) dp)).2 dp w = (we_W0 E (vq_rl (Ts.drop (p + 1)) (Ls.drop (p + 1)) dp)).2 dp (we_gv E.1.1 (vq_cv (Ts.getD p .leaf) (Ls.getD p (-1)) dp) (we_W0 E (vq_cv (Ts.getD p .leaf) (Ls.getD p (-1)) dp)).1 dp (we_b E [32] w)) := by
  have e1 : Ts.getD p .leaf = Ts[p] := by rw [List.getD_eq_getElem?_getD, List.getElem?_eq_getElem hT]; rfl
  have e2 : Ls.getD p (-1) = Ls[p] := by rw [List.getD_eq_getElem?_getD, List.getElem?_eq_getElem hL]; rfl
  rw [List.drop_eq_getElem_cons hT, List.drop_eq_getElem_cons hL, e1, e2]
  exact (we_w_sb (vq_cv_on _ _ _) dp w).2
theorem c_e_writeFresh {E : we_E Ω} (hL : we_L E) {sL : Nat} {sx : Nat → Int32} (hKE : we_K E sL sx) (hsL : sL ≤ 3072) (d : Nat) (hd : 120 ≤ d) (w0 : we_T E sL sx false 9 d) : ∀ (Z : we_A Ω) (P : Int → Prop) (N : Int → rf_T → Prop) (A : rf_N) (y : rf_Y) (x : rf_T) (W : List Nat) (p : Nat) (i b dp nb ib : Int) (s : sx_S) (g : rf_Gh) (K : Int → sx_S → Prop), rf_WW true nb ib s g → rf_CL s g N A y x W p i b → s.2.1 100 i.toNat = 3 → s.2.1 111 (s.2.1 101 i.toNat).toNat = 0 → rf_DI s y (rf_fo (rf_Wd s g.2.2) A).1 dp → (0 ≤ dp ∧ dp ≤ 99900) → s.1 66 71 ≤ 399800 → s.1 66 58 ≤ 399800 → we_G E s g → vr_t s (we_AR E) A → we_J E Z P s (we_V E s A y dp) (vr_1 A) ((we_W E (we_V E s A y dp)).1 dp) → (∀ z t, cx_I t → rf_WF s t → rf_OD t → t.1 66 71 ≤ s.1 66 71 + 36 → t.1 66 58 = s.1 66 58 → we_Z E Z P t → K z t) → sx_C sL sx (d + 2) 211 [.inr (.inl 66), .inl i, .inl b, .inl dp] s K := by
  intro Z P N A y x W p i b dp nb ib s g K hW k h3 ho hDI hdp h71 h58 hG hVt hJ hK
  obtain ⟨kP, kN, kM, kA⟩ := hKE trivial
  have hW0 := hW
  obtain ⟨⟨hI, hM, hnb, hib, hph⟩, h70, h61, h9, ⟨h50, h56⟩, hO⟩ := hW
  have pA := rf_CL_b hI k
  obtain ⟨hr, hbn, hx, j, kk, uu, f, n, eA, ej, k3, ek⟩ := rf_CL_3 k h3
  subst eA
  rw [← ek] at hr hbn ho
  have kNM := k.1.2.2.2
  have dY : rf_dp y ≤ 100 := by have := kNM.2.2.2; omega
  have r108 := hI.arr 108 (by decide) rfl kk.2.toNat
  have raa : rf_aa s kk.2 = s.2.1 108 kk.2.toNat := rfl
  have hbd := rf_OD_bd hO h61
  have hU := (hM.1 kk.2 hr.1 hr.2).2.2.1 ho
  have hF : ∀ q : Nat, (q : Int) < s.2.1 108 kk.2.toNat → (rf_fo (rf_Wd s g.2.2) (.inner j kk uu f n)).1 (rf_rv1 s j q) := fun q hq => Or.inl ⟨k3, q, hU q hq, rfl⟩
  have hvo : ∀ q, rf_vo s y i q = rf_look y (rf_rv1 s j q) := fun q => by
    unfold rf_vo rf_rv1
    rw [ej]
  have hty : ∀ q : Nat, (q : Int) < s.2.1 108 kk.2.toNat → ∃ T, rf_at T ≤ 5 ∧ rf_vb (s.1 66 58) s (rf_look y (rf_rv1 s j q)) T ∧ rf_py s kk.2 q T := fun q hq => by
    rcases k.1.2.1 with ⟨c, _⟩ | ⟨_, w, hw, _⟩
    · omega
    · obtain ⟨T, t1, t2⟩ := (rf_Hn_3 hw k3).2.2.2 q hq
      exact ⟨T, t1.2.2, kNM.2.2.1 _ T t2, t1⟩
  obtain ⟨D, hDdef⟩ : ∃ D : Nat → Int, ∀ q, D q = s.2.1 107 (rf_look y (rf_rv1 s j q)).toNat := ⟨_, fun _ => rfl⟩
  have hDin : ∀ a b, a < (s.2.1 108 kk.2.toNat).toNat → b < (s.2.1 108 kk.2.toNat).toNat → D a = D b → a = b := fun a b ha hb e => by
    rw [hDdef, hDdef] at e
    exact k.2.1.1.1 k3 a b (hU a (by omega)) (hU b (by omega)) ((hDI _ (hF a (by omega))).2 _ (hF b (by omega)) e)
  obtain ⟨⟨_, GS⟩, _, _, _, Gpy, G58, _⟩ := hG trivial
  obtain ⟨Fv, eV, hFv⟩ := we_V_op (E := E) (u := uu) (f := f) (n := n) (y := y) (dp := dp) hG k3 (we_t_3 hVt k3) hr ho r108.1
  have hxs : dz_hs Fv = (List.range (s.2.1 108 kk.2.toNat).toNat).map D := by
    rw [hFv]
    refine List.map_congr_left (fun q hq => ?_)
    have hq' := List.mem_range.mp hq
    obtain ⟨T, _, hT, _⟩ := hty q (by omega)
    have := hT.1
    unfold we_D
    rw [if_pos (by omega), hDdef]
  obtain ⟨w, P1, ⟨hNs, hSs⟩, hZ, hMs⟩ := hJ
  rw [eV] at hMs
  rw [eV, show (we_W E (rf_n 0 1 (-1 - kk.2) Fv .leaf)).1 dp w = we_hf E.1.1 E.1.2.1 E.1.2.2 E.2.2.1 (-1 - kk.2) (dz_hs Fv) dp w from we_hol 0 (-1 - kk.2) Fv .leaf (by omega) dp w, hxs] at hZ
  have eA : wz_ad w.1 (-1 - kk.2) ((List.range (s.2.1 108 kk.2.toNat).toNat).map D) = Z.1 := by
    rw [← hZ, we_hf_1]
  unfold we_hf at hZ
  rw [eA] at hZ
  have hxl : ((List.range (s.2.1 108 kk.2.toNat).toNat).map D).length = (s.2.1 108 kk.2.toNat).toNat := by rw [List.length_map, List.length_range]
  rw [hxl] at hZ
  have hxg : ∀ q, q < (s.2.1 108 kk.2.toNat).toNat → ((List.range (s.2.1 108 kk.2.toNat).toNat).map D).getD q (-1) = D q := fun q hq => vx_getD (by rw [List.getElem?_map, List.getElem?_range hq]; rfl)
  have hmem : -1 - kk.2 ∈ Z.1.map Prod.fst := by
    rw [← eA, wz_ad_mem]
    exact Or.inr rfl
  obtain ⟨Ts, hTs⟩ : ∃ l : List rf_T, l = (List.range (s.2.1 108 kk.2.toNat).toNat).map (fun p => (E.2.2.1 (-1 - kk.2)).getD (we_od (we_rw Z.1 (-1 - kk.2)) p) .leaf) := ⟨_, rfl⟩
  obtain ⟨Ls, hLs⟩ : ∃ l : List Int, l = (List.range (s.2.1 108 kk.2.toNat).toNat).map (fun p => ((List.range (s.2.1 108 kk.2.toNat).toNat).map D).getD (we_od (we_rw Z.1 (-1 - kk.2)) p) (-1)) := ⟨_, rfl⟩
  have lTs : Ts.length = (s.2.1 108 kk.2.toNat).toNat := by rw [hTs, List.length_map, List.length_range]
  have lLs : Ls.length = (s.2.1 108 kk.2.toNat).toNat := by rw [hLs, List.length_map, List.length_range]
  have hZ2 : (we_W0 E (vq_rl Ts Ls dp)).2 dp (we_b E (104 :: E.1.2.1 (vx_ii (Z.1.map Prod.fst) (-1 - kk.2))) (Z.1, w.2)) = Z := by
    rw [hTs, hLs]
    exact hZ
  -- what is there once it is numbered
  have hM1 : ∀ u : sx_S, u.1 66 89 = s.1 66 89 → u.1 66 61 = s.1 66 61 → u.2.1 119 = s.2.1 119 → we_M E u (Z.1, w.2) Z (rf_n 0 1 (-1 - kk.2) Fv .leaf) (vr_1 (.inner j kk uu f n)) P P1 := fun u e89 e61 e119 _ => by
    obtain ⟨c1, c2⟩ := hMs trivial
    rw [e89, e61, e119]
    refine ⟨fun _ x hx => ?_, fun c => ⟨(c2 c).1, (c2 c).2.1, fun m m0 m1 hs => ((c2 c).2.2 m m0 m1 hs).imp id (fun z x hx => ?_)⟩⟩
    · have hx' : wz_oc x (.inner 0 (1, -1 - kk.2) () Fv .leaf) := hx
      rw [wz_oc_in, if_pos ⟨rfl, by show -1 - kk.2 < 0; omega⟩] at hx'
      rcases hx' with hx' | hx'
      · rw [← hx']
        exact hmem
      · exact hx'.elim
    · show x ∈ Z.1.map Prod.fst
      rw [← eA, wz_ad_mem]
      exact Or.inl (z x hx)
  have hNZ : ∀ (u : sx_S) (k0 : we_A Ω → we_A Ω), (∀ w', (k0 w').1 = w'.1) → we_J E Z P u (rf_n 0 1 (-1 - kk.2) Fv .leaf) (vr_1 (.inner j kk uu f n)) k0 → we_N u Z.1 := fun u k0 hk0 hJu => by
    obtain ⟨w', _, ⟨n1, _⟩, n2, _⟩ := hJu
    rw [← n2, hk0]
    exact n1
  refine sx_methL (wr := true) (n := 400) (n' := 400) (stop := [(19, [0, 1, 2, 3, 4]), (54, [0, 1, 2, 3, 4, 5]), (72, [0, 1, 2, 3, 4, 5, 6, 7]), (149, [0, 1, 2, 3, 4]), (165, [0, 1, 2, 3, 4]), (178, [0, 1, 2, 3, 4]), (181, [0, 1, 2, 3, 4, 5]), (199, [0, 1, 2, 3, 4, 5])]) (fun ms pc ls u => (pc = 19 ∧ ls = [(0, .inr (.inl 66)), (1, .inl i), (2, .inl b), (3, .inl dp), (4, .inl kk.2)] ∧ s = u ∧ s.2.1 118 kk.2.toNat = -1 ∧ ms = 900) ∨ (pc = 54 ∧ ∃ x5 : Int, ls = [(0, .inr (.inl 66)), (1, .inl i), (2, .inl b), (3, .inl dp), (4, .inl kk.2), (5, .inl x5)] ∧ s.2.1 118 kk.2.toNat = -1 ∧ rf_FA s u kk.2 D x5 ∧ (0 ≤ x5 ∧ x5 ≤ s.2.1 108 kk.2.toNat) ∧ ms = 500 + 10 * (4 - x5).toNat + 9) ∨ (pc = 72 ∧ ∃ x5 x6 x7 : Int, ls = [(0, .inr (.inl 66)), (1, .inl i), (2, .inl b), (3, .inl dp), (4, .inl kk.2), (5, .inl x5), (6, .inl x6), (7, .inl x7)] ∧ s.2.1 118 kk.2.toNat = -1 ∧ rf_FA s u kk.2 D x5 ∧ (0 ≤ x5 ∧ x5 < s.2.1 108 kk.2.toNat) ∧ (0 ≤ x7 ∧ x7 ≤ s.2.1 108 kk.2.toNat) ∧ x6 = ((rf_sum (rf_r1 D x5.toNat) x7.toNat : Nat) : Int) ∧ ms = 500 + 10 * (4 - x5).toNat + (4 - x7).toNat) ∨ (pc = 149 ∧ ls = [(0, .inr (.inl 66)), (1, .inl i), (2, .inl b), (3, .inl dp), (4, .inl kk.2)] ∧ s.2.1 118 kk.2.toNat = -1 ∧ rf_FA s u kk.2 D (s.2.1 108 kk.2.toNat) ∧ ms = 400) ∨ (pc = 165 ∧ ls = [(0, .inr (.inl 66)), (1, .inl i), (2, .inl b), (3, .inl dp), (4, .inl kk.2)] ∧ (cx_I u ∧ rf_WF s u ∧ rf_OD u ∧ u.2.1 118 kk.2.toNat ≠ -1 ∧ u.1 66 71 = s.1 66 71 ∧ u.1 66 58 = s.1 66 58) ∧ we_J E Z P u (rf_n 0 1 (-1 - kk.2) Fv .leaf) (vr_1 (.inner j kk uu f n)) (fun w => (we_W0 E (vq_rl Ts Ls dp)).2 dp (we_b E (104 :: E.1.2.1 (vx_ii (Z.1.map Prod.fst) (-1 - kk.2))) w)) ∧ ms = 300) ∨ (pc = 178 ∧ ls = [(0, .inr (.inl 66)), (1, .inl i), (2, .inl b), (3, .inl dp), (4, .inl kk.2)] ∧ (cx_I u ∧ rf_WF s u ∧ rf_OD u ∧ u.2.1 118 kk.2.toNat ≠ -1 ∧ u.1 66 71 = s.1 66 71 ∧ u.1 66 58 = s.1 66 58) ∧ we_J E Z P u (rf_n 0 1 (-1 - kk.2) Fv .leaf) (vr_1 (.inner j kk uu f n)) ((we_W0 E (vq_rl Ts Ls dp)).2 dp) ∧ ms = 200) ∨ (pc = 181 ∧ ∃ x5 : Int, ls = [(0, .inr (.inl 66)), (1, .inl i), (2, .inl b), (3, .inl dp), (4, .inl kk.2), (5, .inl x5)] ∧ (cx_I u ∧ rf_WF s u ∧ rf_OD u ∧ u.2.1 118 kk.2.toNat ≠ -1 ∧ u.1 66 71 ≤ s.1 66 71 + 9 * x5 ∧ u.1 66 58 = s.1 66 58) ∧ we_J E Z P u (rf_n 0 1 (-1 - kk.2) Fv .leaf) (vr_1 (.inner j kk uu f n)) ((we_W0 E (vq_rl (Ts.drop x5.toNat) (Ls.drop x5.toNat) dp)).2 dp) ∧ (0 ≤ x5 ∧ x5 ≤ s.2.1 108 kk.2.toNat) ∧ ms = 2 * (4 - x5).toNat + 1) ∨ (pc = 199 ∧ ∃ x5 : Int, ls = [(0, .inr (.inl 66)), (1, .inl i), (2, .inl b), (3, .inl dp), (4, .inl kk.2), (5, .inl x5)] ∧ (cx_I u ∧ rf_WF s u ∧ rf_OD u ∧ u.2.1 118 kk.2.toNat ≠ -1 ∧ u.1 66 71 ≤ s.1 66 71 + 9 * x5 ∧ u.1 66 58 = s.1 66 58) ∧ we_J E Z P u (rf_n 0 1 (-1 - kk.2) Fv .leaf) (vr_1 (.inner j kk uu f n)) (fun w => (we_W0 E (vq_rl (Ts.drop (x5.toNat + 1)) (Ls.drop (x5.toNat + 1)) dp)).2 dp (we_gv E.1.1 (vq_cv (Ts.getD x5.toNat .leaf) (Ls.getD x5.toNat (-1)) dp) (we_W0 E (vq_cv (Ts.getD x5.toNat .leaf) (Ls.getD x5.toNat (-1)) dp)).1 dp w)) ∧ (0 ≤ x5 ∧ x5 < s.2.1 108 kk.2.toNat) ∧ ms = 2 * (4 - x5).toNat)) hsL (e := eX12_writeFresh) rfl ?_ ?_
  · refine w_fresh hI pA (by rw [← ek]; omega) (fun m hm q => ?_) (fun m hm q => ?_)
    · rw [← ek] at hm
      subst hm
      exact ⟨_, Or.inl ⟨rfl, rfl, rfl, q, rfl⟩⟩
    · rw [← ek] at hm
      subst hm
      have e0 : w.1 = Z.1 := by
        rw [← eA]
        unfold wz_ad
        have hin : -1 - kk.2 ∈ w.1.map Prod.fst := Classical.byContradiction (fun c => q ((we_N_no hNs hr.1 hr.2).mpr c))
        rw [if_pos hin]
      exact ⟨_, Or.inr (Or.inr (Or.inr (Or.inr (Or.inl ⟨rfl, rfl, ⟨hI, rf_WF_refl s, hO, q, rfl, rfl⟩, ⟨(Z.1, w.2), P1, ⟨by rw [← e0]; exact hNs, hSs⟩, hZ2, hM1 s rfl rfl rfl⟩, rfl⟩))))⟩
  · rintro ms pc ls u (⟨rfl, rfl, rfl, hf, rfl⟩ | ⟨rfl, x5, rfl, hf, hA, h5, rfl⟩ | ⟨rfl, x5, x6, x7, rfl, hf, hA, h5, h7, h6, rfl⟩ | ⟨rfl, rfl, hf, hA, rfl⟩ | ⟨rfl, rfl, ⟨u1, u2, u3, u4, u5, u6⟩, hJu, rfl⟩ | ⟨rfl, rfl, ⟨u1, u2, u3, u4, u5, u6⟩, hJu, rfl⟩ | ⟨rfl, x5, rfl, ⟨u1, u2, u3, u4, u5, u6⟩, hJu, h5, rfl⟩ | ⟨rfl, x5, rfl, ⟨u1, u2, u3, u4, u5, u6⟩, hJu, h5, rfl⟩)
    · -- 19
      refine w_fresh_19 hI (by omega) (by omega) (fun ff w v hff hw hv => ⟨_, by omega, Or.inr (Or.inl ⟨rfl, 0, rfl, hf, ⟨⟨?_, ?_, ?_, ?_⟩, fun q => ?_, fun q => ?_, fun q _ => ?_, fun q hq => by omega⟩, by omega, rfl⟩)⟩)
      · exact cx_I_ua rfl rfl (cx_I_ua rfl rfl (cx_I_uf rfl rfl hI (by omega) (by omega)) (by omega) (by omega)) (by omega) (by omega)
      · exact cx_F_ua rfl (cx_F_ua rfl (cx_F_uf rfl (cx_F_refl _ _)))
      · exact rf_f_uf rfl (rf_f_refl _ _)
      · show sx_uf s.1 66 79 w 66 79 = _
        rw [sx_uf_if, if_pos ⟨rfl, rfl⟩]
        exact hw
      · show sx_ua (sx_ua s.2.1 118 kk.2.toNat ff) 120 kk.2.toNat v 118 q = _
        rw [sx_ua_ne (by decide), sx_ua_same, hff]
      · show sx_ua (sx_ua s.2.1 118 kk.2.toNat ff) 120 kk.2.toNat v 120 q = _
        rw [sx_ua_same, sx_ua_ne (by decide), hv]
      · show sx_ua (sx_ua s.2.1 118 kk.2.toNat ff) 120 kk.2.toNat v 121 q = _
        rw [sx_ua_ne (by decide), sx_ua_ne (by decide)]
    · -- 54
      have e108 : u.2.1 108 = s.2.1 108 := (hA.1.2.1.same 108 rfl).2
      refine w_fresh_54 hA.1.1 (by omega) (by omega) (fun q => ?_) (fun q => ?_)
      · rw [e108] at q
        have ex : x5 = s.2.1 108 kk.2.toNat := by omega
        rw [ex] at hA
        exact ⟨_, by omega, Or.inr (Or.inr (Or.inr (Or.inl ⟨rfl, rfl, hf, hA, rfl⟩)))⟩
      · rw [e108] at q
        exact ⟨_, by omega, Or.inr (Or.inr (Or.inl ⟨rfl, x5, 0, 0, rfl, hf, hA, by omega, by omega, rfl, rfl⟩))⟩
    · -- 72
      have hA0 := hA
      obtain ⟨⟨a1, a2, a3, a4⟩, a5, a6, a7, a8⟩ := hA
      have e108 : u.2.1 108 = s.2.1 108 := (a2.same 108 rfl).2
      have e107 : u.2.1 107 = s.2.1 107 := (a2.same 107 rfl).2
      have e83 := a3 83 rfl
      have hyu : rf_bs u y b := by
        unfold rf_bs
        rw [(a2.same 115 rfl).2, (a2.same 116 rfl).2, (a2.same 117 rfl).2, a3 71 rfl]
        exact kNM.1
      have hvu : ∀ q, rf_vo u y i q = rf_look y (rf_rv1 s j q) := fun q => by
        rw [← hvo]
        unfold rf_vo
        rw [(a2.same 104 rfl).2, (a2.same 105 rfl).2]
      have hs6 : rf_sum (rf_r1 D x5.toNat) x7.toNat ≤ 3 := by
        have q1 : rf_sum (rf_r1 D x5.toNat) x7.toNat ≤ rf_rnk D (s.2.1 108 kk.2.toNat).toNat x5.toNat := by
          have : ∀ a c : Nat, rf_sum (rf_r1 D x5.toNat) a ≤ rf_sum (rf_r1 D x5.toNat) (a + c) := fun a c => by
            induction c with
            | zero => exact Nat.le_refl _
            | succ c ih =>
              rw [show a + (c + 1) = (a + c) + 1 from rfl, rf_sum_s]
              omega
          have q2 := this x7.toNat ((s.2.1 108 kk.2.toNat).toNat - x7.toNat)
          rw [show x7.toNat + ((s.2.1 108 kk.2.toNat).toNat - x7.toNat) = (s.2.1 108 kk.2.toNat).toNat by omega] at q2
          exact q2
        have q3 := rf_rnk_lt (D := D) (n := (s.2.1 108 kk.2.toNat).toNat) (k := x5.toNat) (by omega)
        omega
      have b104 : (u.2.1 104 i.toNat) = s.2.1 104 i.toNat := by rw [(a2.same 104 rfl).2]
      refine w_fresh_72 (w1 := rf_vo u y i x7.toNat) (w2 := rf_vo u y i x5.toNat) a1 (by omega) (by omega) (by omega) (by omega) ?_ ?_ (by omega) ?_ ?_ ?_ ?_
      · intro q
        rw [e108] at q
        obtain ⟨T, _, hT, _⟩ := hty x7.toNat (by omega)
        rw [hvu]
        have := hT.1
        omega
      · intro q
        obtain ⟨T, _, hT, _⟩ := hty x5.toNat (by omega)
        rw [hvu]
        have := hT.1
        omega
      · intro q K' hK'
        rw [e108] at q
        exact c_r_varOf hsL 100 (d + 1) (by omega) y i b x7 u K' a1 pA (by omega) (by omega) dY hyu hK'
      · intro q K' hK'
        exact c_r_varOf hsL 100 (d + 1) (by omega) y i b x5 u K' a1 pA (by omega) (by omega) dY hyu hK'
      · intro q bb yy hbb hyy
        rw [e108] at q
        refine ⟨_, by omega, Or.inr (Or.inr (Or.inl ⟨rfl, x5, bb, yy, rfl, hf, hA0, h5, by omega, ?_, rfl⟩))⟩
        have ey : yy.toNat = x7.toNat + 1 := by omega
        rw [ey, rf_sum_s]
        rw [hvu, hvu, e107, ← hDdef, ← hDdef] at hbb
        push_cast
        rcases hbb with ⟨z1, z2⟩ | ⟨z1, z2⟩
        · have : rf_r1 D x5.toNat x7.toNat = 1 := if_pos z1
          rw [this]
          omega
        · have : rf_r1 D x5.toNat x7.toNat = 0 := if_neg (by omega)
          rw [this]
          omega
      · intro q nn yy hnn hyy
        rw [e108] at q
        have ex7 : x7.toNat = (s.2.1 108 kk.2.toNat).toNat := by omega
        rw [ex7] at h6
        have h6' : x6 = ((rf_rnk D (s.2.1 108 kk.2.toNat).toNat x5.toNat : Nat) : Int) := h6
        refine ⟨_, by omega, Or.inr (Or.inl ⟨rfl, yy, rfl, hf, ⟨⟨cx_I_ua rfl rfl a1 (by omega) (by omega), cx_F_ua rfl a2, rf_f_ua a3, a4⟩, fun q => ?_, fun q => ?_, fun q hq => ?_, fun q hq => ?_⟩, by omega, rfl⟩)⟩
        · show sx_ua u.2.1 121 nn.toNat x5 118 q = _
          rw [sx_ua_ne (by decide)]
          exact a5 q
        · show sx_ua u.2.1 121 nn.toNat x5 120 q = _
          rw [sx_ua_ne (by decide)]
          exact a6 q
        · show sx_ua u.2.1 121 nn.toNat x5 121 q = _
          rw [sx_ua_same]
          dsimp only
          rw [if_neg (by omega)]
          exact a7 q hq
        · show sx_ua u.2.1 121 nn.toNat x5 121 _ = _
          rw [sx_ua_same]
          dsimp only
          by_cases c : (q : Int) = x5
          · have : q = x5.toNat := by omega
            rw [this, if_pos (by omega)]
            omega
          · have hne : rf_rnk D (s.2.1 108 kk.2.toNat).toNat q ≠ rf_rnk D (s.2.1 108 kk.2.toNat).toNat x5.toNat := fun e => by
              have := rf_rnk_inj hDin (by omega) (by omega) e
              omega
            rw [if_neg (by omega)]
            exact a8 q (by omega)
    · -- 149
      have e83 := hA.1.2.2.1 83 rfl
      have e108 : u.2.1 108 = s.2.1 108 := (hA.1.2.1.same 108 rfl).2
      have hA0 := hA
      obtain ⟨⟨a1, a2, a3, a4⟩, a5, a6, a7, a8⟩ := hA
      refine w_fresh_149 a1 (by omega) (by omega) (fun v hv => ?_)
      rw [e108, e83] at hv
      have o : ∀ q, q ≠ 83 → sx_uf u.1 66 83 v 66 q = u.1 66 q := fun q hq => by
        rw [sx_uf_if]
        exact if_neg (fun c => hq c.2)
      refine ⟨_, by omega, Or.inr (Or.inr (Or.inr (Or.inr (Or.inl ⟨rfl, rfl, ⟨cx_I_uf rfl rfl a1 (by omega) (by omega), ?_, rf_FA_OD hr hf hO r108 hDin hA0 hv, ?_, (o 71 (by decide)).trans (a3 71 rfl), (o 58 (by decide)).trans (a3 58 rfl)⟩, ⟨(Z.1, w.2), P1, ⟨?_, ?_⟩, hZ2, hM1 _ ((o 89 (by decide)).trans (a3 89 rfl)) ((o 61 (by decide)).trans (a3 61 rfl)) (a2.same 119 rfl).2⟩, rfl⟩))))⟩
      · have e50 : sx_uf u.1 66 83 v 66 50 = s.1 66 50 := (o 50 (by decide)).trans (a3 50 rfl)
        have e58 : sx_uf u.1 66 83 v 66 58 = s.1 66 58 := (o 58 (by decide)).trans (a3 58 rfl)
        have e71 : sx_uf u.1 66 83 v 66 71 = s.1 66 71 := (o 71 (by decide)).trans (a3 71 rfl)
        refine ⟨⟨cx_F_uf rfl (cx_F_step a2 rfl (cx_F_refl _ _)), rf_f_uf rfl (rf_f_step a3 rfl (rf_f_refl _ _)), e50⟩, ⟨(show rf_ag 100 103 _ s u from rf_ag_F a2 rfl (rf_ag_refl _ _ _ _)), (show rf_ag 105 105 _ s u from rf_ag_F a2 rfl (rf_ag_refl _ _ _ _)), (show rf_ag 106 107 _ s u from rf_ag_F a2 rfl (rf_ag_refl _ _ _ _)), (show rf_ag 115 117 _ s u from rf_ag_F a2 rfl (rf_ag_refl _ _ _ _))⟩, Int.le_of_eq e58.symm, Int.le_of_eq e71.symm, fun q hq => ?_⟩
        show u.2.1 118 q ≠ -1
        rw [a5 q]
        by_cases c : q = kk.2.toNat
        · rw [if_pos c]
          omega
        · rw [if_neg c]
          exact hq
      · show u.2.1 118 kk.2.toNat ≠ -1
        rw [a5, if_pos rfl]
        omega
      · have e1 := we_N_add (v := v) hNs hr.1 hr.2 hf hO r108 hDin hA0
        have e2 : w.1 ++ [(-1 - kk.2, (List.range (s.2.1 108 kk.2.toNat).toNat).map D)] = Z.1 := by
          rw [← eA]
          unfold wz_ad
          rw [if_neg ((we_N_no hNs hr.1 hr.2).mp hf)]
        rw [e2] at e1
        exact e1
      · have e1 : sx_uf u.1 66 83 v 66 86 = s.1 66 86 := (o 86 (by decide)).trans (a3 86 rfl)
        have e2 : u.2.1 122 = s.2.1 122 := (a2.same 122 rfl).2
        show E.2.1.1 (sx_uf u.1 66 83 v 66 86) (u.2.1 122) w.2
        rw [e1, e2]
        exact hSs
    · -- 165
      have hNu := hNZ u _ (by intro w'; exact (we_fst0 _ _).2) hJu
      have e61u := u2.1.2.1 61 rfl
      have e108u : u.2.1 108 = s.2.1 108 := (u2.1.1.same 108 rfl).2
      have r108u : 0 ≤ rf_aa u kk.2 ∧ rf_aa u kk.2 ≤ 4 := by
        unfold rf_aa
        rw [e108u]
        exact r108
      have e118 := (we_N_at hNu hr.1 (by omega) r108u hmem).1
      have r118 := u1.arr 118 (by decide) rfl kk.2.toNat
      refine w_e_fresh_165 (PW := fun t => we_PT E u t (104 :: E.1.2.1 (vx_ii (Z.1.map Prod.fst) (-1 - kk.2)))) u1 (by omega) (fun q hq K' hK' => by rw [hq]; exact kN (d + 1) (by omega) 104 _ u K' u1 (by omega) (by omega) (by rw [e118]; exact hK')) ?_
      intro t hpt
      obtain ⟨c1, c2, c3, _⟩ := id hpt
      obtain ⟨e1, e2, e3, e4, e5⟩ := rf_WF_put c2 c3
      exact ⟨_, by omega, Or.inr (Or.inr (Or.inr (Or.inr (Or.inr (Or.inl ⟨rfl, rfl, ⟨c1, rf_WF_trans e1 u2, e2 u3, e1.2.2.2.2 _ u4, by omega, by omega⟩, we_J_put hL hpt (fun _ => rfl) hJu, rfl⟩)))))⟩
    · -- 178
      exact w_fresh_178 ⟨_, by omega, Or.inr (Or.inr (Or.inr (Or.inr (Or.inr (Or.inr (Or.inl ⟨rfl, 0, rfl, ⟨u1, u2, u3, u4, by omega, u6⟩, hJu, by omega, rfl⟩))))))⟩
    · -- 181
      have e108 : u.2.1 108 = s.2.1 108 := (u2.1.1.same 108 rfl).2
      refine w_fresh_181 (PW := fun t => we_PT E u t [32]) u1 (by omega) (by omega) (fun q => ?_) (fun q K' hK' => kP (d + 1) (by omega) 32 u K' u1 (by omega) hK') ?_
      · rw [e108] at q
        refine hK 0 u u1 u2 u3 (by omega) u6 (we_J_Z (fun w' => ?_) hJu)
        rw [List.drop_eq_nil_of_le (by omega), List.drop_eq_nil_of_le (by omega)]
        rfl
      · intro q t hpt
        obtain ⟨c1, c2, c3, _⟩ := id hpt
        rw [e108] at q
        obtain ⟨e1, e2, e3, e4, e5⟩ := rf_WF_put c2 c3
        exact ⟨_, by omega, Or.inr (Or.inr (Or.inr (Or.inr (Or.inr (Or.inr (Or.inr ⟨rfl, x5, rfl, ⟨c1, rf_WF_trans e1 u2, e2 u3, e1.2.2.2.2 _ u4, by omega, by omega⟩, we_J_put hL hpt (fun w' => we_rl_c (by omega) (by omega)) hJu, by omega, rfl⟩))))))⟩
    · -- 199
      obtain ⟨hEu, hNu⟩ := rf_WF_EX u2
      have e108 : u.2.1 108 = s.2.1 108 := (u2.1.1.same 108 rfl).2
      have e61 := u2.1.2.1 61 rfl
      have hWu := rf_WW_up hW0 u1 u2 u3
      have hbu := rf_OD_bd u3 (by omega)
      obtain ⟨w1, w2⟩ := u3.2 kk.2.toNat (by omega) u4
      rw [e108] at w1 w2
      have ex : ((x5.toNat : Nat) : Int) = x5 := by omega
      have w3 := w2 x5.toNat (by omega)
      rw [ex] at w3
      obtain ⟨oq, hoq⟩ : ∃ q, q = u.2.1 121 (u.2.1 120 kk.2.toNat + x5).toNat := ⟨_, rfl⟩
      rw [← hoq] at w3
      have ku := rf_CL_up hEu u2.2.2.2.1 (Int.le_of_eq u6.symm) (rf_EG_refl s g) hM.ub k
      have kuN := ku.1.2.2.2
      have hrv : ∀ q : Nat, (q : Int) < s.2.1 108 kk.2.toNat → rf_rv1 u j q = rf_rv1 s j q := fun q hq => hEu.rv (by obtain ⟨j0, kk0, uu0, f0, n0, eA, z1, z2, z3, _⟩ := rf_CL_node k; cases eA; exact z3) (by rw [← ej]; exact hbn.1) (by rw [← ej]; omega)
      have hvu : rf_vo u y i oq.toNat = rf_look y (rf_rv1 s j oq.toNat) := by
        rw [← hrv oq.toNat (by omega)]
        unfold rf_vo rf_rv1
        rw [ej]
      obtain ⟨T, hT5, hT, hTp⟩ := hty oq.toNat (by omega)
      have hTu : rf_vb (u.1 66 58) u (rf_look y (rf_rv1 s j oq.toNat)) T := by
        rw [u6]
        exact (hEu.vb (Int.le_refl _) _ _).mpr hT
      have hT0 := hT.1
      have hdep : u.2.1 107 (rf_look y (rf_rv1 s j oq.toNat)).toNat = s.2.1 107 (rf_look y (rf_rv1 s j oq.toNat)).toNat := u2.2.1.2.2.1 107 _ (by omega) (by omega) (by omega)
      have hDq := (hDI _ (hF oq.toNat (by omega))).1
      have b104 : u.2.1 104 i.toNat = s.2.1 104 i.toNat := by rw [(u2.1.1.same 104 rfl).2]
      have hNu := hNZ u _ (fun w' => by
        rw [show ((we_W0 E (vq_rl (Ts.drop (x5.toNat + 1)) (Ls.drop (x5.toNat + 1)) dp)).2 dp (we_gv E.1.1 (vq_cv (Ts.getD x5.toNat .leaf) (Ls.getD x5.toNat (-1)) dp) (we_W0 E (vq_cv (Ts.getD x5.toNat .leaf) (Ls.getD x5.toNat (-1)) dp)).1 dp w')).1 = _ from (we_fst0 _ _).2]
        exact we_gv_1 (fun dp w => (we_fst0 dp w).1) _ _) hJu
      have r108u : 0 ≤ rf_aa u kk.2 ∧ rf_aa u kk.2 ≤ 4 := by
        unfold rf_aa
        rw [e108]
        exact r108
      have e121 := (we_N_at hNu hr.1 (by omega) r108u hmem).2.2 x5.toNat (by unfold rf_aa; rw [e108]; omega)
      rw [ex, ← hoq] at e121
      have eT : Ts.getD x5.toNat .leaf = T := by
        rw [List.getD_eq_getElem?_getD, hTs, List.getElem?_map, List.getElem?_range (by omega)]
        show (E.2.2.1 (-1 - kk.2)).getD (we_od (we_rw Z.1 (-1 - kk.2)) x5.toNat) .leaf = T
        rw [show we_od (we_rw Z.1 (-1 - kk.2)) x5.toNat = oq.toNat by omega]
        exact rf_py_inj (Gpy kk.2 oq.toNat hr.1 hr.2 (by unfold rf_aa; omega)) hTp
      have eLv : Ls.getD x5.toNat (-1) = u.2.1 107 (rf_vo u y i oq.toNat).toNat := by
        rw [List.getD_eq_getElem?_getD, hLs, List.getElem?_map, List.getElem?_range (by omega)]
        show ((List.range (s.2.1 108 kk.2.toNat).toNat).map D).getD (we_od (we_rw Z.1 (-1 - kk.2)) x5.toNat) (-1) = _
        rw [show we_od (we_rw Z.1 (-1 - kk.2)) x5.toNat = oq.toNat by omega, hxg _ (by omega), hvu, hdep, hDdef]
      rw [eT, eLv] at hJu
      have hGu := we_G_WF hL hW0 u2 hG
      refine w_fresh_199 (w := rf_vo u y i oq.toNat) (PW := fun t => cx_I t ∧ rf_WF u t ∧ rf_OD t ∧ t.1 66 71 ≤ u.1 66 71 + 9 ∧ t.1 66 58 = u.1 66 58 ∧ we_J E Z P t (rf_n 0 1 (-1 - kk.2) Fv .leaf) (vr_1 (.inner j kk uu f n)) ((we_W0 E (vq_rl (Ts.drop (x5.toNat + 1)) (Ls.drop (x5.toNat + 1)) dp)).2 dp)) u1 (by omega) (by omega) (by omega) ?_ ?_ ?_
      · intro q hq K' hK'
        rw [← hoq] at hq
        rw [hq]
        exact c_r_varOf hsL 100 (d + 1) (by omega) y i b oq u K' u1 pA (by omega) (by omega) dY kuN.1 hK'
      · intro K' hK'
        rw [hvu] at hJu ⊢
        exact c_e_writeVar hL hKE hsL (d + 1) (by omega) w0 Z P _ _ _ _ dp nb ib T u g K' hWu hTu hT5 (by rw [hdep]; exact hDq) hdp (by omega) (by omega) hGu hJu (fun z t f1 f2 f3 f4 f5 f6 => hK' z t ⟨f1, f2, f3, f4, f5, f6⟩)
      · rintro t ⟨f1, f2, f3, f4, f5, f6⟩ yy hyy
        exact ⟨_, by omega, Or.inr (Or.inr (Or.inr (Or.inr (Or.inr (Or.inr (Or.inl ⟨rfl, yy, rfl, ⟨f1, rf_WF_trans f2 u2, f3, f2.2.2.2.2 _ u4, by omega, by omega⟩, by rw [show yy.toNat = x5.toNat + 1 by omega]; exact f6, by omega, rfl⟩))))))⟩
end
