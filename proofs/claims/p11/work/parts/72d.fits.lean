/-! ===== the reference: fits, its contract ===== -/
theorem vr_ft_ok {sL : Nat} {sx : Nat → Int32} (hsL : sL ≤ 3072) {P d : Nat} (hd : P + 129 ≤ d) (ih : vr_FT sL sx P (d + 1)) : vr_FT sL sx (P + 1) (d + 2) := by
  intro N A y x W p i b m row mark nb s g AR K hI hM hnb hmk hph hR hV tA k hp hm ho hrow hc h71 h58 hK
  have pA := rf_CL_b hI k
  obtain ⟨j, kk, uu, f, n, eA, e1, e2, e3, e4, e5, e6, e7, e8⟩ := rf_CL_node k
  subst eA
  have hpp := rf_wy_pos k.2.2.2 hph
  have hw1 := rf_wh_pos (j := j) (k := kk) (u := uu) (f := f) (x := n)
  have kN := k.1.2.2.2
  have r58 := hI.fld 66 58 (by decide) rfl
  have r71 := hI.fld 66 71 (by decide) rfl
  have r61 := hI.fld 66 61 (by decide) rfl
  have r56 := hI.fld 66 56 (by decide) rfl
  have hR2 := hR
  obtain ⟨q1, q2, q3, q4, q5, q6⟩ := hR
  have dY : rf_dp y ≤ 100 := by have := kN.2.2.2; omega
  have hby := rf_by_hi kN.1
  have eK : s.2.1 100 i.toNat = kk.1 := by rw [e2]; exact e4
  have eR : s.2.1 101 i.toNat = kk.2 := by rw [e2]; exact e5
  have hk3 : kk.1 = 3 → (0 ≤ kk.2 ∧ kk.2 < s.1 66 61) ∧ (0 ≤ s.2.1 104 j ∧ s.2.1 104 j + rf_aa s kk.2 ≤ s.1 66 56) := fun q => by
    rcases e8 with ⟨c, _⟩ | ⟨c, hx, w, hw, _⟩
    · omega
    · exact ⟨(rf_Hn_3 hw q).2.1, (rf_Hn_3 hw q).2.2.1⟩
  have hkk : kk.1 = 0 ∨ kk.1 = 1 ∨ kk.1 = 2 ∨ kk.1 = 3 := by
    rcases e8 with ⟨c, _⟩ | ⟨c, hx, w, hw, _⟩
    · exact Or.inl c
    · exact rf_Hn_k hw
  have r108 := fun q => hI.arr 108 (by decide) rfl q
  have raa : rf_aa s m = s.2.1 108 m.toNat := rfl
  have r108m := r108 m.toNat
  refine sx_methL (wr := true) (n := 400) (n' := 400) (stop := [(9, [0, 1, 2, 3, 4, 5]), (55, [0, 1, 2, 3, 4, 5]), (65, [0, 1, 2, 3, 4, 5]), (91, [0, 1, 2, 3, 4, 5, 6]), (113, [0, 1, 2, 3, 4, 5, 6]), (150, [0, 1, 2, 3, 4, 5, 6, 7, 8]), (249, [0, 6, 7, 8, 9]), (294, [0, 1, 2, 3, 4, 5]), (338, [0, 1, 2, 3, 4, 5]), (346, [0, 2, 3, 4, 5, 6])]) (fun ms pc ls u => (pc = 9 ∧ ls = [(0, .inr (.inl 66)), (1, .inl i), (2, .inl b), (3, .inl m), (4, .inl row), (5, .inl mark)] ∧ s = u ∧ kk.1 = 0 ∧ ms = 0) ∨ (pc = 55 ∧ ls = [(0, .inr (.inl 66)), (1, .inl i), (2, .inl b), (3, .inl m), (4, .inl row), (5, .inl mark)] ∧ s = u ∧ kk.1 ≠ 0 ∧ ms = rf_len f + 2000) ∨ (pc = 65 ∧ ls = [(0, .inr (.inl 66)), (1, .inl i), (2, .inl b), (3, .inl m), (4, .inl row), (5, .inl mark)] ∧ s = u ∧ kk.1 = 3 ∧ ms = 1900) ∨ (pc = 91 ∧ ∃ x6 : Int, ls = [(0, .inr (.inl 66)), (1, .inl i), (2, .inl b), (3, .inl m), (4, .inl row), (5, .inl mark), (6, .inl x6)] ∧ s = u ∧ kk.1 = 3 ∧ kk.2 = x6 ∧ x6 ≠ m ∧ s.2.1 111 x6.toNat ≠ 0 ∧ ms = 1800) ∨ (pc = 113 ∧ ∃ x6 : Int, ls = [(0, .inr (.inl 66)), (1, .inl i), (2, .inl b), (3, .inl m), (4, .inl row), (5, .inl mark), (6, .inl x6)] ∧ s = u ∧ kk.1 = 3 ∧ kk.2 = x6 ∧ x6 ≠ m ∧ s.2.1 111 x6.toNat ≠ 0 ∧ ms = 0) ∨ (pc = 150 ∧ ∃ x6 x7 x8 : Int, ls = [(0, .inr (.inl 66)), (1, .inl i), (2, .inl b), (3, .inl m), (4, .inl row), (5, .inl mark), (6, .inl x6), (7, .inl x7), (8, .inl x8)] ∧ s = u ∧ kk.1 = 3 ∧ kk.2 = x6 ∧ x6 ≠ m ∧ s.2.1 111 x6.toNat = 0 ∧ vr_bg x7 x8 (fun q => rf_gv s m row mark (rf_look y (rf_rv1 s j q))) ∧ (0 ≤ x8 ∧ x8 ≤ s.2.1 108 x6.toNat) ∧ ms = 1700 + (4 - x8).toNat) ∨ (pc = 249 ∧ ∃ x6 x7 x8 x9 : Int, ls = [(0, .inr (.inl 66)), (6, .inl x6), (7, .inl x7), (8, .inl x8), (9, .inl x9)] ∧ kk.1 = 3 ∧ kk.2 = x6 ∧ x6 ≠ m ∧ s.2.1 111 x6.toNat = 0 ∧ vr_bg x7 (s.2.1 108 x6.toNat) (fun q => rf_gv s m row mark (rf_look y (rf_rv1 s j q))) ∧ (∃ jj : Nat, (jj : Int) < s.2.1 108 x6.toNat ∧ ¬ rf_bt x7 (jj : Int)) ∧ rf_OW s u x6 x8 x9 ∧ ms = 1600 + (4 - x9).toNat) ∨ (pc = 294 ∧ ls = [(0, .inr (.inl 66)), (1, .inl i), (2, .inl b), (3, .inl m), (4, .inl row), (5, .inl mark)] ∧ s = u ∧ (kk.1 = 1 ∨ kk.1 = 2) ∧ ms = rf_len f + 2) ∨ (pc = 338 ∧ ls = [(0, .inr (.inl 66)), (1, .inl i), (2, .inl b), (3, .inl m), (4, .inl row), (5, .inl mark)] ∧ s = u ∧ (kk.1 = 1 ∨ kk.1 = 2) ∧ (kk.1 = 2 → rf_gv s m row mark (rf_look y kk.2)) ∧ ms = rf_len f + 1) ∨ (pc = 346 ∧ ∃ (x6 : Int) (g1 : rf_Gh) (AR1 : Nat → List Int) (D f1 : rf_N), ls = [(0, .inr (.inl 66)), (2, .inl b), (3, .inl m), (4, .inl row), (5, .inl mark), (6, .inl x6)] ∧ (kk.1 = 1 ∨ kk.1 = 2) ∧ (kk.1 = 2 → rf_gv s m row mark (rf_look y kk.2)) ∧ vr_FL nb mark s u g g1 AR AR1 N y W p b m row f D f1 x6 (vr_K (rf_gv s m row mark) m AR (.inner j kk uu f n) y (s.1 66 58)) ∧ ms = rf_len f1)) hsL (e := eX12_fits) rfl ?_ ?_
  · refine w_fits hI pA (fun q => ⟨_, Or.inl (⟨rfl, rfl, rfl, by omega, rfl⟩)⟩) (fun q => ⟨_, Or.inr (Or.inl (⟨rfl, rfl, rfl, by omega, rfl⟩))⟩)
  · rintro ms pc ls u (⟨rfl, rfl, rfl, k0, rfl⟩ | ⟨rfl, rfl, rfl, k0, rfl⟩ | ⟨rfl, rfl, rfl, k0, rfl⟩ | ⟨rfl, x6, rfl, rfl, k3, hx6, hne, hs, rfl⟩ | ⟨rfl, x6, rfl, rfl, k3, hx6, hne, hs, rfl⟩ | ⟨rfl, x6, x7, x8, rfl, rfl, k3, hx6, hne, hs, hbg, h8, rfl⟩ | ⟨rfl, x6, x7, x8, x9, rfl, k3, hx6, hne, hs, hbg, hnb2, hO, rfl⟩ | ⟨rfl, rfl, rfl, k0, rfl⟩ | ⟨rfl, rfl, rfl, k0, hk2, rfl⟩ | ⟨rfl, x6, g1, AR1, D, f1, rfl, k0, hk2, hL, rfl⟩)
    · -- 9: LAM
      have hv : rf_vb (s.1 66 58) s kk.2 (match x with | .leaf => .leaf | .inner _ _ _ C _ => C) := by
        rcases e8 with ⟨_, C, D, hx, hv, _⟩ | ⟨c, _⟩
        · subst hx
          exact hv
        · exact absurd k0 c
      have hv0 := hv.1
      refine w_fits_9 (PV := fun z t => cx_I t ∧ cx_F [(66, 66), (106, 106)] s t ∧ z = s.1 66 58 ∧ t.1 66 58 = s.1 66 58 + 1 ∧ rf_f [58] s t ∧ rf_ag 106 106 (s.1 66 58) s t ∧ t.2.1 106 z.toNat = s.2.1 106 kk.2.toNat) (PN := fun z t z2 t2 => cx_I t2 ∧ cx_F [(66, 66), (115, 117)] t t2 ∧ z2 = t.1 66 71 ∧ t2.1 66 71 = t.1 66 71 + 1 ∧ rf_f [71] t t2 ∧ rf_ag 115 117 (t.1 66 71) t t2 ∧ rf_nm t2 z2 kk.2 z b) (PF := fun z t => vr_PF nb mark s t g AR z m row (.inner j kk uu f n) y W) hI pA (by rw [eR]; omega) ?_ ?_ ?_ ?_ ?_ ?_
      · intro u hu K' hK'
        have hr := hI.arr 106 (by decide) rfl kk.2.toNat
        rw [eR] at hu
        exact c_r_newVar hsL (d + 1) (by omega) u s K' hI (by omega) (by omega) (fun z t c1 c2 c3 c4 c5 c6 c7 => hK' z t ⟨c1, c2, c3, c4, c5, c6, by rw [c7]; exact hu⟩)
      · rintro z t ⟨c1, _⟩
        exact c1
      · rintro z t ⟨c1, c2, c3, c4, c5, c6, c7⟩ u hu K' hK'
        have c71 := c5 71 rfl
        have hu2 : u = kk.2 := by rw [hu, (c2.same 101 rfl).2]; exact eR
        rw [hu2]
        exact c_r_name hsL (d + 1) (by omega) kk.2 z b t K' c1 (by omega) (by omega) (by omega) (by omega) (fun z2 t2 f1 f2 f3 f4 f5 f6 f7 => hK' z2 t2 ⟨f1, f2, f3, f4, f5, f6, f7⟩)
      · rintro z t z2 t2 ⟨c1, c2, c3, c4, c5, c6, c7⟩ ⟨f1, f2, f3, f4, f5, f6, f7⟩ u hu K' hK'
        have hu2 : u = s.2.1 102 j := by rw [hu, (c2.same 102 rfl).2, e2]
        rw [hu2]
        exact vr_ft_lam ih hI hM hnb hmk hph hR2 hV tA k (by omega) hm ho hrow hc h71 h58 k0 f1 c2 c3 c4 c5 c6 c7 f2 f3 f4 f5 f6 f7 hK'
      · rintro z t ⟨c1, _⟩
        exact c1
      · intro z t ht
        exact hK z t ht
    · -- 55
      refine w_fits_55 hI pA (fun q => ⟨_, by omega, Or.inr (Or.inr (Or.inl (⟨rfl, rfl, rfl, by omega, rfl⟩)))⟩) (fun q => ⟨_, by omega, Or.inr (Or.inr (Or.inr (Or.inr (Or.inr (Or.inr (Or.inr (Or.inl (⟨rfl, rfl, rfl, by omega, rfl⟩))))))))⟩)
    · -- 65
      have hr := (hk3 k0).1
      refine w_fits_65 hI pA (by omega) (by rw [eR]; omega) (fun q => hK 0 s (vr_PF_0 hI (rf_FS_refl s) (fun th hS => vr_K_self (fun m => (hS.1 m).1) k0 (by rw [← eR]; exact q)))) (fun h1 h2 x6 hx => ⟨_, by omega, Or.inr (Or.inr (Or.inr (Or.inl (⟨rfl, x6, rfl, rfl, k0, by rw [hx, eR], by rw [hx]; exact h1, by rw [hx]; exact h2, rfl⟩))))⟩) (fun h1 h2 x6 hx => ⟨_, by have := r108 x6.toNat; omega, Or.inr (Or.inr (Or.inr (Or.inr (Or.inr (Or.inl (⟨rfl, x6, 0, 0, rfl, rfl, k0, by rw [hx, eR], by rw [hx]; exact h1, by rw [hx]; exact h2, vr_bg_0 _, by have := r108 x6.toNat; omega, rfl⟩))))))⟩)
    · -- 91
      have hr := (hk3 k3).1
      have hpr := e8
      refine w_fits_91 hI (by omega) (fun h1 h2 => hK 1 s (vr_PF_same hI hM hph hR2 hV ho (fun v hv => ?_) (fun z hz => ?_) hc)) ⟨_, by omega, Or.inr (Or.inr (Or.inr (Or.inr (Or.inl (⟨rfl, x6, rfl, rfl, k3, hx6, hne, hs, rfl⟩)))))⟩
      · rcases hv with ⟨_, q, w1, w2⟩ | ⟨c, _⟩ | ⟨c, _⟩
        · have := hM.ub kk.2 q hr.1 hr.2 w1
          rw [hx6] at this
          unfold rf_aa at this
          omega
        · omega
        · omega
      · rcases hz with ⟨_, rfl⟩ | ⟨c, _⟩ | ⟨c, _⟩
        · refine ⟨by rw [hx6]; exact hne, ?_⟩
          rcases hc kk.2.toNat (by omega) (by rw [hx6]; exact h2) with w | w
          · have h3 := (k.2.2.2.2.1 _ w).2.2 kk.2 (Or.inl ⟨k3, rfl⟩)
            rw [Int.toNat_of_nonneg hr.1] at h3
            exact absurd h3 (hM.2 _)
          · rw [Int.toNat_of_nonneg hr.1] at w
            exact w
        · omega
        · omega
    · -- 113
      subst hx6
      have hr := (hk3 k3).1
      have hbn := (hk3 k3).2
      have hSV := (hM.1 kk.2 hr.1 hr.2).2.2.2 hs
      obtain ⟨_, ⟨sb1, _⟩, ⟨⟨sc1, sc2⟩, sc3, _⟩, _⟩ := hSV
      have raa2 : rf_aa s kk.2 = s.2.1 108 kk.2.toNat := rfl
      have rx := r108 kk.2.toNat
      have hI2 : cx_I (s.1, sx_ua s.2.1 124 kk.2.toNat 1, s.2.2) := cx_I_ua rfl rfl hI (by decide) (by decide)
      have o : ∀ q, q ≠ 124 → sx_ua s.2.1 124 kk.2.toNat 1 q = s.2.1 q := fun q hq => sx_ua_ne hq
      refine w_fits_113 (PE := fun z2 t => cx_I t ∧ cx_F [(66, 66), (115, 117)] (s.1, sx_ua s.2.1 124 kk.2.toNat 1, s.2.2) t ∧ rf_f [71] s t ∧ rf_ag 115 117 (s.1 66 71) s t ∧ (s.1 66 71 ≤ t.1 66 71 ∧ t.1 66 71 ≤ s.1 66 71 + s.2.1 108 kk.2.toNat + 1) ∧ rf_bs t (rf_bh (g.2.1 kk.2) (rf_row (rf_fm s kk.2) (rf_vo s y i) (rf_aa s kk.2).toNat)) z2) (PF := fun z t => vr_PF nb mark s t g AR z m row (.inner j kk uu f n) y W) hI pA (by omega) ?_ ?_ ?_ ?_
      · intro K' hK'
        have y1 : rf_bs (s.1, sx_ua s.2.1 124 kk.2.toNat 1, s.2.2) y b := by
          unfold rf_bs
          dsimp only
          rw [o 115 (by decide), o 116 (by decide), o 117 (by decide)]
          exact kN.1
        have y2 : rf_bs (s.1, sx_ua s.2.1 124 kk.2.toNat 1, s.2.2) (g.2.1 kk.2) (((s.1, sx_ua s.2.1 124 kk.2.toNat 1, s.2.2) : sx_S).2.1 114 kk.2.toNat) := by
          unfold rf_bs
          dsimp only
          rw [o 115 (by decide), o 116 (by decide), o 117 (by decide), o 114 (by decide)]
          exact rf_by_mono (fun _ _ => ⟨rfl, rfl, rfl⟩) hnb sb1
        refine c_r_enter hsL 100 (d + 1) (by omega) y (g.2.1 kk.2) i b kk.2 _ K' hI2 pA (by dsimp only; rw [o 101 (by decide)]; exact eR.symm) (by omega) (by dsimp only; omega) (fun q hq => ?_) dY y1 y2 (fun z t c1 c2 c3 c4 c5 c6 => hK' z t ⟨c1, c2, c3, ?_, ?_, ?_⟩)
        · dsimp only at hq ⊢
          rw [o 108 (by decide)] at hq
          rw [o 112 (by decide), o 104 (by decide), o 105 (by decide)]
          refine ⟨by omega, by rw [e2]; omega, ?_⟩
          have := sc3 q (by omega)
          unfold rf_fm at this
          rcases this with ⟨T, _, t2⟩ | z
          · have := t2.1.1
            omega
          · omega
        · intro q jj h1 h2 h3
          rw [c4 q jj h1 h2 h3]
          dsimp only
          rw [o q (by omega)]
        · dsimp only at c5
          rw [o 108 (by decide)] at c5
          exact c5
        · exact c6
      · rintro z2 t ⟨c1, c2, c3, c4, c5, c6⟩ u hu K' hK'
        rw [o 113 (by decide)] at hu
        rw [hu]
        exact vr_ft_en ih hI hM hnb hmk hph hR2 hV tA k (by omega) hm ho hrow hc h71 h58 k3 hne hs c1 c2 c3 c4 c5 c6 hK'
      · rintro z t ⟨c1, _⟩
        exact c1
      · intro z t ht
        exact hK z t ht
    · -- 150
      subst hx6
      have hr := (hk3 k3).1
      have hbn := (hk3 k3).2
      have raa2 : rf_aa s kk.2 = s.2.1 108 kk.2.toNat := rfl
      have rx := r108 kk.2.toNat
      have hvo : rf_vo s y i x8.toNat = rf_look y (rf_rv1 s j x8.toNat) := by
        unfold rf_vo rf_rv1
        rw [e2]
      refine w_vfits_150 (w := rf_vo s y i x8.toNat) (PI := fun z => z ≠ 0 ↔ ∃ q : Nat, (q : Int) < s.2.1 108 m.toNat ∧ s.2.1 105 (row + (q : Int)).toNat = rf_vo s y i x8.toNat) hI (by omega) (by omega) hbg.1 (by omega) (rf_look_in hI kN.1 (hI.arr 105 (by decide) rfl _)) (by omega) ?_ ?_ ?_ ?_ ?_
      · intro hx K' hK'
        exact c_r_varOf hsL 100 (d + 1) (by omega) y i b x8 s K' hI pA (by omega) (by rw [e2]; omega) dY kN.1 hK'
      · intro hx hw K' hK'
        exact c_v_isIn hsL (d + 1) (by omega) _ m row s K' hI (rf_look_in hI kN.1 (hI.arr 105 (by decide) rfl _)) (by omega) (by omega) hK'
      · intro hx c v yy hcc hv hyy
        refine ⟨_, by omega, Or.inr (Or.inr (Or.inr (Or.inr (Or.inr (Or.inl (⟨rfl, kk.2, v, yy, rfl, rfl, k3, rfl, hne, hs, vr_bg_s (by omega) hbg (hcc.imp (fun z => ⟨z.1, ?_⟩) (fun z => ⟨z.1, ?_⟩)) hv hyy, by omega, rfl⟩))))))⟩
        · rw [← hvo]
          obtain ⟨_, zl, zz, z1, z2⟩ := z
          rintro (w | ⟨qq, w1, w2⟩)
          · omega
          · exact absurd z1 (z2.mpr ⟨qq, w1, w2.symm⟩)
        · rw [← hvo]
          rcases z.2 with w | ⟨zz, z1, z2⟩
          · exact Or.inl w
          · obtain ⟨qq, w1, w2⟩ := z2.mp z1
            exact Or.inr ⟨qq, w1, w2.symm⟩
      · intro hx hmk2
        have ex : x8 = s.2.1 108 kk.2.toNat := by omega
        have h1 := (rf_bg_m (a := s.2.1 108 kk.2.toNat) rx (by rw [← ex]; exact hbg.bg)).mp hmk2
        refine hK 1 s (vr_PF_same hI hM hph hR2 hV ho (fun v hv => ?_) (fun z hz => ?_) hc)
        · rcases hv with ⟨_, q, w1, w2⟩ | ⟨c, _⟩ | ⟨c, _⟩
          · have hq := hM.ub kk.2 q hr.1 hr.2 w1
            rw [w2]
            exact ((hbg.2 q (by omega)).mp (h1 q (by omega))).2
          · omega
          · omega
        · rcases hz with ⟨_, rfl⟩ | ⟨c, _⟩ | ⟨c, _⟩
          · exact ⟨hne, fun z => rf_rc_out (fun b q => q.2.1 hs) z⟩
          · omega
          · omega
      · intro hx hmk2 oo v hoo hv
        have ex : x8 = s.2.1 108 kk.2.toNat := by omega
        have h1 := rf_bg_m (a := s.2.1 108 kk.2.toNat) rx (by rw [← ex]; exact hbg.bg)
        have hex : ∃ jj : Nat, (jj : Int) < s.2.1 108 kk.2.toNat ∧ ¬ rf_bt x7 (jj : Int) := Classical.byContradiction (fun hcon => hmk2 (h1.mpr (fun q hq => Classical.byContradiction (fun hb => hcon ⟨q, hq, hb⟩))))
        have f56 : sx_uf s.1 66 56 v 66 56 = v := by
          rw [sx_uf_if]
          exact if_pos ⟨rfl, rfl⟩
        exact ⟨_, by omega, Or.inr (Or.inr (Or.inr (Or.inr (Or.inr (Or.inr (Or.inl (⟨rfl, kk.2, x7, oo, 0, rfl, k3, rfl, hne, hs, by rw [← ex]; exact hbg, hex, ⟨⟨cx_I_uf rfl rfl hI (by omega) (by omega), cx_F_uf rfl (cx_F_refl _ _), rf_f_uf rfl (rf_f_refl _ _)⟩, hoo, f56.trans hv, rf_ag_refl _ _ _ _, by omega, fun q hq => by omega⟩, rfl⟩)))))))⟩
    · -- 249
      subst hx6
      have hr := (hk3 k3).1
      have raa2 : rf_aa s kk.2 = s.2.1 108 kk.2.toNat := rfl
      have rx := r108 kk.2.toNat
      have hO2 := hO
      obtain ⟨⟨o1, o2, o3⟩, o4, o5, o6, o7, o8⟩ := hO
      have u108 : u.2.1 108 = s.2.1 108 := (o2.same 108 rfl).2
      have u109 : u.2.1 109 = s.2.1 109 := (o2.same 109 rfl).2
      have f50 := o3 50 rfl
      have f61 := o3 61 rfl
      have f64 := o3 64 rfl
      have f70 := o3 70 rfl
      have ru := o1.fld 66 56 (by decide) rfl
      refine w_fits_249 (PK := fun t => vr_PF nb mark s t g AR 1 m row (.inner j kk uu f n) y W) o1 (by omega) (by omega) (by omega) ?_ ?_ ?_
      · intro hx nn v yy hnn hv hyy
        rw [u108] at hx
        refine ⟨_, by omega, Or.inr (Or.inr (Or.inr (Or.inr (Or.inr (Or.inr (Or.inl (⟨rfl, kk.2, x7, x8, yy, rfl, k3, rfl, hne, hs, hbg, hnb2, ⟨⟨cx_I_ua rfl rfl o1 (by omega) (by omega), cx_F_ua rfl o2, rf_f_ua o3⟩, o4, o5, rf_ag_ua (by omega) (by omega) o6, by omega, fun q hq => ?_⟩, rfl⟩)))))))⟩
        show sx_ua u.2.1 105 nn.toNat v 105 _ = _
        rw [sx_ua_same]
        dsimp only
        by_cases c : (q : Int) = x9
        · rw [if_pos (by omega)]
          omega
        · rw [if_neg (by omega)]
          exact o8 q (by omega)
      · intro hx K' hK'
        rw [u108] at hx
        obtain ⟨jj, jj1, jj2⟩ := hnb2
        obtain ⟨T0, t0⟩ := (hM.1 kk.2 hr.1 hr.2).1 ((s.2.1 108 kk.2.toNat).toNat - 1) (by omega)
        have t0 := t0.1.2
        refine c_v_keep hsL (d + 1) (by omega) kk.2 x8 x7 u K' o1 (by omega) (by omega) (by omega) (by omega) (by omega) (by rw [u108]; omega) (by rw [u108, u109]; omega) hbg.1 (by omega) (fun z t w kf c hW hkf hki hkc hn hA hKC => hK' z t ?_)
        exact vr_ft_keep hI hM hph hR2 hV tA k hm ho hrow hc k3 hne hs hO2 hx (fun q hq hb => ((hbg.2 q (by omega)).mp hb).2) (fun q hq hb => (hbg.2 q (by omega)).mpr ⟨hq, hb⟩) hW hkf hki hkc (hn.2 ⟨jj, by rw [u108]; exact jj1, jj2⟩) hA hKC
      · intro t ht
        exact hK 1 t ht
    · -- 294
      have hv : kk.1 = 2 → -2147483648 ≤ rf_look y kk.2 ∧ rf_look y kk.2 ≤ 2147483647 := fun q => by
        rw [← eR]
        exact rf_look_in hI kN.1 (hI.arr 101 (by decide) rfl _)
      have hv2 := rf_look_in hI kN.1 (hI.arr 101 (by decide) rfl i.toNat)
      rw [eR] at hv2
      refine w_vfits_294 (lk := rf_look y kk.2) (PI := fun z => z ≠ 0 ↔ ∃ q : Nat, (q : Int) < s.2.1 108 m.toNat ∧ s.2.1 105 (row + (q : Int)).toNat = rf_look y kk.2) hI pA (by omega) hv2 ?_ ?_ ?_ ?_
      · intro q u hu K' hK'
        rw [eR] at hu
        rw [hu]
        have h101 := hI.arr 101 (by decide) rfl i.toNat
        rw [eR] at h101
        exact c_r_look hsL 100 (d + 1) (by omega) y b kk.2 s K' hI dY kN.1 h101 hK'
      · intro q hl K' hK'
        exact c_v_isIn hsL (d + 1) (by omega) _ m row s K' hI hv2 (by omega) (by omega) hK'
      · rintro q2k hl ⟨zz, z1, z2⟩
        have q2 : kk.1 = 2 := by rw [← eK]; exact q2k
        refine hK 0 s (vr_PF_0 hI (rf_FS_refl s) (fun th hS hk => ?_))
        rcases (vr_K_rig k0 hk).2 q2 with w | ⟨qq, w1, w2⟩
        · omega
        · exact absurd z1 (z2.mpr ⟨qq, w1, w2.symm⟩)
      · intro hcond
        refine ⟨_, by omega, Or.inr (Or.inr (Or.inr (Or.inr (Or.inr (Or.inr (Or.inr (Or.inr (Or.inl (⟨rfl, rfl, rfl, k0, fun q => ?_, rfl⟩)))))))))⟩
        rcases hcond (by omega) with w | ⟨zz, z1, z2⟩
        · exact Or.inl w
        · obtain ⟨qq, w1, w2⟩ := z2.mp z1
          exact Or.inr ⟨qq, w1, w2.symm⟩
    · -- 338
      refine w_fits_338 hI pA (fun u hu => ⟨_, by omega, Or.inr (Or.inr (Or.inr (Or.inr (Or.inr (Or.inr (Or.inr (Or.inr (Or.inr (⟨rfl, u, g, AR, .leaf, f, rfl, k0, hk2, ⟨⟨rfl, ⟨hI, hM, rf_EX_refl _ _ _, rf_EG_refl _ _, rf_FS_refl s⟩, ⟨rfl, rfl⟩, ⟨hph, hR2, Nat.le_refl _⟩, ho, ?_, hc, fun _ h => h, fun _ h => h.elim, fun _ h => h.elim, trivial⟩, hV, fun _ _ => rfl, ?_, fun _ => ⟨vx_le_refl _, fun th hS hk => ⟨th, hS, vr_ag_refl _ _, (vr_K_rig k0 hk).1⟩⟩⟩, rfl⟩)))))))))⟩)
      · rcases e8 with ⟨c, _⟩ | ⟨c, hx, w, hw, hwf⟩
        · omega
        · refine ⟨w, ?_⟩
          rw [hu, e2]
          exact rf_CL_app k k0 hwf (by omega)
      · rcases tA.2 with ⟨q, _⟩ | ⟨q, _⟩ | ⟨_, q⟩
        · omega
        · omega
        · exact q
    · -- 346
      have hL2 := hL
      obtain ⟨⟨l1, ⟨l2, l3, l4, l5, l6⟩, ⟨l7, l8⟩, ⟨l9, l10, l11⟩, l12, ⟨w, l13⟩, l14, l15, l16, l17, l18⟩, lV, lA, lr, lQ⟩ := hL
      have hgvu : ∀ w, rf_gv s m row mark w → rf_gv u m row mark w := fun w hw => (rf_gv_up l4 hm hrow).mpr hw
      have rr := rf_nd_rng l13.1.1
      have ru := l2.fld 66 50 (by decide) rfl
      have eaa := l4.aa hm.1 hm.2
      have e61 := l4.1.2.2.2.1
      have e56 := l4.1.2.2.1
      refine w_fits_346 (PF := fun z t => x6 ≠ -1 ∧ vr_PF nb mark u t g1 AR1 z m row f1 y W) l2 (by omega) ?_ ?_ ?_ ?_ ?_
      · intro hx
        have hnil := (rf_CR_nil l13).1.mp hx
        subst hnil
        rw [rf_snoc_leaf] at l1
        subst l1
        refine hK 1 u ⟨by omega, l2, l6, fun q => absurd q (by decide), fun _ => ⟨g1, AR1, l3, l4, l5, ⟨l9, l10, l11⟩, ⟨by omega, by omega⟩, l12, fun v hv => ?_, fun z hz => ?_, l14, l15, lV, lA, vr_Q_Z lQ⟩⟩
        · rcases hv with ⟨c, _⟩ | ⟨c, _⟩ | ⟨_, hv⟩
          · omega
          · omega
          · rcases hv with ⟨c1, c2⟩ | hv
            · rw [c2]
              exact hk2 c1
            · exact l16 v hv
        · rcases hz with ⟨c, _⟩ | ⟨c, _⟩ | ⟨_, hz⟩
          · omega
          · omega
          · exact l17 z hz
      · intro hx K' hK'
        obtain ⟨C, D2, z1, z2, n', z3, z4, jj, kk', uu', ff', z5⟩ := rf_CR_cons l13 hx
        have tf : vr_t u AR1 f1 := by
          rw [z5] at lr ⊢
          exact lr.1
        exact ih N f1 y C W (p - 1) x6 b m row mark nb u g1 AR1 K' l2 l3 (by omega) (by omega) l9 l10 lV tf z2 (by omega) (by omega) l12 (by omega) l14 (by omega) (by omega) (fun z t ht => hK' z t ⟨hx, ht⟩)
      · rintro z t ⟨_, c1, c2, _⟩
        exact ⟨c2, c1⟩
      · rintro z t ⟨hne1, c1, c2, c3, c0, _⟩ hz
        refine hK 0 t (vr_PF_0 c2 (rf_FS_trans c3 l6) (vr_Q_N lQ (fun th hS hk => ?_) (c0 hz)))
        obtain ⟨C, D2, z1, z2, n', z3, z4, jj, kk', uu', ff', z5⟩ := rf_CR_cons l13 hne1
        rw [z5] at hk ⊢
        rw [l8]
        exact vr_K_al hgvu (vr_Kr_c (fun m => (hS.1 m).1) hk).1
      · rintro hx z t ⟨_, hP⟩ hz a a2 v ha ha2 hv
        obtain ⟨C, D2, z1, z2, n', z3, z4, jj, kk', uu', ff', z5⟩ := rf_CR_cons l13 hx
        subst z5
        obtain ⟨g2, AR2, hFL⟩ := vr_FL_s hI hm hrow hL2 hx hP hz ha ha2
        rw [← hv] at hFL
        obtain ⟨n2, hn2⟩ : ∃ q, q = n' := ⟨_, rfl⟩
        rw [← hn2] at hFL ⊢
        exact ⟨_, by show rf_len n2 < rf_len n2 + 1; omega, Or.inr (Or.inr (Or.inr (Or.inr (Or.inr (Or.inr (Or.inr (Or.inr (Or.inr (⟨rfl, v, g2, AR2, _, n2, rfl, k0, hk2, hFL, rfl⟩)))))))))⟩
theorem c_v_fits {sL : Nat} {sx : Nat → Int32} (hsL : sL ≤ 3072) : ∀ P d : Nat, P + 130 ≤ d → vr_FT sL sx P d
  | 0, d, _ => by
    intro N A y x W p i b m row mark nb s g AR K hI hM hnb hmk hph hR hV tA k hp
    obtain ⟨j, kk, uu, f, n, eA, _⟩ := rf_CL_node k
    subst eA
    have hpp := rf_wy_pos k.2.2.2 hph
    have hw1 := rf_wh_pos (j := j) (k := kk) (u := uu) (f := f) (x := n)
    omega
  | P + 1, d, hd => by
    obtain ⟨d, rfl⟩ : ∃ e, d = e + 2 := ⟨d - 2, by omega⟩
    exact vr_ft_ok hsL (by omega) (c_v_fits hsL P (d + 1) (by omega))
