theorem c_x_solve {Ω : Type} {E0 : we_E Ω} (hL0 : we_L E0) {sL : Nat} {sx : Nat → Int32} (hKE : we_K E0 sL sx) (hfull : ∀ p : Nat → Int, ∃ o, we_sa E0 o ∧ E0.2.1.1 4001 p o) (hsL : sL ≤ 3072) (d : Nat) (hd : 1700 ≤ d) (b : Nat → Int) (n : Int) (l : List ((Int × Int × qx_T) × (px_N × px_N))) (TV : Int → qx_T → Prop) (AR' : Nat → List Int) (tl : List (rf_N × rf_N)) : ∀ (s : sx_S) (K : Int → sx_S → Prop), cx_I s → (s.1 66 37 ≠ 0 → rf_LD s ∧ ∀ u : sx_S, (∀ p, 68 ≤ p → p ≤ 99 → u.2.1 p = s.2.1 p) → u.1 66 3 = s.1 66 3 → u.1 66 42 = s.1 66 42 → we_Rn E0 u) → (s.1 66 37 ≠ 0 → vk_LD b n l (rf_l0 s) ∧ vs_tl (px_SN b n) TV AR' (vk_eq l [] []) tl) → (s.1 66 37 ≠ 0 → wr_C b n l s ∧ vl_tx (px_SN b n) TV AR' l [] [] tl ∧ wy_V b n l TV) → (∀ z t, ((s.1 66 37 = 0 ∧ z = -1 ∧ t = s) ∨ (s.1 66 37 ≠ 0 ∧ (rf_SO s t ∧ vk_LD b n l (rf_l0 t)) ∧ ((z = 0 ∧ vs_sat AR' tl (vk_mf l []) ∧ wr_Y E0 b n l TV AR' tl t ∧ t.1 66 78 = 1) ∨ (z = 1 ∧ t.1 66 78 = 0 ∧ ¬ vs_sat AR' tl (vk_mf l []))))) → K z t) → sx_C sL sx d 201 [.inr (.inl 66)] s K := by
  intro s K hI hLs hVs hWs hK
  obtain ⟨d, rfl⟩ : ∃ e, d = e + 2 := ⟨d - 2, by omega⟩
  have r45 := hI.fld 66 45 (by decide) rfl
  have r47 := hI.fld 66 47 (by decide) rfl
  obtain ⟨⟨z1, z2, z3⟩, ⟨z71, z61, z64, z70, z78⟩, z4⟩ := rf_z8_f (s := s)
  have z45 := z4 45 (by decide) (by decide) (by decide) (by decide) (by decide) (by decide) (by decide) (by decide)
  have z47 := z4 47 (by decide) (by decide) (by decide) (by decide) (by decide) (by decide) (by decide) (by decide)
  have z9 := z4 9 (by decide) (by decide) (by decide) (by decide) (by decide) (by decide) (by decide) (by decide)
  refine sx_methL (wr := true) (n := 400) (n' := 400) (stop := [(60, [0, 1]), (80, [0, 1, 2, 3]), (114, [0, 1]), (151, [0])]) (fun ms pc ls u => s.1 66 37 ≠ 0 ∧ ((pc = 60 ∧ ∃ k : Int, ls = [(0, .inr (.inl 66)), (1, .inl k)] ∧ (0 ≤ k ∧ k ≤ s.1 66 45) ∧ rf_I1 (rf_z8 s) u k ∧ (ms : Int) = 100 - 10 * k) ∨ (pc = 80 ∧ ∃ k x3 : Int, ls = [(0, .inr (.inl 66)), (1, .inl k), (2, .inl k), (3, .inl x3)] ∧ (0 ≤ k ∧ k < s.1 66 45) ∧ (0 ≤ x3 ∧ x3 ≤ 5999) ∧ rf_I2 (rf_z8 s) u k x3 ∧ (ms : Int) = 99 - 10 * k - u.2.1 108 k.toNat) ∨ (pc = 114 ∧ ∃ k : Int, ls = [(0, .inr (.inl 66)), (1, .inl k)] ∧ (0 ≤ k ∧ k ≤ s.1 66 47) ∧ vs_I3 AR' tl (vk_mf l []) (rf_z8 s) u k ∧ (ms : Int) = 40 - k) ∨ (pc = 151 ∧ ls = [(0, .inr (.inl 66))] ∧ vs_I3 AR' tl (vk_mf l []) (rf_z8 s) u (s.1 66 47) ∧ ms = 1))) hsL (e := eX12_solve) rfl ?_ ?_
  · refine w_solve hI (fun h37 => hK (-1) s (Or.inl ⟨h37, rfl, rfl⟩)) (fun h37 a b c ha hb hc => ⟨100, h37, Or.inl ⟨rfl, 0, rfl, by omega, ?_, by omega⟩⟩)
    subst ha hb hc
    show rf_I1 (rf_z8 s) (rf_z8 s) 0
    exact ⟨⟨rf_z8_I hI, cx_F_refl _ _, rf_f_refl _ _⟩, z61, by omega, fun r r0 r1 => absurd r1 (by omega)⟩
  · rintro ms pc ls u ⟨h37, h⟩
    obtain ⟨hLD, hRn⟩ := hLs h37
    obtain ⟨hWC, hWx, hWV⟩ := hWs h37
    obtain ⟨hVL, htl0, htl⟩ := hVs h37
    obtain ⟨_, ⟨mt, hDL⟩, hE47, hSD⟩ := hVL trivial
    have xz := rf_z8_xu (s := s)
    obtain ⟨_, _, _, l4z, _⟩ := rf_l0_f (s := s)
    have l45 := l4z 45 (by decide) (by decide) (by decide)
    have l47 := l4z 47 (by decide) (by decide) (by decide)
    have hDz : px_DL 97 123 45 mt (rf_z8 s) (vk_mf l []) := px_DL_up hDL (by omega) xz.1 rfl rfl
    have lM := (hDz trivial).1
    have hUz : vk_U (rf_l0 s) (rf_z8 s) := vk_U_Q (fun _ _ _ _ _ => rfl) xz
    have eL : (tl.length : Int) = s.1 66 47 := by
      rw [htl0]
      omega
    have hL0 := hLD
    obtain ⟨⟨hE, hC⟩, h75, h76, h77, h9, _, h34⟩ := hL0
    have hES := rf_z8_ES hE
    rcases h with ⟨rfl, k, rfl, hk, hJ, hms⟩ | ⟨rfl, k, x3, rfl, hk, h3, hJ, hms⟩ | ⟨rfl, k, rfl, hk, hJ, hms⟩ | ⟨rfl, rfl, hJ, rfl⟩
    · -- 60
      have hJ0 := hJ
      obtain ⟨⟨a1, a2, a3⟩, a4, a5, a6⟩ := hJ0
      have e45 := a3 45 rfl
      have e123 : u.2.1 123 = (rf_z8 s).2.1 123 := (a2.same 123 rfl).2
      refine w_solve_60 (PN := fun z t => cx_I t ∧ t.2.1 123 = (rf_z8 s).2.1 123 ∧ z = k ∧ rf_I2 (rf_z8 s) t k ((rf_z8 s).2.1 123 k.toNat) ∧ t.2.1 108 k.toNat = 0) a1 (by omega) (fun hge => ⟨40, by omega, h37, Or.inr (Or.inr (Or.inl ⟨rfl, 0, rfl, by omega, ?_, by omega⟩))⟩) (fun hlt K' hK' => c_r_newMeta hsL (d + 1) (by omega) u K' a1 (by omega) (fun z t c1 c2 c3 c4 c5 c6 c7 c8 c9 => ?_)) (fun z t h => h.1) (fun hlt z t h x hx => ⟨ms - 1, by omega, h37, Or.inr (Or.inl ⟨rfl, k, x, ?_, by omega, ?_, ?_, ?_⟩)⟩)
      · refine vs_I1_I3 hDz (by omega) (by omega) z71 z70 z78 (by omega) ?_
        rw [show (rf_z8 s).1 66 45 = k by omega]
        exact hJ
      · have ht5 : rf_t5 (rf_z8 s) ((rf_z8 s).2.1 123 k.toNat) := by
          obtain ⟨_, _, _, l4, _⟩ := rf_l0_f (s := s)
          have m9 := l4 9 (by decide) (by decide) (by decide)
          have m45 := l4 45 (by decide) (by decide) (by decide)
          exact rf_t5_9 (s := rf_l0 s) (by omega) rfl rfl ((hC k.toNat).2.1 (by omega))
        obtain ⟨q1, q2⟩ := rf_I2_0 hk.1 hJ ht5 c1 c2 c3 c4 c5 c6 c7 c8 c9
        refine hK' z t ⟨c1, (c2.same 123 rfl).2.trans e123, q1, q2, ?_⟩
        rw [← q1]
        exact c7
      · rw [h.2.2.1]
      · have := h.1.arr 123 (by decide) rfl k.toNat
        omega
      · rw [hx, h.2.1]
        exact h.2.2.2.1
      · rw [h.2.2.2.2]
        omega
    · -- 80
      have hJ0 := hJ
      obtain ⟨⟨a1, a2, a3⟩, a4, a5, a6, a7, x, y, D, ⟨b1, b2, b3⟩, b4, b5, b6⟩ := hJ0
      have r108 := a1.arr 108 (by decide) rfl k.toNat
      have r72 := a1.arr 72 (by decide) rfl x3.toNat
      refine w_solve_80 (PA := fun t => cx_I t ∧ rf_I2 (rf_z8 s) t k (t.2.1 73 x3.toNat) ∧ t.2.1 108 k.toNat = u.2.1 108 k.toNat + 1) a1 (by omega) h3 (fun h1 q hq => ⟨(100 - 10 * q).toNat, by omega, h37, Or.inl ⟨rfl, q, rfl, by omega, ?_, by omega⟩⟩) (fun h1 a ha K' hK' => c_r_addType hsL (d + 1) (by omega) k a u K' a1 (by omega) (by omega) (by omega) ?_ (fun z t c1 c2 c3 c4 c5 c6 c7 c8 => hK' z t ⟨c1, rf_I2_s hk.1 h1 hJ ha c1 c2 c3 c4 c5 c6 c7 c8, c8⟩)) (fun t h => h.1) (fun h1 t h q hq => ⟨ms - 1, by omega, h37, Or.inr (Or.inl ⟨rfl, k, q, rfl, hk, ?_, ?_, ?_⟩)⟩)
      · rw [hq]
        exact rf_I2_e hk.1 h1 hJ
      · cases y with
        | leaf =>
          have : 0 ≤ x3 ∧ x3 < 2 := b3
          omega
        | inner n uu vv A B =>
          have l1 := rf_args_at x
          rw [b4, List.length_append] at l1
          have l2 : (rf_args (.inner n uu vv A B)).length = (rf_args B).length + 1 := rfl
          omega
      · have := h.1.arr 73 (by decide) rfl x3.toNat
        omega
      · rw [hq]
        exact h.2.1
      · rw [h.2.2]
        have r108t := h.1.arr 108 (by decide) rfl k.toNat
        omega
    · -- 114
      obtain ⟨g, AR, ⟨⟨u1, u2, u3, u4⟩, u5, u6, u7, u8⟩, hV⟩ := hJ
      have e47 := u6.1.2 47 rfl
      have r70 := u4.2.2.2.2.2
      have hESu := rf_Z_ES u6 hES
      refine w_solve_114 (PU := fun z t => ∃ (p : Nat) (P : (Int → rf_N) → Prop), (p ≤ 2700 ∧ k < s.1 66 47) ∧ vr_PU u t g AR z p P ∧ (∀ th, vx_So (vr_S u g AR) th → (P th ↔ vs_E AR' tl k th)) ∧ ∀ th th', vx_gd th → vx_gd th' → vx_ag ((vk_mf l []).length : Int) th th' → vs_E AR' tl k th → vs_E AR' tl k th') u1 (by omega) (fun hge => ⟨1, by omega, h37, Or.inr (Or.inr (Or.inr ⟨rfl, rfl, ?_, rfl⟩))⟩) (fun hlt a b ha hb K' hK' => ?_) (fun z t ⟨_, _, _, h, _⟩ => h.1) (fun z t h hz => hK 1 t (Or.inr ⟨h37, ?_, Or.inr ⟨rfl, ?_, ?_⟩⟩)) (fun hlt z t h hz y hy => ⟨ms - 1, by omega, h37, Or.inr (Or.inr (Or.inl ⟨rfl, y, rfl, by omega, ?_, by omega⟩))⟩)
      · rw [show s.1 66 47 = k by omega]
        exact ⟨g, AR, ⟨⟨u1, u2, u3, u4⟩, u5, u6, u7, u8⟩, hV⟩
      · obtain ⟨x, hx1, hx2⟩ := hESu k.toNat (by omega)
        obtain ⟨A, hA, _⟩ := rf_EQ_RT u2 u5 r70 hx1
        obtain ⟨B, hB, _⟩ := rf_EQ_RT u2 u5 r70 hx2
        have wA := hA.2.2.1
        have wB := hB.2.2.1
        have hq : rf_qu u ≤ 100 := by
          have := u4.2.2.2.2.1
          omega
        have hmm : (rf_qu u + 1) * (1150 + (rf_wh A).1 + (1150 + (rf_wh B).1)) ≤ (rf_qu u + 1) * 2700 := Nat.mul_le_mul (Nat.le_refl _) (by omega)
        have r71 := u1.fld 66 71 (by decide) rfl
        have r58 := u1.fld 66 58 (by decide) rfl
        obtain ⟨j1, j2, j3, j4⟩ := hV trivial
        have hkl : k.toNat < (vk_eq l [] []).length := by omega
        obtain ⟨pe, hpe⟩ : ∃ p, (vk_eq l [] [])[k.toNat]? = some p := ⟨_, List.getElem?_eq_getElem hkl⟩
        obtain ⟨W, V, y1, y2, t0, t1, t2⟩ := htl k.toNat pe hpe
        obtain ⟨s1, s2⟩ := hSD k.toNat pe hpe
        obtain ⟨x0, hz1, hz2⟩ := hES k.toNat (by omega)
        have e98 : u.2.1 98 = (rf_z8 s).2.1 98 := (u6.1.1.same 98 rfl).2
        have e99 : u.2.1 99 = (rf_z8 s).2.1 99 := (u6.1.1.same 99 rfl).2
        obtain ⟨A2, B2, ⟨v1, v2⟩, ⟨v3, v4⟩, v5, v6⟩ := vs_eq (k := k) (M := vk_mf l []) u6 u5 j2 lM.symm (vk_sd_up hUz s1) (vk_sd_up hUz s2) hz1 hz2 t0 t1 t2
        have hA1 : rf_no u A ((rf_z8 s).2.1 98 k.toNat) := by
          rw [← e98]
          exact hA.1.1
        have hB1 : rf_no u B ((rf_z8 s).2.1 99 k.toNat) := by
          rw [← e99]
          exact hB.1.1
        have eA : A = A2 := rf_nd_fun hA1 v1
        have eB : B = B2 := rf_nd_fun hB1 v2
        subst eA eB
        rw [ha, hb]
        exact c_v_unify hsL 1350 (d + 1) (by omega) _ _ A B .leaf .leaf x [] [] (1150 + (rf_wh A).1) (1150 + (rf_wh B).1) _ _ _ _ u g AR K' u1 u2 u3 u4 j1 v3 v4 hA hB (by omega) (by omega) (by omega) (by omega) (fun z t h => hK' z t ⟨_, _, ⟨by omega, by omega⟩, h, fun th hS => v5 _ th hS.1, v6⟩)
      · obtain ⟨p, P, _, hp, _⟩ := h
        have hZt := rf_Z_trans (rf_Z_FS hp.2.2.1) u6
        refine ⟨rf_SO_no hLD hp.2.1 hZt (Or.inl ?_), vk_Z_LD hVL hZt⟩
        exact (hp.2.2.1.1.2 78 rfl).trans u8
      · obtain ⟨p, P, _, hp, _⟩ := h
        exact (hp.2.2.1.1.2 78 rfl).trans u8
      · obtain ⟨p, P, ⟨_, hk7⟩, hp, hp1, hp2⟩ := h
        exact vs_no hk.1 (by omega) hV hp1 hp2 (hp.2.2.2.1 hz)
      · obtain ⟨p, P, ⟨hp0, _⟩, hp, hp1, hp2⟩ := h
        rw [hy]
        have e45u := u6.1.2 45 rfl
        have hU61 := u5.1
        exact vs_I3_s u1 hk.1 (by omega) hp0 u5 u6 u7 u8 hV hp1 hp2 hp hz
    · -- 151
      obtain ⟨g, AR, ⟨⟨u1, u2, u3, u4⟩, u5, u6, u7, u8⟩, hV⟩ := hJ
      have hESu := rf_Z_ES u6 hES
      have e9 := u6.1.2 9 rfl
      have e45 := u6.1.2 45 rfl
      have e47 := u6.1.2 47 rfl
      have hI1 : cx_I (sx_uf u.1 66 78 1, u.2) := cx_I_uf rfl rfl u1 (by decide) (by decide)
      obtain ⟨E1, N1, _⟩ := rf_EX_u1 (nb := u.1 66 71) (ib := u.1 66 58) (v := 1) (s := u) (k := 78) (Or.inl rfl)
      have M1 := rf_NC_MI E1 N1 (Int.le_refl _) (Int.le_refl _) u2
      have P1 : rf_ph (sx_uf u.1 66 78 1, u.2) g ≤ 1150 := by
        rw [rf_NC_ph E1 N1]
        exact u3
      have e : ∀ q, q ≠ 78 → sx_uf u.1 66 78 1 66 q = u.1 66 q := fun q hq => by rw [sx_uf_if, if_neg (fun c => hq c.2)]
      have n50 := e 50 (by decide)
      have n56 := e 56 (by decide)
      have n58 := e 58 (by decide)
      have n61 := e 61 (by decide)
      have n70 := e 70 (by decide)
      have n71 := e 71 (by decide)
      have n45 := e 45 (by decide)
      have n47 := e 47 (by decide)
      have n9 := e 9 (by decide)
      have hRM := u4
      obtain ⟨R1, R2, R3, R4, R5, R6⟩ := hRM
      have hUK := u5.1
      have hV' : vs_J (rf_z8 s) AR' tl (vk_mf l []) u g AR (tl.length : Int) := by
        rw [eL]
        exact hV
      have hsat : vs_sat AR' tl (vk_mf l []) := vs_yes u1 u2 hV'
      obtain ⟨j1, j2, j3, j4⟩ := hV trivial
      obtain ⟨th, hS, ho, _⟩ := vx_fin (vr_W u1 j1) (vr_B1 u1 j1) (vr_rk u1 u2 j1) (vr_Sc u2 j1)
      obtain ⟨hMG, hMa⟩ := wy_MG u1 u2 hDz (by omega) u6 u5 hS ho hV'
      have e3u := u6.1.2 3 rfl
      have e42u := u6.1.2 42 rfl
      have z3 := z4 3 (by decide) (by decide) (by decide) (by decide) (by decide) (by decide) (by decide) (by decide)
      have z42 := z4 42 (by decide) (by decide) (by decide) (by decide) (by decide) (by decide) (by decide) (by decide)
      have out9 : ∀ (a b : sx_S) (W : List (Nat × Nat)), cx_F W a b → (∀ q ∈ W, q.2 < 67 ∨ 99 < q.1) → ∀ p, 68 ≤ p → p ≤ 99 → b.2.1 p = a.2.1 p := fun a b W hW hq p h1 h2 => ((hW p).1 (fun q hq' => by have := hq q hq'; omega)).2
      have arU := out9 (rf_z8 s) u _ u6.1.1 (fun q hq => by
        simp only [List.mem_cons, List.not_mem_nil, or_false] at hq
        rcases hq with rfl | rfl | rfl <;> (dsimp only; omega))
      have hRu : we_Rn E0 u := hRn u (fun p h1 h2 => (arU p h1 h2).trans rfl) (by omega) (by omega)
      have hGu : we_G (wy_E E0 u th AR _) u g := wy_G u1 u2 j1 hS ho (vr_rk u1 u2 j1) (by have := u6.2.2.2.2; omega) hRu
      have hGv := we_G_up (show we_L (wy_E E0 u th AR _) from hL0) u1 u2 E1 N1 (by dsimp only; omega) (fun _ _ _ => rfl) (e 3 (by decide)) hGu
      refine w_solve_151 (PW := fun t => (rf_SO s t ∧ vk_LD b n l (rf_l0 t)) ∧ wr_Y E0 b n l TV AR' tl t ∧ t.1 66 78 = 1) (fun K' hK' => c_e_number (show we_L (wy_E E0 u th AR _) from hL0) (show we_K (wy_E E0 u th AR _) sL sx from hKE) hsL (d + 1) (by omega) hfull (u.1 66 71) (u.1 66 58) _ g K' hI1 M1 ⟨by dsimp only; omega, by dsimp only; omega⟩ P1 ⟨by dsimp only; omega, by dsimp only; omega⟩ (by dsimp only; omega) ⟨by dsimp only; omega, by dsimp only; omega⟩ (by dsimp only; omega) ⟨by dsimp only; omega, by dsimp only; omega⟩ (by dsimp only; omega) (by dsimp only; omega) hGv ?_) (fun t h => hK 0 t (Or.inr ⟨h37, h.1, Or.inl ⟨rfl, hsat, h.2⟩⟩))
      rintro z t ⟨t', hN, hNa, rfl⟩
      refine hK' z _ ?_
      have Z2 := rf_Z_NU hN
      have Z3 : rf_Z t' (sx_uf t'.1 66 89 0, t'.2) := rf_Z_uf (Or.inr rfl)
      have Z1 : rf_Z u (sx_uf u.1 66 78 1, u.2) := rf_Z_uf (Or.inl rfl)
      have Zu := rf_Z_trans Z3 (rf_Z_trans Z2 Z1)
      have Zt := rf_Z_trans Zu u6
      have hN0 := hN
      obtain ⟨⟨a1, a2, a3, a4⟩, ⟨b1, b2⟩, c1, c2, c3, c4, c5⟩ := hN0
      obtain ⟨E3, N3, O3⟩ := rf_EX_u1 (nb := t'.1 66 71) (ib := t'.1 66 58) (v := 0) (s := t') (k := 89) (Or.inr rfl)
      have f : ∀ q, q ≠ 89 → sx_uf t'.1 66 89 0 66 q = t'.1 66 q := fun q hq => by rw [sx_uf_if, if_neg (fun c => hq c.2)]
      have m50 := f 50 (by decide)
      have m56 := f 56 (by decide)
      have m58 := f 58 (by decide)
      have m61 := f 61 (by decide)
      have m70 := f 70 (by decide)
      have m71 := f 71 (by decide)
      have m45 := f 45 (by decide)
      have m47 := f 47 (by decide)
      have m9 := f 9 (by decide)
      have g61 := b2 61 rfl
      have g70 := b2 70 rfl
      have g45 := b2 45 rfl
      have g47 := b2 47 rfl
      have g9 := b2 9 rfl
      dsimp only at c1 c2 c3 c4 c5 g61 g70 g45 g47 g9
      have hIt : cx_I (sx_uf t'.1 66 89 0, t'.2) := cx_I_uf rfl rfl a1 (by decide) (by decide)
      have Mt' : rf_MI (t'.1 66 71) (t'.1 66 58) t' g := rf_NC_MI (rf_EX_le a2 (by dsimp only; omega) (by dsimp only; omega)) a3 (by omega) (by omega) M1
      have Mt : rf_MI (t'.1 66 71) (t'.1 66 58) (sx_uf t'.1 66 89 0, t'.2) g := rf_NC_MI E3 N3 (Int.le_refl _) (Int.le_refl _) Mt'
      have Ut' : rf_UK t' := rf_UK_up a2 (b2 45 rfl) (b1.same 123 rfl).2 (rf_UK_up E1 n45 rfl u5)
      have Ut : rf_UK (sx_uf t'.1 66 89 0, t'.2) := rf_UK_up E3 m45 rfl Ut'
      have ESt := rf_Z_ES Zu hESu
      have pht : rf_ph (sx_uf t'.1 66 89 0, t'.2) g ≤ 1150 := by
        rw [rf_NC_ph E3 N3, rf_NC_ph a2 a3]
        exact P1
      have h70t : 0 ≤ ((sx_uf t'.1 66 89 0, t'.2) : sx_S).1 66 70 := by
        dsimp only
        omega
      have hHS : rf_HS ((sx_uf t'.1 66 89 0, t'.2) : sx_S) g := by
        refine ⟨⟨⟨hIt, ?_, Int.le_refl _, Int.le_refl _, pht⟩, ⟨h70t, by dsimp only; omega⟩, by dsimp only; omega, ⟨by dsimp only; omega, by dsimp only; omega⟩, ⟨by show sx_uf t'.1 66 89 0 66 50 ≤ 59950; omega, by dsimp only; omega⟩, O3 a4⟩, by dsimp only; omega, ⟨by dsimp only; omega, by dsimp only; omega, by dsimp only; omega, by dsimp only; omega⟩, fun k k0 k1 => ?_⟩
        · show rf_MI (sx_uf t'.1 66 89 0 66 71) (sx_uf t'.1 66 89 0 66 58) _ g
          rw [m71, m58]
          exact Mt
        · obtain ⟨x, hx1, hx2⟩ := ESt k.toNat (by omega)
          obtain ⟨A, hA1, hA2⟩ := rf_EQ_RT Mt Ut h70t hx1
          obtain ⟨B, hB1, hB2⟩ := rf_EQ_RT Mt Ut h70t hx2
          exact ⟨⟨A, x, hA1, hA2⟩, ⟨B, x, hB1, hB2⟩⟩
      have EX2 : rf_EX (u.1 66 71) (u.1 66 58) ((sx_uf u.1 66 78 1, u.2) : sx_S) t' := rf_EX_le a2 (by dsimp only; omega) (by dsimp only; omega)
      have ar2 := out9 _ t' _ b1 (fun q hq => by
        simp only [List.mem_cons, List.not_mem_nil, or_false] at hq
        rcases hq with rfl | rfl | rfl <;> (dsimp only; omega))
      have hG2 := we_G_up (show we_L (wy_E E0 u th AR _) from hL0) hI1 M1 EX2 a3 (by dsimp only; omega) ar2 (b2 3 rfl) hGv
      have hG3 := we_G_up (show we_L (wy_E E0 u th AR _) from hL0) a1 Mt' E3 N3 (by dsimp only; omega) (fun _ _ _ => rfl) (f 3 (by decide)) hG2
      have e45t : (sx_uf t'.1 66 89 0 66 45) = sx_uf u.1 66 78 1 66 45 := by omega
      have n79 := f 79 (by decide)
      have hN3 : we_N ((sx_uf t'.1 66 89 0, t'.2) : sx_S) (wz_al th (sx_uf u.1 66 78 1 66 45).toNat) := we_N_same (s := t') n79 m61 (fun _ _ => rfl) hNa
      have lMn : (sx_uf u.1 66 78 1 66 45).toNat = (vk_mf l []).length := by omega
      have hCu : wr_C b n l u := wr_C_c (fun p hp => by
        by_cases c : p = 123
        · rw [c]
          exact (u6.1.1.same 123 rfl).2
        · exact arU p (by omega) (by omega)) (fun k hk => by
        rcases hk with rfl | rfl | rfl | rfl
        · omega
        · omega
        · omega
        · omega) hWC
      have hZZ := wr_Z_mk (t := ((sx_uf t'.1 66 89 0, t'.2) : sx_S)) u1 hIt u2 j1 hS ho hCu (by omega) u5 hWx hWV hMG hMa (by rw [← lMn]; exact hN3) (by show sx_uf t'.1 66 89 0 66 61 = u.1 66 61; omega)
      refine ⟨⟨rf_SO_no hLD hIt Zt (Or.inr ⟨g, hHS⟩), vk_Z_LD hVL Zt⟩, fun _ => ⟨g, wy_ht u, th, AR, _, _, fun _ => ⟨hHS, hG3, ?_, ?_, fun k k0 k1 => ?_⟩, hZZ, ?_, fun m m0 m1 => ?_, ?_, fun k p hp => ?_⟩, (f 78 (by decide)).trans ((b2 78 rfl).trans px_uS)⟩
      · show we_N _ (wz_al th (sx_uf t'.1 66 89 0 66 45).toNat)
        rw [e45t]
        exact hN3
      · exact px_uS
      · have k47 : k.toNat < (vk_eq l [] []).length := by
          have k1' : k < sx_uf t'.1 66 89 0 66 47 := k1
          omega
        obtain ⟨s1, s2⟩ := hSD k.toNat _ (List.getElem?_eq_getElem k47)
        obtain ⟨x0, hz1, hz2⟩ := hES k.toNat (by omega)
        obtain ⟨x, hx1, hx2⟩ := ESt k.toNat (by omega)
        obtain ⟨A, hA1, hA2⟩ := rf_EQ_RT Mt Ut h70t hx1
        obtain ⟨B, hB1, hB2⟩ := rf_EQ_RT Mt Ut h70t hx2
        have e98 : ((sx_uf t'.1 66 89 0, t'.2) : sx_S).2.1 98 = (rf_z8 s).2.1 98 := (Zt.1.1.same 98 rfl).2
        have e99 : ((sx_uf t'.1 66 89 0, t'.2) : sx_S).2.1 99 = (rf_z8 s).2.1 99 := (Zt.1.1.same 99 rfl).2
        rw [e98] at hA1 ⊢
        rw [e99] at hB1 ⊢
        exact ⟨wy_RT Zt Ut j2 hz1 (vk_sd_up hUz s1) hA1 hA2, wy_RT Zt Ut j2 hz2 (vk_sd_up hUz s2) hB1 hB2⟩
      · rw [← vk_mf_vl]
        show sx_uf t'.1 66 89 0 66 45 = _
        omega
      · rw [← vk_mf_vl] at m1 ⊢
        exact (vs_ar hDz (by omega) (rf_Z_xu Zt) Ut m0 m1).1
      · rw [← vk_eq_vl]
        show sx_uf t'.1 66 89 0 66 47 = _
        omega
      · rw [← vk_eq_vl] at hp
        obtain ⟨s1, s2⟩ := hSD k p hp
        have e98 : ((sx_uf t'.1 66 89 0, t'.2) : sx_S).2.1 98 = (rf_l0 s).2.1 98 := (Zt.1.1.same 98 rfl).2
        have e99 : ((sx_uf t'.1 66 89 0, t'.2) : sx_S).2.1 99 = (rf_l0 s).2.1 99 := (Zt.1.1.same 99 rfl).2
        have hon : ∀ m, vx_on (th m) := fun m => (hS.1 m).1
        rw [e98, e99]
        exact ⟨wr_s1_mk Zt hon j2 (vk_sd_up hUz s1), wr_s1_mk Zt hon j2 (vk_sd_up hUz s2)⟩
