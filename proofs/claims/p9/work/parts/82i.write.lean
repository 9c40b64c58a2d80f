section
/-! ===== the reference: write, with what it writes ===== -/
section
variable {Ω : Type}
set_option maxRecDepth 8000 in
theorem we_wt_ok {E : we_E Ω} (hL : we_L E) {sL : Nat} {sx : Nat → Int32} (hKE : we_K E sL sx) (hsL : sL ≤ 3072) {aM : Bool} {H d : Nat} (hd : H + 129 ≤ d) (ih : we_T E sL sx aM H (d + 1)) (hfr : aM = true → 124 ≤ d ∧ we_T E sL sx false 9 (d - 1)) : we_T E sL sx aM (H + 1) (d + 2) := by
  intro Z P N0 A0 y0 x W0 p0 q i b dp nb ib s g K hW k0 hok hqH hDI hdp h71 h58 hG hVt hJ hK
  obtain ⟨kP, kN, kM, kA⟩ := hKE trivial
  have hG58 := (hG trivial).2.2.2.2.2.1
  have hI := hW.1.1
  have hO := hW.2.2.2.2.2
  have r42 := hI.fld 66 42 (by decide) rfl
  refine sx_methW (wr := true) (n := 400) (n' := 400) (stop := [(14, [0, 3, 4, 5]), (63, [0, 3, 4, 5]), (103, [0, 3, 4, 5]), (131, [0, 3, 4, 5, 6]), (138, [0, 3, 4, 5, 6]), (168, [0, 3, 4, 5]), (189, [0, 3, 4, 5]), (243, [0, 3, 4, 5]), (252, [0, 3, 5, 6]), (264, [0, 3, 5, 6]), (274, [0, 3, 5, 6, 7]), (285, [0, 3, 5, 6, 7]), (318, [0, 3, 5, 6, 7]), (329, [0, 3, 5, 6])]) (fun ms pc ls u => (pc = 14 ∧ ∃ (N : Int → rf_T → Prop) (A : rf_N) (y : rf_Y) (W : List Nat) (p q' : Nat) (x4 x5 : Int), ls = [(0, .inr (.inl 66)), (3, .inl dp), (4, .inl x4), (5, .inl x5)] ∧ rf_W4 aM s u g x dp q N A y W p q' x4 x5 ∧ we_4 E Z P u A y dp ∧ ms = (9, 2 * p + 1)) ∨ (pc = 63 ∧ ∃ (N : Int → rf_T → Prop) (A : rf_N) (y : rf_Y) (W : List Nat) (p q' : Nat) (x4 x5 : Int), ls = [(0, .inr (.inl 66)), (3, .inl dp), (4, .inl x4), (5, .inl x5)] ∧ rf_W4 aM s u g x dp q N A y W p q' x4 x5 ∧ we_4 E Z P u A y dp ∧ u.2.1 100 x4.toNat = 3 ∧ u.2.1 111 (u.2.1 101 x4.toNat).toNat ≠ 0 ∧ ms = (9, 2 * p)) ∨ (pc = 103 ∧ ∃ (N : Int → rf_T → Prop) (A : rf_N) (y : rf_Y) (W : List Nat) (p q' : Nat) (x4 x5 : Int), ls = [(0, .inr (.inl 66)), (3, .inl dp), (4, .inl x4), (5, .inl x5)] ∧ rf_W4 aM s u g x dp q N A y W p q' x4 x5 ∧ we_4 E Z P u A y dp ∧ rf_op u x4 ∧ ms = (8, 0)) ∨ (pc = 131 ∧ ∃ (N : Int → rf_T → Prop) (A : rf_N) (y : rf_Y) (W : List Nat) (p q' : Nat) (x4 x5 : Int) (x6 : Int) (u0 : sx_S), ls = [(0, .inr (.inl 66)), (3, .inl dp), (4, .inl x4), (5, .inl x5), (6, .inl x6)] ∧ rf_W4 aM s u0 g x dp q N A y W p q' x4 x5 ∧ we_4 E Z P u0 A y dp ∧ u0.2.1 100 x4.toNat = 0 ∧ rf_V1 u0 u x4 x6 ∧ ms = (7, 0)) ∨ (pc = 138 ∧ ∃ (N : Int → rf_T → Prop) (A : rf_N) (y : rf_Y) (W : List Nat) (p q' : Nat) (x4 x5 : Int) (x6 : Int) (u0 u1 : sx_S), ls = [(0, .inr (.inl 66)), (3, .inl dp), (4, .inl x4), (5, .inl x5), (6, .inl x6)] ∧ rf_W4 aM s u0 g x dp q N A y W p q' x4 x5 ∧ we_4 E Z P u0 A y dp ∧ u0.2.1 100 x4.toNat = 0 ∧ rf_V1 u0 u1 x4 x6 ∧ rf_V2 u1 u x6 dp ∧ (∀ o, we_Sp E u1 o → we_Sp E u ((92 :: 120 :: (E.1.2.1 dp ++ [46])).foldl (fun o c => E.1.1 c o) o)) ∧ ms = (6, 0)) ∨ (pc = 168 ∧ ∃ (N : Int → rf_T → Prop) (A : rf_N) (y : rf_Y) (W : List Nat) (p q' : Nat) (x4 x5 : Int), ls = [(0, .inr (.inl 66)), (3, .inl dp), (4, .inl x4), (5, .inl x5)] ∧ rf_W4 aM s u g x dp q N A y W p q' x4 x5 ∧ we_4 E Z P u A y dp ∧ rf_op u x4 ∧ u.2.1 100 x4.toNat ≠ 0 ∧ ms = (5, 0)) ∨ (pc = 189 ∧ ∃ (N : Int → rf_T → Prop) (A : rf_N) (y : rf_Y) (W : List Nat) (p q' : Nat) (x4 x5 : Int), ls = [(0, .inr (.inl 66)), (3, .inl dp), (4, .inl x4), (5, .inl x5)] ∧ rf_W4 aM s u g x dp q N A y W p q' x4 x5 ∧ we_4 E Z P u A y dp ∧ rf_hk u x4 ∧ ms = (4, 0)) ∨ (pc = 243 ∧ ∃ (N : Int → rf_T → Prop) (A : rf_N) (y : rf_Y) (W : List Nat) (p q' : Nat) (x4 x5 : Int), ls = [(0, .inr (.inl 66)), (3, .inl dp), (4, .inl x4), (5, .inl x5)] ∧ rf_W4 aM s u g x dp q N A y W p q' x4 x5 ∧ we_5 E Z P u (wz_F A) y dp ∧ rf_hk u x4 ∧ ms = (3, 0)) ∨ (pc = 252 ∧ ∃ (N : Int → rf_T → Prop) (f : rf_N) (y : rf_Y) (w : rf_T) (W : List Nat) (p q' : Nat) (x5 x6 : Int), ls = [(0, .inr (.inl 66)), (3, .inl dp), (5, .inl x5), (6, .inl x6)] ∧ rf_WR aM s u g dp q N f y w W p q' x5 x6 ∧ we_5 E Z P u f y dp ∧ ms = (2, 10 * rf_len f + 9)) ∨ (pc = 264 ∧ ∃ (N : Int → rf_T → Prop) (f : rf_N) (y : rf_Y) (w : rf_T) (W : List Nat) (p q' : Nat) (x5 x6 : Int), ls = [(0, .inr (.inl 66)), (3, .inl dp), (5, .inl x5), (6, .inl x6)] ∧ rf_WR aM s u g dp q N f y w W p q' x5 x6 ∧ we_6a E Z P u f y dp ∧ x6 ≠ -1 ∧ ms = (2, 10 * rf_len f + 8)) ∨ (pc = 274 ∧ ∃ (N : Int → rf_T → Prop) (f : rf_N) (y : rf_Y) (w : rf_T) (W : List Nat) (p q' : Nat) (x5 x6 : Int) (x7 : Int), ls = [(0, .inr (.inl 66)), (3, .inl dp), (5, .inl x5), (6, .inl x6), (7, .inl x7)] ∧ rf_WR aM s u g dp q N f y w W p q' x5 x6 ∧ (we_6a E Z P u f y dp ∧ (x7 ≠ 0 ↔ we_bk (we_V E u f y dp))) ∧ x6 ≠ -1 ∧ (0 ≤ x7 ∧ x7 ≤ 1) ∧ ms = (2, 10 * rf_len f + 7)) ∨ (pc = 285 ∧ ∃ (N : Int → rf_T → Prop) (f : rf_N) (y : rf_Y) (w : rf_T) (W : List Nat) (p q' : Nat) (x5 x6 : Int) (x7 : Int), ls = [(0, .inr (.inl 66)), (3, .inl dp), (5, .inl x5), (6, .inl x6), (7, .inl x7)] ∧ rf_WR aM s u g dp q N f y w W p q' x5 x6 ∧ we_6b E Z P u f y dp x7 ∧ x6 ≠ -1 ∧ (0 ≤ x7 ∧ x7 ≤ 1) ∧ ms = (2, 10 * rf_len f + 6)) ∨ (pc = 318 ∧ ∃ (N : Int → rf_T → Prop) (f : rf_N) (y : rf_Y) (w : rf_T) (W : List Nat) (p q' : Nat) (x5 x6 : Int) (x7 : Int), ls = [(0, .inr (.inl 66)), (3, .inl dp), (5, .inl x5), (6, .inl x6), (7, .inl x7)] ∧ rf_WR aM s u g dp q N f y w W p q' x5 x6 ∧ we_6c E Z P u f y dp x7 ∧ x6 ≠ -1 ∧ (0 ≤ x7 ∧ x7 ≤ 1) ∧ ms = (2, 10 * rf_len f + 5)) ∨ (pc = 329 ∧ ∃ (N : Int → rf_T → Prop) (f : rf_N) (y : rf_Y) (w : rf_T) (W : List Nat) (p q' : Nat) (x5 x6 : Int), ls = [(0, .inr (.inl 66)), (3, .inl dp), (5, .inl x5), (6, .inl x6)] ∧ rf_WR aM s u g dp q N f y w W p q' x5 x6 ∧ we_6d E Z P u f y dp ∧ x6 ≠ -1 ∧ ms = (2, 10 * rf_len f + 4))) hsL (e := eX12_write) rfl ?_ ?_
  · refine w_e_write (fun K' hK' => c_e_isFull hsL (d + 1) (by omega) s K' hI hK') (fun q1 q2 => hK 0 s hI (rf_WF_refl s) hO (by omega) (by omega) (we_4_full hL hI hG ((we_nn we_Hn1).1 _ k0.1.2.1) q1 q2 ⟨hVt, hJ⟩)) ⟨_, Or.inl (⟨rfl, N0, A0, y0, W0, p0, q, i, b, rfl, ⟨⟨⟨hI, rf_WF_refl s, hO⟩, ⟨by omega, rfl⟩, Nat.le_refl _⟩, k0, hok, hDI⟩, ⟨hVt, hJ⟩, rfl⟩)⟩
  · rintro ms pc ls u (⟨rfl, N, A, y, W, p, q', x4, x5, rfl, h4, hY, rfl⟩ | ⟨rfl, N, A, y, W, p, q', x4, x5, rfl, h4, hY, hk3, hs, rfl⟩ | ⟨rfl, N, A, y, W, p, q', x4, x5, rfl, h4, hY, hop, rfl⟩ | ⟨rfl, N, A, y, W, p, q', x4, x5, x6, u0, rfl, h4, hY, hk0, hV, rfl⟩ | ⟨rfl, N, A, y, W, p, q', x4, x5, x6, u0, u1, rfl, h4, hY, hk0, hV, hV2, hV3, rfl⟩ | ⟨rfl, N, A, y, W, p, q', x4, x5, rfl, h4, hY, hop, hk0, rfl⟩ | ⟨rfl, N, A, y, W, p, q', x4, x5, rfl, h4, hY, hhk, rfl⟩ | ⟨rfl, N, A, y, W, p, q', x4, x5, rfl, h4, hY, hhk, rfl⟩ | ⟨rfl, N, f, y, w, W, p, q', x5, x6, rfl, hR, hY, rfl⟩ | ⟨rfl, N, f, y, w, W, p, q', x5, x6, rfl, hR, hY, hx6, rfl⟩ | ⟨rfl, N, f, y, w, W, p, q', x5, x6, x7, rfl, hR, hY, hx6, h7, rfl⟩ | ⟨rfl, N, f, y, w, W, p, q', x5, x6, x7, rfl, hR, hY, hx6, h7, rfl⟩ | ⟨rfl, N, f, y, w, W, p, q', x5, x6, x7, rfl, hR, hY, hx6, h7, rfl⟩ | ⟨rfl, N, f, y, w, W, p, q', x5, x6, rfl, hR, hY, hx6, rfl⟩)
    · -- 14
      have h40 := h4
      obtain ⟨⟨⟨u1, u2, u3⟩, ⟨b71, b58⟩, bq⟩, k, hok', kD⟩ := h4
      have hWu := rf_WW_up hW u1 u2 u3
      have h61u := hWu.2.2.1
      have pA := rf_CL_b u1 k
      have hGu := we_G_WF hL hW u2 hG
      exact w_e_write_14 u1 pA (fun z => by have := (rf_CL_3 k z).1; omega) (fun h3 hs h89 h119 => hK 0 u u1 u2 u3 (by omega) (by omega) (by
        obtain ⟨hr, hbn, hx, j, kk, uu, f, n, eA, ej, k3, ek⟩ := rf_CL_3 k h3
        subst eA
        rw [← ek] at hr h119
        exact we_4_skip hL u1 hGu ((we_nn we_Hn1).1 _ k.1.2.1) k3 hr h89 h119 hY)) (fun h3 hs => ⟨_, rf_lex2 (by omega), Or.inr (Or.inl (⟨rfl, N, A, y, W, p, q', x4, x5, rfl, h40, hY, h3, hs, rfl⟩))⟩) (fun hx => ⟨_, rf_lex1 (by decide), Or.inr (Or.inr (Or.inl (⟨rfl, N, A, y, W, p, q', x4, x5, rfl, h40, hY, hx, rfl⟩)))⟩)
    · -- 63
      obtain ⟨⟨⟨u1, u2, u3⟩, ⟨b71, b58⟩, bq⟩, k, hok', kD⟩ := h4
      have hWu := rf_WW_up hW u1 u2 u3
      obtain ⟨⟨_, hMu, hnb, hib, hph⟩, h70, h61, _, _, _⟩ := hWu
      have pA := rf_CL_b u1 k
      obtain ⟨hr, hbn, hx, j, kk, uu, f, n, eA, ej, k3, ek⟩ := rf_CL_3 k hk3
      subst eA
      subst hx
      rw [← ek] at hr hbn hs
      have haM : aM = true ∧ p + 100 ≤ q' := hok'.elim (fun z => absurd (Or.inl ⟨k3, rfl⟩) (z.1 kk.2)) id
      have kN0 := k.1.2.2.2
      have dY : rf_dp y ≤ 100 := by have := kN0.2.2.2; omega
      have hSV := (hMu.1 kk.2 hr.1 hr.2).2.2.2 hs
      obtain ⟨_, ⟨sb1, _⟩, ⟨⟨sc1, sc2⟩, sc3, _⟩, _⟩ := hSV
      have raa : rf_aa u kk.2 = u.2.1 108 kk.2.toNat := rfl
      have r56 := u1.fld 66 56 (by decide) rfl
      have r108 := u1.arr 108 (by decide) rfl kk.2.toNat
      have hdi : rf_di u g.2.2 j kk.2 := k.2.1.1.1 k3
      refine w_write_63 (PE := fun xx z t => (xx = kk.2 ∧ cx_I t ∧ cx_F [(66, 66), (115, 117)] (u.1, sx_ua u.2.1 119 kk.2.toNat 1, u.2.2) t) ∧ rf_f [71] u t ∧ rf_ag 115 117 (u.1 66 71) u t ∧ (u.1 66 71 ≤ t.1 66 71 ∧ t.1 66 71 ≤ u.1 66 71 + u.2.1 108 kk.2.toNat + 1) ∧ rf_bs t (rf_bh (g.2.1 kk.2) (rf_row (rf_fm u kk.2) (rf_vo u y x4) (rf_aa u kk.2).toNat)) z) u1 pA (by rw [← ek]; omega) ?_ ?_ ?_
      · intro xx hxx K' hK'
        rw [← ek] at hxx
        subst hxx
        have hI2 : cx_I (u.1, sx_ua u.2.1 119 kk.2.toNat 1, u.2.2) := cx_I_ua rfl rfl u1 (by decide) (by decide)
        have o : ∀ q, q ≠ 119 → sx_ua u.2.1 119 kk.2.toNat 1 q = u.2.1 q := fun q hq => sx_ua_ne hq
        have y1 : rf_bs (u.1, sx_ua u.2.1 119 kk.2.toNat 1, u.2.2) y x5 := by
          unfold rf_bs
          dsimp only
          rw [o 115 (by decide), o 116 (by decide), o 117 (by decide)]
          exact kN0.1
        have y2 : rf_bs (u.1, sx_ua u.2.1 119 kk.2.toNat 1, u.2.2) (g.2.1 kk.2) (((u.1, sx_ua u.2.1 119 kk.2.toNat 1, u.2.2) : sx_S).2.1 114 kk.2.toNat) := by
          unfold rf_bs
          dsimp only
          rw [o 115 (by decide), o 116 (by decide), o 117 (by decide), o 114 (by decide)]
          exact rf_by_mono (fun _ _ => ⟨rfl, rfl, rfl⟩) hnb sb1
        refine c_r_enter hsL 100 (d + 1) (by omega) y (g.2.1 kk.2) x4 x5 kk.2 _ K' hI2 pA (by dsimp only; rw [o 101 (by decide)]; exact ek) (by omega) (by dsimp only; omega) (fun r hq => ?_) dY y1 y2 (fun z t c1 c2 c3 c4 c5 c6 => hK' z t ⟨⟨rfl, c1, c2⟩, c3, ?_, ?_, c6⟩)
        · dsimp only at hq ⊢
          rw [o 108 (by decide)] at hq
          rw [o 112 (by decide), o 104 (by decide), o 105 (by decide)]
          refine ⟨by omega, by omega, ?_⟩
          have := sc3 r (by omega)
          unfold rf_fm at this
          rcases this with ⟨T, _, t2⟩ | z
          · have := t2.1.1
            omega
          · omega
        · intro r jj h1 h2 h3
          rw [c4 r jj h1 h2 h3]
          dsimp only
          rw [o r (by omega)]
        · dsimp only at c5
          rw [o 108 (by decide)] at c5
          exact c5
      · rintro xx z t ⟨⟨_, c1, c2⟩, _⟩
        refine ⟨c1, (c2.same 101 rfl).2.trans ?_⟩
        show sx_ua u.2.1 119 kk.2.toNat 1 101 = u.2.1 101
        rw [sx_ua_ne (by decide)]
      · rintro xx hxx z t ⟨⟨_, c1, c2⟩, c3, c4, c5, c6⟩ v hv
        rw [← ek] at hv
        have s119 := rf_WF_seen (s := u) (n := kk.2.toNat) (v := 1)
        have n119 := rf_WF_name c2 c3 (fun r jj h1 h2 h3 => by
          rw [c4 r jj h1 h2 h3]
          show _ = sx_ua u.2.1 119 kk.2.toNat 1 r jj
          rw [sx_ua_ne (by omega)]) c5.1
        have hWF : rf_WF u t := rf_WF_trans n119.1 s119
        obtain ⟨hE, hN⟩ := rf_WF_EX hWF
        have e58 := c3 58 rfl
        have e107 : t.2.1 107 = u.2.1 107 := (c2.same 107 rfl).2.trans (by show sx_ua u.2.1 119 kk.2.toNat 1 107 = _; rw [sx_ua_ne (by decide)])
        have e113 : t.2.1 113 = u.2.1 113 := (c2.same 113 rfl).2.trans (by show sx_ua u.2.1 119 kk.2.toNat 1 113 = _; rw [sx_ua_ne (by decide)])
        have hO2 : rf_OD (u.1, sx_ua u.2.1 119 kk.2.toNat 1, u.2.2) := rf_OD_same u3 rfl rfl rfl (fun r hr => sx_ua_ne (by omega))
        obtain ⟨_, c7, kc⟩ := rf_CL_en (t := t) (z := z) hMu hib hph k k3 hs hE c5.1 e58 c6
        have hDI2 := rf_DI_en (i := x4) hMu ej k3 hr hs hdi hE hib e107 kD
        rw [e113] at hv
        rw [hv]
        have hGu := we_G_WF hL hW u2 hG
        refine ⟨_, rf_lex2 (by omega), Or.inl (⟨rfl, _, _, _, _, p - 5, q' - 5, _, z, rfl, ⟨⟨⟨c1, rf_WF_trans hWF u2, n119.2 hO2⟩, ⟨by omega, by omega⟩, by omega⟩, kc, Or.inr ⟨haM.1, by omega⟩, hDI2⟩, we_4_en (i := x4) u1 hMu hGu ((we_nn we_Hn1).1 _ k.1.2.1) k3 hr hs ej (rf_EX_le hE hnb hib) (fun k hk => ?_) (fun p hp => ?_) (fun p hp => ?_) hY, rfl⟩)⟩
        · rcases hk with rfl | rfl | rfl | rfl | rfl
          · exact c3 58 rfl
          · exact c3 61 rfl
          · exact c3 79 rfl
          · exact c3 86 rfl
          · exact c3 89 rfl
        · have o : sx_ua u.2.1 119 kk.2.toNat 1 p = u.2.1 p := sx_ua_ne (by omega)
          rcases hp with rfl | rfl | rfl | rfl | rfl | rfl <;> exact (c2.same _ rfl).2.trans o
        · rw [(c2.same 119 rfl).2]
          show sx_ua u.2.1 119 kk.2.toNat 1 119 p = _
          rw [sx_ua_same]
          exact if_neg hp
    · -- 103
      have h40 := h4
      obtain ⟨⟨⟨u1, u2, u3⟩, ⟨b71, b58⟩, bq⟩, k, hok', kD⟩ := h4
      have pA := rf_CL_b u1 k
      obtain ⟨j, kk, uu, f, n, eA, a1, a2, a3, a4, a5, a6, a7, a8⟩ := rf_CL_node k
      have r58 := u1.fld 66 58 (by decide) rfl
      have hq1 : 1 ≤ q' := by
        subst eA
        exact rf_okw_pos hok'
      refine w_write_103 (PV := fun z t => rf_V1 u t x4 z) u1 pA (fun z => ?_) ?_ ?_ (fun z => ⟨_, rf_lex1 (by decide), Or.inr (Or.inr (Or.inr (Or.inr (Or.inr (Or.inl (⟨rfl, N, A, y, W, p, q', x4, x5, rfl, h40, hY, hop, z, rfl⟩))))))⟩)
      · rw [a2, a4] at z
        rw [a2, a5]
        rcases a8 with ⟨_, C, D, _, hv, _⟩ | ⟨c, _⟩
        · have := hv.1
          omega
        · exact absurd z c
      · intro z v hv K' hK'
        have hr := u1.arr 106 (by decide) rfl (u.2.1 101 x4.toNat).toNat
        exact c_r_newVar hsL (d + 1) (by omega) v u K' u1 (by omega) (by omega) (fun zz t c1 c2 c3 c4 c5 c6 c7 => hK' zz t ⟨c1, c2, c3, c4, c5, c6, by rw [c7]; exact hv⟩)
      · intro z zz t ht
        exact ⟨_, rf_lex1 (by decide), Or.inr (Or.inr (Or.inr (Or.inl (⟨rfl, N, A, y, W, p, q', x4, x5, zz, u, rfl, h40, hY, z, ht, rfl⟩))))⟩
    · -- 131
      have h40 := h4
      obtain ⟨⟨⟨u1, u2, u3⟩, ⟨b71, b58⟩, bq⟩, k, hok', kD⟩ := h4
      have r58 := u1.fld 66 58 (by decide) rfl
      have v3 := hV.2.2.1
      have q1 : 1 ≤ q' := by
        obtain ⟨j, kk, uu, f, n, eA, _⟩ := rf_CL_node k
        subst eA
        exact rf_okw_pos hok'
      refine w_write_131 (PL := fun t => rf_V2 u t x6 dp ∧ ∀ o, we_Sp E u o → we_Sp E t ((92 :: 120 :: (E.1.2.1 dp ++ [46])).foldl (fun o c => E.1.1 c o) o)) (fun K' hK' => kA (d + 1) (by omega) x6 dp u K' hV.1 (by omega) (by omega) (fun z t c1 c2 c3 c4 c5 => hK' z t ⟨⟨c1, c2, c3, c4⟩, c5⟩)) ?_
      rintro t ⟨ht, ht3⟩
      exact ⟨_, rf_lex1 (by decide), Or.inr (Or.inr (Or.inr (Or.inr (Or.inl (⟨rfl, N, A, y, W, p, q', x4, x5, x6, u0, u, rfl, h40, hY, hk0, hV, ht, ht3, rfl⟩)))))⟩
    · -- 138
      obtain ⟨⟨⟨u1', u2, u3⟩, ⟨b71, b58⟩, bq⟩, k, hok', kD⟩ := h4
      have pA := rf_CL_b u1' k
      have hW0 := rf_WW_up hW u1' u2 u3
      have hM0 := hW0.1.2.1
      have hph0 := hW0.1.2.2.2.2
      have r58 := u1'.fld 66 58 (by decide) rfl
      have r71 := u1'.fld 66 71 (by decide) rfl
      obtain ⟨j, kk, uu, f, n, eA, a1, a2, a3, a4, a5, a6, a7, a8⟩ := rf_CL_node k
      subst eA
      have kz0 : kk.1 = 0 := by
        rw [a2, a4] at hk0
        exact hk0
      have q1 := rf_okw_pos hok'
      have hpp := rf_wy_pos k.2.2.2 hph0
      have hw1 := rf_wh_pos (j := j) (k := kk) (u := uu) (f := f) (x := n)
      have hxx : ∃ C D, x = rf_a C D ∧ rf_vb (u0.1 66 58) u0 kk.2 C := by
        rcases a8 with ⟨_, C, D, hx, hv, _⟩ | ⟨c, _⟩
        · exact ⟨C, D, hx, hv⟩
        · exact absurd kz0 c
      obtain ⟨C, D, hx, hvC⟩ := hxx
      subst hx
      obtain ⟨f1, f2, f3, f4, f5, f6, f7, f8⟩ := rf_WF_V hV hV2 r58.1
      have hv3 := hV.2.2.1
      have uI := hV2.1
      have hby := rf_by_hi k.1.2.2.2.1
      have hvC0 := hvC.1
      refine w_write_138 (PN := fun z t => cx_I t ∧ cx_F [(66, 66), (115, 117)] u t ∧ z = u.1 66 71 ∧ t.1 66 71 = u.1 66 71 + 1 ∧ rf_f [71] u t ∧ rf_ag 115 117 (u.1 66 71) u t ∧ rf_nm t z kk.2 x6 x5) (PW := fun t2 => ∃ t, (rf_WF u0 t ∧ t.1 66 71 = u0.1 66 71 + 1 ∧ t.1 66 58 = u0.1 66 58 + 1) ∧ cx_I t2 ∧ rf_WF t t2 ∧ rf_OD t2 ∧ t2.1 66 71 ≤ t.1 66 71 + ((q' - 1 : Nat) : Int) ∧ t2.1 66 58 ≤ t.1 66 58 + ((q' - 1 : Nat) : Int) ∧ we_Z E Z P t2) uI pA (by omega) ?_ ?_ ?_
      · intro v hv K' hK'
        have hv2 : v = kk.2 := by rw [hv, f7, a2]; exact a5
        rw [hv2]
        exact c_r_name hsL (d + 1) (by omega) kk.2 x6 x5 u K' uI (by omega) (by omega) (by omega) (by omega) (fun z t c1 c2 c3 c4 c5 c6 c7 => hK' z t ⟨c1, c2, c3, c4, c5, c6, c7⟩)
      · rintro z t ⟨c1, c2, c3, c4, c5, c6, c7⟩ v w hv hw K' hK'
        obtain ⟨n1, n2⟩ := rf_WF_name c2 c5 c6 (by omega)
        have hWF : rf_WF u0 t := rf_WF_trans n1 f1
        obtain ⟨hE, hN⟩ := rf_WF_EX hWF
        have e58 := c5 58 rfl
        have hWt := rf_WW_up hW0 c1 hWF (n2 (f2 u3))
        have kl := rf_CL_lam (t := t) (z := z) (v := x6) hM0.ub k kz0 hE (by omega) (by omega) hv3 r58.1 (by rw [(c2.same 106 rfl).2, f6, a2, a5]) (by omega) c7
        have hv2 : v = u0.2.1 102 j := by rw [hv, f8, a2]
        have t107 : ∀ q : Nat, t.2.1 107 q = if q = x6.toNat then dp else u0.2.1 107 q := fun q => by rw [(c2.same 107 rfl).2]; exact f5 q
        rw [hv2, hw]
        have hGt := we_G_WF hL hW0 hWF (we_G_WF hL hW u2 hG)
        obtain ⟨_, b2, b3, _⟩ := hV2
        obtain ⟨_, d2, d3, d4, d5, _⟩ := hV
        have hG0 := we_G_WF hL hW u2 hG
        have t4 : we_4 E Z P t f (rf_one kk.2 x6 y) (dp + 1) := by
          refine we_4_lam hL (v := x6) (hG0 trivial).2.2.2.2.2.1 kz0 hE d3 (by omega) (fun q _ => t107 q) (fun k hk => ?_) (fun p hp => ?_) (fun o ho => ?_) hY
          · rcases hk with rfl | rfl | rfl
            · exact (c5 61 rfl).trans ((b3 61 rfl).trans (d5 61 rfl))
            · exact (c5 79 rfl).trans ((b3 79 rfl).trans (d5 79 rfl))
            · exact (c5 89 rfl).trans ((b3 89 rfl).trans (d5 89 rfl))
          · have hp' : p = 108 ∨ p = 118 ∨ p = 119 ∨ p = 120 ∨ p = 121 := by omega
            rcases hp' with rfl | rfl | rfl | rfl | rfl <;> exact (c2.same _ rfl).2.trans ((b2.same _ rfl).2.trans (d2.same _ rfl).2)
          · have e0 : we_Sp E u1 o := by
              unfold we_Sp
              rw [d5 86 rfl, (d2.same 122 rfl).2]
              exact ho
            have e1 := hV3 o e0
            unfold we_Sp at e1 ⊢
            rw [c5 86 rfl, (c2.same 122 rfl).2]
            exact e1
        refine ih Z P N f _ D W (p - 1) (q' - 1) _ z (dp + 1) nb ib t g K' hWt kl (rf_okw_lam kz0 (by omega) hok') (by omega) ?_ (by omega) (by omega) (by omega) hGt t4.1 t4.2 (fun zz t2 g1 g2 g3 g4 g5 g6 => hK' zz t2 ⟨t, ⟨hWF, by omega, by omega⟩, g1, g2, g3, g4, g5, g6⟩)
        -- the depths below the LAM
        have hfo : ∀ r, (rf_fo (rf_Wd t g.2.2) f).1 r → r ≠ kk.2 → (rf_fo (rf_Wd u0 g.2.2) (.inner j kk uu f n)).1 r := fun r hr hne => by
          refine Or.inr (Or.inl ⟨kz0, hne, ?_⟩)
          have hg : (rf_gt (rf_Hn (u0.1 66 58) u0 N) rf_P f).1 D := by
            rcases a8 with ⟨_, C', D', hx', _, hg⟩ | ⟨c, _⟩
            · cases hx'
              exact hg
            · exact absurd kz0 c
          exact (rf_Wd_up hE (fun r q r0 r1 hq => ⟨hq, hM0.ub r q r0 r1 hq⟩)).1 ((rf_bn_gn a6).1 _ hg) r hr
        have hold : ∀ r, (rf_fo (rf_Wd u0 g.2.2) (.inner j kk uu f n)).1 r → t.2.1 107 (rf_look y r).toNat = u0.2.1 107 (rf_look y r).toNat := fun r hr => by
          obtain ⟨T, hT⟩ := rf_fo_typed hM0.ub k.1.1 k.1.2.1 k.1.2.2.2 r hr
          have := hT.1
          rw [t107, if_neg (by omega)]
        have hlk : ∀ r, r ≠ kk.2 → rf_look (rf_one kk.2 x6 y) r = rf_look y r := fun r hr => if_neg (fun c => hr c.symm)
        have hlk0 : rf_look (rf_one kk.2 x6 y) kk.2 = x6 := if_pos rfl
        have hself : t.2.1 107 x6.toNat = dp := by
          rw [t107]
          exact if_pos rfl
        intro r hr
        by_cases cr : r = kk.2
        · rw [cr, hlk0, hself]
          refine ⟨by omega, fun w' hw' e => ?_⟩
          by_cases cw : w' = kk.2
          · exact cw.symm
          · rw [hlk w' cw, hold w' (hfo w' hw' cw)] at e
            have := (kD w' (hfo w' hw' cw)).1
            omega
        · have h1 := kD r (hfo r hr cr)
          rw [hlk r cr, hold r (hfo r hr cr)]
          refine ⟨by omega, fun w' hw' e => ?_⟩
          by_cases cw : w' = kk.2
          · rw [cw, hlk0, hself] at e
            have := h1.1
            omega
          · rw [hlk w' cw, hold w' (hfo w' hw' cw)] at e
            exact h1.2 w' (hfo w' hw' cw) e
      · rintro t2 ⟨t, ⟨g0, g0', g0''⟩, g1, g2, g3, g4, g5, g6⟩
        exact hK 0 t2 g1 (rf_WF_trans g2 (rf_WF_trans g0 u2)) g3 (by omega) (by omega) g6
    · -- 168
      have h40 := h4
      obtain ⟨⟨⟨u1, u2, u3⟩, ⟨b71, b58⟩, bq⟩, k, hok', kD⟩ := h4
      have hWu := rf_WW_up hW u1 u2 u3
      have pA := rf_CL_b u1 k
      have r100 := u1.arr 100 (by decide) rfl x4.toNat
      refine w_write_168 (PW := fun t => cx_I t ∧ rf_WF u t ∧ rf_OD t ∧ t.1 66 71 ≤ u.1 66 71 + 36 ∧ t.1 66 58 = u.1 66 58 ∧ 100 ≤ q' ∧ we_Z E Z P t) u1 pA ?_ ?_ (fun z => ⟨_, rf_lex1 (by decide), Or.inr (Or.inr (Or.inr (Or.inr (Or.inr (Or.inr (Or.inl (⟨rfl, N, A, y, W, p, q', x4, x5, rfl, h40, hY, by unfold rf_hk; omega, rfl⟩)))))))⟩)
      · intro h3 K' hK'
        obtain ⟨hr, hbn, hx, j, kk, uu, f, n, eA, ej, k3, ek⟩ := rf_CL_3 k h3
        subst eA
        have haM : aM = true ∧ p + 100 ≤ q' := hok'.elim (fun z => absurd (Or.inl ⟨k3, rfl⟩) (z.1 kk.2)) id
        obtain ⟨haM1, haM2⟩ := haM
        subst haM1
        obtain ⟨hd2, hw0⟩ := hfr rfl
        have hwf := c_e_writeFresh hL hKE hsL (d - 1) (by omega) hw0 Z P N _ y x W p x4 x5 dp nb ib u g K' hWu k h3 (hop h3) kD (by omega) (by omega) (by omega) (we_G_WF hL hW u2 hG) hY.1 hY.2 (fun z t f1 f2 f3 f4 f5 f6 => hK' z t ⟨f1, f2, f3, f4, f5, by omega, f6⟩)
        rw [show d - 1 + 2 = d + 1 by omega] at hwf
        exact hwf
      · rintro t ⟨f1, f2, f3, f4, f5, f6, f7⟩
        exact hK 0 t f1 (rf_WF_trans f2 u2) f3 (by omega) (by omega) f7
    · -- 189
      have h40 := h4
      obtain ⟨hB, k, hok', kD⟩ := h4
      have hB0 := hB
      obtain ⟨⟨u1, u2, u3⟩, ⟨b71, b58⟩, bq⟩ := hB
      have hWu := rf_WW_up hW u1 u2 u3
      have hMu := hWu.1.2.1
      have h70 := hWu.2.1
      have pA := rf_CL_b u1 k
      have kN0 := k.1.2.2.2
      have r58 := u1.fld 66 58 (by decide) rfl
      obtain ⟨j, kk, uu, f, n, eA, a1, a2, a3, a4, a5, a6, a7, a8⟩ := rf_CL_node k
      have hHn : kk.1 ≠ 0 → ∃ w, rf_Hn (u.1 66 58) u N j kk.1 kk.2 w := fun z => by
        rcases a8 with ⟨c, _⟩ | ⟨_, _, w, hw, _⟩
        · exact absurd c z
        · exact ⟨w, hw⟩
      have r42u := u1.fld 66 42 (by decide) rfl
      have hGu := we_G_WF hL hW u2 hG
      refine w_e_write_189 (lk := rf_look y (u.2.1 101 x4.toNat)) (PW := fun t => we_PT E u t (if kk.1 = 1 then E.1.2.2 kk.2 else 120 :: E.1.2.1 (we_D u dp (rf_look y kk.2)))) u1 pA (fun z => ?_) (fun z => ?_) ?_ ?_ ?_ ?_
      · rw [a2, a4] at z
        rw [a2, a5]
        obtain ⟨w, hw⟩ := hHn (by omega)
        have := (rf_Hn_1 hw z).1
        omega
      · have z2 : u.2.1 100 x4.toNat = 2 := hhk.elim (fun c => absurd c z) id
        rw [a2, a4] at z2
        rw [a2, a5]
        obtain ⟨w, hw⟩ := hHn (by omega)
        have := (kN0.2.2.1 _ w (Or.inl (rf_Hn_02 hw (Or.inr z2)))).1
        omega
      · intro z v hv hv2 K' hK'
        rw [a2, a4] at z
        rw [a2, a5] at hv
        obtain ⟨w, hw⟩ := hHn (by omega)
        rw [if_pos z] at hK'
        exact kM (d + 1) (by omega) kk.2 v u K' u1 (hGu trivial).2.2.2.2.2.2 (rf_Hn_1 hw z).1 hv hv2 hK'
      · intro z v hv K' hK'
        rw [hv]
        exact c_r_look hsL 100 (d + 1) (by omega) y x5 _ u K' u1 (by have := kN0.2.2.2; omega) kN0.1 (u1.arr 101 (by decide) rfl _) hK'
      · intro z v hv K' hK'
        have z2 : u.2.1 100 x4.toNat = 2 := hhk.elim (fun c => absurd c z) id
        rw [a2, a4] at z2
        rw [a2, a5] at hv
        obtain ⟨w, hw⟩ := hHn (by omega)
        have hlk := (kN0.2.2.1 _ w (Or.inl (rf_Hn_02 hw (Or.inr z2)))).1
        have r107 := u1.arr 107 (by decide) rfl (rf_look y kk.2).toNat
        have eD : we_D u dp (rf_look y kk.2) = v := by
          unfold we_D
          rw [if_pos (by omega)]
          exact hv.symm
        rw [if_neg (by omega), eD] at hK'
        exact kN (d + 1) (by omega) 120 v u K' u1 (by omega) (by omega) hK'
      · intro t hpt
        obtain ⟨c1, c2, c3, _⟩ := id hpt
        obtain ⟨e1, e2, e3, e4, e5⟩ := rf_WF_put c2 c3
        obtain ⟨k', kD'⟩ := rf_CL_put hMu.ub e1 e3 e4 k kD
        have h5t : we_5 E Z P t (wz_F A) y dp := by
          subst eA
          have k12 : kk.1 = 1 ∨ kk.1 = 2 := by
            have := hhk
            unfold rf_hk at this
            rw [a2, a4] at this
            exact this
          exact we_4_hd hL (hGu trivial).2.2.2.2.2.1 k12 (fun z => by
            obtain ⟨w, hw⟩ := hHn (by omega)
            exact (rf_Hn_1 hw z).1.1) (rf_WF_EX e1).1 hpt hY
        have hhk' : rf_hk t x4 := by
          unfold rf_hk
          rw [(c2.same 100 rfl).2]
          exact hhk
        exact ⟨_, rf_lex1 (by decide), Or.inr (Or.inr (Or.inr (Or.inr (Or.inr (Or.inr (Or.inr (Or.inl (⟨rfl, N, A, y, W, p, q', x4, x5, rfl, ⟨rf_WB_put hB0 c1 c2 c3, k', hok', kD'⟩, h5t, hhk', rfl⟩))))))))⟩
    · -- 243
      obtain ⟨hB, k, hok', kD⟩ := h4
      have hB0 := hB
      obtain ⟨⟨u1, u2, u3⟩, ⟨b71, b58⟩, bq⟩ := hB
      have hWu := rf_WW_up hW u1 u2 u3
      have hphu := hWu.1.2.2.2.2
      have pA := rf_CL_b u1 k
      obtain ⟨j, kk, uu, f, n, eA, a1, a2, a3, a4, a5, a6, a7, a8⟩ := rf_CL_node k
      subst eA
      have hpp := rf_wy_pos k.2.2.2 hphu
      have hw1 := rf_wh_pos (j := j) (k := kk) (u := uu) (f := f) (x := n)
      have k0 : kk.1 = 1 ∨ kk.1 = 2 := by
        unfold rf_hk at hhk
        rw [a2, a4] at hhk
        exact hhk
      have q1 := rf_okw_pos hok'
      rcases a8 with ⟨c, _⟩ | ⟨_, hx, w, hw, hwf⟩
      · omega
      · have cr := rf_CL_app k k0 hwf (by omega)
        refine w_write_243 u1 pA (fun v hv => ⟨_, rf_lex1 (by decide), Or.inr (Or.inr (Or.inr (Or.inr (Or.inr (Or.inr (Or.inr (Or.inr (Or.inl (⟨rfl, N, f, y, w, W, p - 1, q', x5, v, rfl, ⟨hB0, ?_, rf_okw_row k0 (by omega) hok', rf_DI_le (fun r hr => Or.inr (Or.inr ⟨k0, Or.inr hr⟩)) kD, q1⟩, hY, rfl⟩)))))))))⟩)
        rw [hv, a2]
        exact cr
    · -- 252
      obtain ⟨hB, cr, hok', kD, q1⟩ := hR
      have hB0 := hB
      obtain ⟨⟨u1, u2, u3⟩, ⟨b71, b58⟩, bq⟩ := hB
      have hMu := (rf_WW_up hW u1 u2 u3).1.2.1
      have rr := rf_nd_rng cr.1.1
      have r50 := u1.fld 66 50 (by decide) rfl
      have hGu := we_G_WF hL hW u2 hG
      refine w_write_252 (PW := fun t => we_PT E u t [32]) (by omega) (fun hx => hK 0 u u1 u2 u3 (by omega) (by omega) (by
        have hl : f = .leaf := by
          have h1 := cr.1.1
          cases f with
          | leaf => rfl
          | inner j1 k1 uu1 ff1 n1 =>
            have := h1.1.1
            omega
        subst hl
        exact we_5_0 hY)) (fun _ K' hK' => kP (d + 1) (by omega) 32 u K' u1 (by omega) hK') ?_
      intro hx t hpt
      obtain ⟨c1, c2, c3, _⟩ := id hpt
      obtain ⟨e1, e2, e3, e4, e5⟩ := rf_WF_put c2 c3
      obtain ⟨cr', kD'⟩ := rf_CR_put hMu.ub e1 e3 e4 cr kD
      exact ⟨_, rf_lex2 (by omega), Or.inr (Or.inr (Or.inr (Or.inr (Or.inr (Or.inr (Or.inr (Or.inr (Or.inr (Or.inl (⟨rfl, N, f, y, w, W, p, q', x5, x6, rfl, ⟨rf_WB_put hB0 c1 c2 c3, cr', hok', kD', q1⟩, (by
        obtain ⟨_, _, _, _, _, _, _, j1, kk1, uu1, ff1, ef⟩ := rf_CR_cons cr hx
        subst ef
        exact we_5_6 hL hGu (rf_WF_EX e1).1 hpt hY), hx, rfl⟩))))))))))⟩
    · -- 264
      have hR0 := hR
      obtain ⟨⟨⟨u1, u2, u3⟩, _⟩, cr, _⟩ := hR
      have hWu := rf_WW_up hW u1 u2 u3
      obtain ⟨C, D, e1, k, _⟩ := rf_CR_cons cr hx6
      have hGu := we_G_WF hL hW u2 hG
      have hbt : we_bt E (we_bk (we_V E u f y dp)) f := by
        obtain ⟨_, _, _, _, _, _, _, j1, kk1, uu1, ff1, ef⟩ := rf_CR_cons cr hx6
        subst ef
        exact we_bt_V (fun m => ((hGu trivial).1.2.1 m).1)
      have htf : vr_t u (we_AR E) f := by
        obtain ⟨_, _, _, _, _, _, _, j1, kk1, uu1, ff1, ef⟩ := rf_CR_cons cr hx6
        subst ef
        exact (we_r_c hY.1).1
      refine w_e_write_264 (PZ := fun z => (0 ≤ z ∧ z ≤ 1) ∧ (z ≠ 0 ↔ we_bk (we_V E u f y dp))) (fun K' hK' => c_e_hasParts hsL (d + 1) (by omega) _ N f y C W p x6 x5 nb ib u g K' u1 hWu.1.2.1 hWu.1.2.2.2.2 k hGu htf hbt (fun z h1 h2 => hK' z ⟨h1, h2⟩)) (fun z hz => ⟨_, rf_lex2 (by omega), Or.inr (Or.inr (Or.inr (Or.inr (Or.inr (Or.inr (Or.inr (Or.inr (Or.inr (Or.inr (Or.inl (⟨rfl, N, f, y, w, W, p, q', x5, x6, z, rfl, hR0, ⟨hY, hz.2⟩, hx6, hz.1, rfl⟩)))))))))))⟩)
    · -- 274
      have hR0 := hR
      obtain ⟨hB, cr, hok', kD, q1⟩ := hR
      have hB0 := hB
      obtain ⟨⟨u1, u2, u3⟩, _⟩ := hB
      have hMu := (rf_WW_up hW u1 u2 u3).1.2.1
      have hG1 := ((we_G_WF hL hW u2 hG) trivial).2.2.2.2.2.1
      obtain ⟨hY1, hY2⟩ := hY
      refine w_e_write_274 (PW := fun t => we_PT E u t [40]) h7 (fun _ K' hK' => kP (d + 1) (by omega) 40 u K' u1 (by omega) hK') ?_ (fun hx7 => ⟨_, rf_lex2 (by omega), Or.inr (Or.inr (Or.inr (Or.inr (Or.inr (Or.inr (Or.inr (Or.inr (Or.inr (Or.inr (Or.inr (Or.inl (⟨rfl, N, f, y, w, W, p, q', x5, x6, x7, rfl, hR0, we_6_b hL hG1 hY2 (rf_EX_refl nb ib u) (Or.inl ⟨hx7, rfl⟩) hY1, hx6, h7, rfl⟩))))))))))))⟩)
      intro hx7 t hpt
      obtain ⟨c1, c2, c3, _⟩ := id hpt
      obtain ⟨e1, e2, e3, e4, e5⟩ := rf_WF_put c2 c3
      obtain ⟨cr', kD'⟩ := rf_CR_put hMu.ub e1 e3 e4 cr kD
      exact ⟨_, rf_lex2 (by omega), Or.inr (Or.inr (Or.inr (Or.inr (Or.inr (Or.inr (Or.inr (Or.inr (Or.inr (Or.inr (Or.inr (Or.inl (⟨rfl, N, f, y, w, W, p, q', x5, x6, x7, rfl, ⟨rf_WB_put hB0 c1 c2 c3, cr', hok', kD', q1⟩, we_6_b hL hG1 hY2 (rf_WF_EX e1).1 (Or.inr ⟨hx7, hpt⟩) hY1, hx6, h7, rfl⟩))))))))))))⟩
    · -- 285
      obtain ⟨hB, cr, hok', kD, q1⟩ := hR
      have hB0 := hB
      obtain ⟨⟨u1, u2, u3⟩, ⟨b71, b58⟩, bq⟩ := hB
      have hWu := rf_WW_up hW u1 u2 u3
      have hMu := hWu.1.2.1
      have r58 := u1.fld 66 58 (by decide) rfl
      have r71 := u1.fld 66 71 (by decide) rfl
      have hGu := we_G_WF hL hW u2 hG
      obtain ⟨_, _, _, _, _, _, _, j0, kk0, uu0, ff0, ef0⟩ := rf_CR_cons cr hx6
      obtain ⟨Z1, P1, hY1, hY2⟩ : ∃ (Z1 : we_A Ω) (P1 : Int → Prop), we_4 E Z1 P1 u f y dp ∧ ∀ (t t' : sx_S) (nb ib : Int), rf_EX nb ib u t' → we_Z E Z1 P1 t → t.1 66 89 = u.1 66 89 → (∀ k, k = 61 ∨ k = 79 ∨ k = 86 ∨ k = 89 → t'.1 66 k = t.1 66 k) → (∀ p, p = 108 ∨ (118 ≤ p ∧ p ≤ 122) → t'.2.1 p = t.2.1 p) → t'.1 66 58 = u.1 66 58 → (∀ p : Nat, (p : Int) < u.1 66 58 → t'.2.1 107 p = u.2.1 107 p) → we_6c E Z P t' f y dp x7 := by
        subst ef0
        exact we_6_w hGu hY
      refine w_write_285 (PW := fun t => cx_I t ∧ rf_WF u t ∧ rf_OD t ∧ we_Z E Z1 P1 t) u1 ?_ ?_
      · intro K' hK'
        obtain ⟨C, D, e1, k, n', _, _, j1, kk1, uu1, ff1, ef⟩ := rf_CR_cons cr hx6
        refine ih Z1 P1 N f y C W p (q' - 1) x6 x5 dp nb ib u g K' hWu k ?_ (by omega) (rf_DI_le (fun v hv => ?_) kD) (by omega) (by omega) (by omega) hGu hY1.1 hY1.2 (fun zz t g1 g2 g3 _ _ g6 => hK' zz t ⟨g1, g2, g3, g6⟩)
        · subst ef
          rcases hok' with ⟨z1, z2⟩ | z
          · exact Or.inl ⟨fun z hz => z1 z (Or.inl hz), Nat.le_trans rf_wh_le.1 z2⟩
          · exact Or.inr z
        · subst ef
          exact Or.inl hv
      · rintro t ⟨g1, g2, g3, g6⟩ a b ha hb
        obtain ⟨o1, o2, o3⟩ := rf_back_f (a := a) (b := b) (t := t)
        have hWF := rf_WF_back g2 ha hb
        have hcv : cx_I (sx_uf (sx_uf t.1 66 71 a) 66 58 b, t.2) := cx_I_uf rfl rfl (cx_I_uf rfl rfl g1 (by omega) (by omega)) (by omega) (by omega)
        have hOv : rf_OD (sx_uf (sx_uf t.1 66 71 a) 66 58 b, t.2) := rf_OD_same g3 (o1 61 (by decide) (by decide)) (o1 83 (by decide) (by decide)) (o1 79 (by decide) (by decide)) (fun _ _ => rfl)
        obtain ⟨cr', kD'⟩ := rf_CR_put hMu.ub hWF (o2.trans ha) (o3.trans hb) cr kD
        have v71 : sx_uf (sx_uf t.1 66 71 a) 66 58 b 66 71 = u.1 66 71 := o2.trans ha
        have v58 : sx_uf (sx_uf t.1 66 71 a) 66 58 b 66 58 = u.1 66 58 := o3.trans hb
        exact ⟨_, rf_lex2 (by omega), Or.inr (Or.inr (Or.inr (Or.inr (Or.inr (Or.inr (Or.inr (Or.inr (Or.inr (Or.inr (Or.inr (Or.inr (Or.inl (⟨rfl, N, f, y, w, W, p, q', x5, x6, x7, rfl, ⟨⟨⟨hcv, rf_WF_trans hWF u2, hOv⟩, ⟨by dsimp only; omega, by dsimp only; omega⟩, bq⟩, cr', hok', kD', q1⟩, hY2 t _ _ _ (rf_WF_EX hWF).1 g6 (g2.1.2.1 89 rfl) (fun k hk => o1 k (by omega) (by omega)) (fun _ _ => rfl) (o3.trans hb) (fun p hp => hWF.2.1.2.2.1 107 p (by omega) (by omega) hp), hx6, h7, rfl⟩)))))))))))))⟩
    · -- 318
      have hR0 := hR
      obtain ⟨hB, cr, hok', kD, q1⟩ := hR
      have hB0 := hB
      obtain ⟨⟨u1, u2, u3⟩, _⟩ := hB
      have hMu := (rf_WW_up hW u1 u2 u3).1.2.1
      have hG1 := ((we_G_WF hL hW u2 hG) trivial).2.2.2.2.2.1
      refine w_e_write_318 (PW := fun t => we_PT E u t [41]) h7 (fun _ K' hK' => kP (d + 1) (by omega) 41 u K' u1 (by omega) hK') ?_ (fun hx7 => ⟨_, rf_lex2 (by omega), Or.inr (Or.inr (Or.inr (Or.inr (Or.inr (Or.inr (Or.inr (Or.inr (Or.inr (Or.inr (Or.inr (Or.inr (Or.inr (⟨rfl, N, f, y, w, W, p, q', x5, x6, rfl, hR0, we_6_d hL hG1 (rf_EX_refl nb ib u) (Or.inl ⟨hx7, rfl⟩) hY, hx6, rfl⟩)))))))))))))⟩)
      intro hx7 t hpt
      obtain ⟨c1, c2, c3, _⟩ := id hpt
      obtain ⟨e1, e2, e3, e4, e5⟩ := rf_WF_put c2 c3
      obtain ⟨cr', kD'⟩ := rf_CR_put hMu.ub e1 e3 e4 cr kD
      exact ⟨_, rf_lex2 (by omega), Or.inr (Or.inr (Or.inr (Or.inr (Or.inr (Or.inr (Or.inr (Or.inr (Or.inr (Or.inr (Or.inr (Or.inr (Or.inr (⟨rfl, N, f, y, w, W, p, q', x5, x6, rfl, ⟨rf_WB_put hB0 c1 c2 c3, cr', hok', kD', q1⟩, we_6_d hL hG1 (rf_WF_EX e1).1 (Or.inr ⟨hx7, hpt⟩) hY, hx6, rfl⟩)))))))))))))⟩
    · -- 329
      obtain ⟨hB, cr, hok', kD, q1⟩ := hR
      have u1 := hB.1.1
      have r50 := u1.fld 66 50 (by decide) rfl
      obtain ⟨C, D, e1, k, n', cr2, hi, j1, kk1, uu1, ff1, ef⟩ := rf_CR_cons cr hx6
      subst ef
      refine w_write_329 u1 (by omega) (fun v hv => ⟨_, rf_lex2 (by show 10 * rf_len n' + 9 < 10 * (rf_len n' + 1) + 4; omega), Or.inr (Or.inr (Or.inr (Or.inr (Or.inr (Or.inr (Or.inr (Or.inr (Or.inl (⟨rfl, N, n', y, D, W, p, q', x5, v, rfl, ⟨hB, by rw [hv]; exact cr2, hok'.imp (fun z => ⟨fun r hr => z.1 r (Or.inr hr), Nat.le_trans rf_wh_le.2 z.2⟩) id, rf_DI_le (fun r hr => Or.inr hr) kD, q1⟩, we_6_5 hY, rfl⟩)))))))))⟩)
theorem we_wt_0 {E : we_E Ω} {sL : Nat} {sx : Nat → Int32} {aM : Bool} {d : Nat} : we_T E sL sx aM 0 d := by
  intro Z P N A y x W p q i b dp nb ib s g K hW k hok hq
  obtain ⟨j, kk, uu, f, n, eA, _⟩ := rf_CL_node k
  subst eA
  have := rf_okw_pos hok
  omega
/-- trees without unknowns -/
theorem c_e_write0 {E : we_E Ω} (hL : we_L E) {sL : Nat} {sx : Nat → Int32} (hKE : we_K E sL sx) (hsL : sL ≤ 3072) : ∀ H d : Nat, H + 130 ≤ d → we_T E sL sx false H d
  | 0, d, _ => we_wt_0
  | H + 1, d, hd => by
    obtain ⟨d, rfl⟩ : ∃ e, d = e + 2 := ⟨d - 2, by omega⟩
    exact we_wt_ok hL hKE hsL (by omega) (c_e_write0 hL hKE hsL H (d + 1) (by omega)) (fun c => absurd c (by decide))
theorem c_e_write {E : we_E Ω} (hL : we_L E) {sL : Nat} {sx : Nat → Int32} (hKE : we_K E sL sx) (hsL : sL ≤ 3072) : ∀ H d : Nat, H + 160 ≤ d → we_T E sL sx true H d
  | 0, d, _ => we_wt_0
  | H + 1, d, hd => by
    obtain ⟨d, rfl⟩ : ∃ e, d = e + 2 := ⟨d - 2, by omega⟩
    exact we_wt_ok hL hKE hsL (by omega) (c_e_write hL hKE hsL H (d + 1) (by omega)) (fun _ => ⟨by omega, c_e_write0 hL hKE hsL 9 (d - 1) (by omega)⟩)
end
end
section
/-! ===== the reference: writeUnknown and number, with what they write ===== -/
section
variable {Ω : Type}
/-- other rows of nodes -/
def we_up (E : we_E Ω) (AR : Nat → List Int) : we_E Ω := (E.1, E.2.1, E.2.2.1, E.2.2.2.1, AR, E.2.2.2.2.2)
theorem we_G_ar {E : we_E Ω} (hL : we_L E) {nb ib : Int} {s t : sx_S} {g : rf_Gh} {AR : Nat → List Int} (hI : cx_I s) (hM : rf_MI nb ib s g) (hE : rf_EX nb ib s t) (hN : rf_NC s t) (hA : ∀ j : Nat, (j : Int) < s.1 66 50 → AR j = we_AR E j) (h58 : s.1 66 58 ≤ t.1 66 58) (hR : ∀ p, 68 ≤ p → p ≤ 99 → t.2.1 p = s.2.1 p) (e3 : t.1 66 3 = s.1 66 3) (h : we_G E s g) : we_G (we_up E AR) t g := fun _ => by
  obtain ⟨⟨h1, h2⟩, h3, h4, h5, h6, h7, h8⟩ := h trivial
  have e61 := hN.1
  have ea := we_ar hE hN
  refine ⟨⟨vr_G_up hE (rf_EG_refl s g) hN hA h1, (vr_So_NC hI hE (rf_EG_refl s g) hN hM h1 hA).mpr h2⟩, fun m m0 m1 hs => ?_, fun m m0 m1 => ?_, fun u m u0 u1 hs => ?_, fun m q m0 m1 hq => ?_, by omega, (hL trivial).2.2.2 s t hR e3 hE.1.1.2.2.2.2 h8⟩
  · rw [ea]
    exact h3 m m0 (by omega) (by rw [← hN.2 m.toNat (by omega)]; exact hs)
  · rw [ea, e61]
    exact h4 m m0 (by omega)
  · exact h5 u m u0 (by omega) (by rw [← hN.2 u.toNat (by omega)]; exact hs)
  · rw [hE.aa m0 (by omega)] at hq
    exact hE.pt m0 (by omega) (h6 m q m0 (by omega) hq)
theorem c_e_wunk {E : we_E Ω} (hL : we_L E) {sL : Nat} {sx : Nat → Int32} (hKE : we_K E sL sx) (hsL : sL ≤ 3072) (d : Nat) (hd : 1420 ≤ d) : ∀ (Z : we_A Ω) (P : Int → Prop) (k nb ib : Int) (s : sx_S) (g : rf_Gh) (K : Int → sx_S → Prop), rf_WW true nb ib s g → (0 ≤ k ∧ k < s.1 66 61) → s.1 66 50 ≤ 59940 → s.1 66 56 ≤ 119890 → s.1 66 71 + 1260 ≤ 399900 → s.1 66 58 + 1260 ≤ 399900 → we_G E s g → we_J E Z P s (we_th E k) (rf_n 0 3 k .leaf .leaf) ((we_W E (vq_lm (rf_aa s k).toNat (we_th E k))).1 0) → (∀ z t, rf_WU s t → we_Z E Z P t → K z t) → sx_C sL sx d 207 [.inr (.inl 66), .inl k] s K := by
  intro Z P k nb ib s g K hW hk h50 h56 h71 h58 hG hJ0 hK
  obtain ⟨kP, kN, kM, kA⟩ := hKE trivial
  obtain ⟨d, rfl⟩ : ∃ e, d = e + 2 := ⟨d - 2, by omega⟩
  obtain ⟨⟨hI, hM, hnb, hib, hph⟩, h70, h61, h9, h5056, hO⟩ := hW
  have r50 := hI.fld 66 50 (by decide) rfl
  have r56 := hI.fld 66 56 (by decide) rfl
  have r58 := hI.fld 66 58 (by decide) rfl
  have r71 := hI.fld 66 71 (by decide) rfl
  have r108 := hI.arr 108 (by decide) rfl k.toNat
  have hx := hM.1 k hk.1 hk.2
  have h109 : ∀ i : Int, 0 ≤ i → i < s.2.1 108 k.toNat → 0 ≤ s.2.1 109 k.toNat ∧ s.2.1 109 k.toNat + i ≤ 19999 := fun i hi hlt => by
    obtain ⟨T, hT⟩ := hx.1 i.toNat (by show ((i.toNat : Nat) : Int) < s.2.1 108 k.toNat; omega)
    have r64 := hI.fld 66 64 (by decide) rfl
    have := hT.1
    omega
  refine sx_methL (wr := true) (n := 400) (n' := 400) (stop := [(22, [0, 1, 2, 3, 4]), (74, [0, 1, 2, 3, 4, 5]), (90, [0, 2, 3])]) (fun ms pc ls u => (pc = 22 ∧ ∃ i : Int, ls = [(0, .inr (.inl 66)), (1, .inl k), (2, .inl (s.1 66 50)), (3, .inl i), (4, .inl i)] ∧ (0 ≤ i ∧ i ≤ s.2.1 108 k.toNat) ∧ rf_WJ s u k i ∧ we_J E Z P u (we_th E k) (rf_n 0 3 k .leaf .leaf) ((we_W E (vq_lm (s.2.1 108 k.toNat - i).toNat (we_th E k))).1 i) ∧ (ms : Int) = 20 - 2 * i) ∨ (pc = 74 ∧ ∃ (i v : Int) (u0 : sx_S), ls = [(0, .inr (.inl 66)), (1, .inl k), (2, .inl (s.1 66 50)), (3, .inl i), (4, .inl i), (5, .inl v)] ∧ (0 ≤ i ∧ i < s.2.1 108 k.toNat) ∧ rf_WJ s u0 k i ∧ rf_WX s u0 u k i v ∧ we_J E Z P u (we_th E k) (rf_n 0 3 k .leaf .leaf) ((we_W E (vq_lm (s.2.1 108 k.toNat - i).toNat (we_th E k))).1 i) ∧ (ms : Int) = 19 - 2 * i) ∨ (pc = 90 ∧ ls = [(0, .inr (.inl 66)), (2, .inl (s.1 66 50)), (3, .inl (s.2.1 108 k.toNat))] ∧ rf_WJ s u k (s.2.1 108 k.toNat) ∧ we_J E Z P u (we_th E k) (rf_n 0 3 k .leaf .leaf) ((we_W E (we_th E k)).1 (s.2.1 108 k.toNat)) ∧ ms = 0)) hsL (e := eX12_writeUnknown) rfl ?_ ?_
  · refine w_wunk (PM := fun z t => z = s.1 66 50 ∧ cx_I t ∧ (cx_F [(66, 66), (100, 103)] s t ∧ rf_f [50] s t) ∧ ∀ w : Int, w = t.1 66 56 → rf_WJ s (t.1, sx_ua t.2.1 104 z.toNat w, t.2.2) k 0) (fun K' hK' => c_r_make hsL (d + 1) (by omega) 3 k s K' hI (by omega) (by omega) (by omega) (fun z t c1 c2 c3 c4 c5 c6 c7 => hK' z t ⟨c3, c1, ⟨c2, c5⟩, fun w hw => rf_WJ_0 r50.1 c1 c2 c3 c4 c5 c6 c7 hw⟩)) (fun z t h => ⟨h.2.1, by omega⟩) (fun z t h w hw => ⟨20, Or.inl ⟨rfl, 0, ?_, by omega, h.2.2.2 w hw, ?_, by omega⟩⟩)
    · rw [h.1]
    · rw [show (s.2.1 108 k.toNat - 0).toNat = (rf_aa s k).toNat by unfold rf_aa; omega]
      exact we_J_same (u := t) (fun _ _ => rfl) (fun p hp => sx_ua_ne (by omega)) (we_J_F h.2.2.1.1 h.2.2.1.2 rfl rfl hJ0)
  · rintro ms pc ls u (⟨rfl, i, rfl, hi, hJ, hY, hms⟩ | ⟨rfl, i, v, u0, rfl, hi, hJ, hX, hY, hms⟩ | ⟨rfl, rfl, hJ, hY, rfl⟩)
    · have hJ0 := hJ
      obtain ⟨⟨a1, a2, a3⟩, ⟨a4, a5, a6⟩, _⟩ := hJ0
      have e108 : u.2.1 108 = s.2.1 108 := (a2.same 108 rfl).2
      have e109 : u.2.1 109 = s.2.1 109 := (a2.same 109 rfl).2
      have e110 : u.2.1 110 = s.2.1 110 := (a2.same 110 rfl).2
      refine w_wunk_22 (PV := fun z t => (cx_I t ∧ (0 ≤ t.1 66 56 ∧ t.1 66 56 ≤ 119990) ∧ (0 ≤ z ∧ z ≤ 399999)) ∧ ∀ m w : Int, m = t.1 66 56 → w = t.1 66 56 + 1 → rf_WX s u (sx_uf t.1 66 56 w, sx_ua t.2.1 105 m.toNat z, t.2.2) k i z ∧ we_J E Z P (sx_uf t.1 66 56 w, sx_ua t.2.1 105 m.toNat z, t.2.2) (we_th E k) (rf_n 0 3 k .leaf .leaf) ((we_W E (vq_lm (s.2.1 108 k.toNat - i).toNat (we_th E k))).1 i)) a1 (by omega) (by omega) (fun hlt => ?_) (fun hge => ⟨0, by omega, Or.inr (Or.inr ⟨rfl, ?_, ?_, ?_, rfl⟩)⟩) (fun hlt a ha K' hK' => ?_) (fun z t h => h.1) (fun hlt z t h m w hm hw => ⟨ms - 1, by omega, Or.inr (Or.inl ⟨rfl, i, z, u, rfl, ?_, hJ, (h.2 m w hm hw).1, (h.2 m w hm hw).2, by omega⟩)⟩)
      · rw [e108] at hlt
        rw [e109]
        exact (h109 i hi.1 hlt).2
      · rw [e108] at hge
        rw [show i = s.2.1 108 k.toNat by omega]
      · rw [e108] at hge
        rw [show s.2.1 108 k.toNat = i by omega]
        exact hJ
      · rw [e108] at hge
        have e0 : (s.2.1 108 k.toNat - i).toNat = 0 := by omega
        have e1 : i = s.2.1 108 k.toNat := by omega
        rw [e0, e1] at hY
        exact hY
      · have ra := a1.arr 110 (by decide) rfl (u.2.1 109 k.toNat + i).toNat
        have r56u := a1.fld 66 56 (by decide) rfl
        refine c_r_newVar hsL (d + 1) (by omega) a u K' a1 (by omega) (by omega) (fun z t c1 c2 c3 c4 c5 c6 c7 => ?_)
        have e56 := c5 56 rfl
        have hz : 0 ≤ z ∧ z ≤ 399999 := by omega
        have ht56 : 0 ≤ t.1 66 56 ∧ t.1 66 56 ≤ 119990 := by omega
        exact hK' z t ⟨⟨c1, ht56, hz⟩, fun m w hm hw => ⟨rf_WX_0 c1 c2 c3 c4 c5 c6 c7 (by rw [ha, e110, e109]) ht56 hz hm hw, we_J_same (u := t) (fun q hq => by show sx_uf t.1 66 56 w 66 q = _; rw [sx_uf_if, if_neg (fun cc => by omega)]) (fun p hp => sx_ua_ne (by omega)) (we_J_F c2 c5 rfl rfl hY)⟩⟩
      · rw [e108] at hlt
        exact ⟨hi.1, hlt⟩
    · have hb1 := hX.1.1
      have hb2 := hX.2.1
      have hj2 := hJ.2.1
      refine w_wunk_74 (PL := fun t => (cx_I t ∧ cx_F [(66, 66), (107, 107), (122, 122)] u t ∧ rf_f [86] u t ∧ ∀ j : Nat, t.2.1 107 j = if j = v.toNat then i else u.2.1 107 j) ∧ ∀ o, we_Sp E u o → we_Sp E t ((92 :: 120 :: (E.1.2.1 i ++ [46])).foldl (fun o c => E.1.1 c o) o)) (by omega) (by omega) (fun K' hK' => kA (d + 1) (by omega) v i u K' hb1 (by omega) (by omega) (fun z t c1 c2 c3 c4 c5 => hK' z t ⟨⟨c1, c2, c3, c4⟩, c5⟩)) (fun t h a b ha hb => ⟨ms - 1, by omega, Or.inl ⟨rfl, i + 1, by rw [ha, hb], by omega, rf_WJ_s r50.1 r56.1 r58.1 hi.1 hJ hX h.1.1 h.1.2.1 h.1.2.2.1 h.1.2.2.2, ?_, by omega⟩⟩)
      obtain ⟨⟨_, h2, h3, _⟩, h5⟩ := h
      refine we_J_pt hL (fun q hq => ?_) (fun p hp => ?_) h5 (fun w => ?_) hY
      · rcases hq with rfl | rfl | rfl
        · exact h3 61 rfl
        · exact h3 79 rfl
        · exact h3 89 rfl
      · have hp' : p = 108 ∨ p = 118 ∨ p = 119 ∨ p = 120 ∨ p = 121 := by omega
        rcases hp' with rfl | rfl | rfl | rfl | rfl <;> exact (h2.same _ rfl).2
      · have e1 : (s.2.1 108 k.toNat - i).toNat = (s.2.1 108 k.toNat - (i + 1)).toNat + 1 := by omega
        rw [e1]
        exact we_lam 0 0 _ .leaf i w
    · obtain ⟨hE, hN, hOu⟩ := rf_WJ_EX r108.1 hJ
      obtain ⟨hC, hD⟩ := rf_WJ_CL hM hk r50.1 r56.1 r58.1 r108.1 h70.1 hJ
      have hJ0 := hJ
      obtain ⟨⟨a1, a2, a3⟩, ⟨a4, a5, a6⟩, _⟩ := hJ0
      have e71 := a3 71 rfl
      have e70 := a3 70 rfl
      have e61 := a3 61 rfl
      have e9 := a3 9 rfl
      have hWu : rf_WW true nb ib u g := ⟨⟨a1, rf_NC_MI (rf_EX_le hE hnb hib) hN (Int.le_refl _) (Int.le_refl _) hM, by omega, by omega, by rw [rf_NC_ph hE hN]; exact hph⟩, by omega, by omega, by omega, ⟨by show u.1 66 50 ≤ 59950; omega, by omega⟩, hOu hO⟩
      refine w_wunk_90 (PW := fun t => rf_WU s t ∧ we_Z E Z P t) (fun K' hK' => ?_) (fun t h => hK 0 t h.1 h.2)
      obtain ⟨_, _, _, ⟨m2, m3⟩, m4⟩ := hJ
      have hbn : rf_bn u (s.1 66 50).toNat k := ⟨by omega, by omega, by rw [m3]; unfold rf_aa; rw [(a2.same 108 rfl).2]; omega⟩
      have eaa : rf_aa u k = s.2.1 108 k.toNat := by
        unfold rf_aa
        rw [(a2.same 108 rfl).2]
      have hGu : we_G (we_up E (fun j => if j = (s.1 66 50).toNat then vr_rw u (s.1 66 50).toNat k else we_AR E j)) u g := we_G_ar hL hI hM (rf_EX_le hE hnb hib) hN (fun j hj => if_neg (by omega)) (by omega) (fun p h1 h2 => ((a2 p).1 (fun q hq => by
        simp only [List.mem_cons, List.not_mem_nil, or_false] at hq
        rcases hq with rfl | rfl | rfl <;> (dsimp only; omega))).2) (a3 3 rfl) hG
      have hVt : vr_t u (we_AR (we_up E (fun j => if j = (s.1 66 50).toNat then vr_rw u (s.1 66 50).toNat k else we_AR E j))) (.inner (s.1 66 50).toNat (3, k) () .leaf .leaf) := ⟨by omega, Or.inr (Or.inl ⟨rfl, hbn, if_pos rfl⟩)⟩
      obtain ⟨⟨_, GS⟩, _⟩ := hG trivial
      have eV : we_V (we_up E (fun j => if j = (s.1 66 50).toNat then vr_rw u (s.1 66 50).toNat k else we_AR E j)) u (.inner (s.1 66 50).toNat (3, k) () .leaf .leaf) .leaf (s.2.1 108 k.toNat) = we_th E k := by
        have e0 := vr_V_call (th := we_th E) (AR := fun j => if j = (s.1 66 50).toNat then vr_rw u (s.1 66 50).toNat k else we_AR E j) (fun m => (GS.1 m).1) (j := (s.1 66 50).toNat) (q := (3, k)) (u := ()) (f := .leaf) (x := .leaf) (y := .leaf) (L := u.1 66 58) rfl
        show vx_re (we_D u (s.2.1 108 k.toNat)) (vr_V (we_th E) (fun j => if j = (s.1 66 50).toNat then vr_rw u (s.1 66 50).toNat k else we_AR E j) (.inner (s.1 66 50).toNat (3, k) () .leaf .leaf) .leaf (u.1 66 58)) = we_th E k
        rw [e0, vx_re_re]
        dsimp only
        rw [if_pos rfl]
        have hsc := GS.2.1 k hk.1 hk.2
        refine vx_re_id hsc (fun v hv => ?_)
        have v0 := (GS.1 k).2 v hv
        have hlen : ((vr_rw u (s.1 66 50).toNat k).map (rf_look .leaf)).length = (s.2.1 108 k.toNat).toNat := by
          rw [List.length_map]
          unfold vr_rw
          rw [vr_gl, eaa]
        show we_D u (s.2.1 108 k.toNat) (vx_ix ((vr_rw u (s.1 66 50).toNat k).map (rf_look .leaf)) (u.1 66 58) v) = v
        unfold vx_ix
        rw [hlen]
        by_cases hv1 : v < (((s.2.1 108 k.toNat).toNat : Nat) : Int)
        · have hq := m4 v.toNat (by omega)
          have e1 : ((vr_rw u (s.1 66 50).toNat k).map (rf_look .leaf)).getD v.toNat (-1) = s.1 66 58 + v := by
            refine vx_getD ?_
            rw [List.getElem?_map]
            unfold vr_rw
            rw [vr_gr.mpr ⟨by rw [eaa]; omega, rfl⟩]
            show some (rf_rv1 u (s.1 66 50).toNat v.toNat) = some (s.1 66 58 + v)
            unfold rf_rv1
            rw [m3, hq.1]
            exact congrArg some (by omega)
          rw [if_pos hv1, e1]
          unfold we_D
          have e2 : ((v.toNat : Nat) : Int) = v := by omega
          rw [e2] at hq
          rw [if_pos (by omega), hq.2.2]
        · rw [if_neg hv1]
          unfold we_D
          rw [if_neg (by omega)]
          omega
      refine c_e_write (E := we_up E (fun j => if j = (s.1 66 50).toNat then vr_rw u (s.1 66 50).toNat k else we_AR E j)) hL hKE hsL 1255 (d + 1) (by omega) Z P (fun _ _ => False) _ .leaf .leaf [] 1155 1255 (s.1 66 50) (-1) (s.2.1 108 k.toNat) nb ib u g K' hWu hC (Or.inr ⟨rfl, by omega⟩) (by omega) hD (by omega) (by omega) (by omega) hGu hVt (by rw [eV]; exact we_J_le (fun _ h => h) (fun m hm => hm) hY) (fun z t c1 c2 c3 c4 c5 c6 => hK' z t ⟨?_, c6⟩)
      obtain ⟨hE2, hN2⟩ := rf_WF_EX c2
      obtain ⟨⟨b1, b2, b3⟩, _, b8, b9, _⟩ := c2
      have f56 := b2 56 rfl
      exact ⟨⟨c1, rf_EX_trans hE2 hE (by omega) (by omega), ⟨hN2.1.trans hN.1, fun j hj => (hN2.2 j (by rw [hN.1]; exact hj)).trans (hN.2 j hj)⟩, c3⟩, ⟨cx_F_step b1 rfl (cx_F_step a2 rfl (cx_F_refl _ _)), rf_f_step b2 rfl (rf_f_step a3 rfl (rf_f_refl _ _))⟩, by omega, by omega, by omega, by omega, by omega⟩
/-- a term behind n \ -/
theorem we_lm_ok {n : Int} {ar : Int → Int} {T : rf_N} (h : wz_ok n ar T) (ho : vx_on T) : ∀ k, wz_ok n ar (vq_lm k T)
  | 0 => h
  | k + 1 => by
    show wz_ok n ar (.inner 0 (0, 0) () (vq_lm k T) .leaf)
    rw [wz_ok_in, if_neg (by decide)]
    exact ⟨we_lm_ok h ho k, trivial, fun _ => vq_lm_on ho k⟩
theorem we_lm_go {T : rf_N} {a : List (Int × List Int)} : ∀ k, wz_go (vq_lm k T) a = wz_go T a
  | 0 => rfl
  | k + 1 => by
    show wz_go (.inner 0 (0, 0) () (vq_lm k T) .leaf) a = _
    rw [wz_go_in, if_neg (by decide), we_lm_go k]
    rfl
theorem we_lm_acc {E : we_E Ω} {n : Int} {ar : Int → Int} {T : rf_N} (h : wz_ok n ar T) (ho : vx_on T) {k : Nat} {dp : Int} {w : we_A Ω} : ((we_W E (vq_lm k T)).1 dp w).1 = wz_go T w.1 := by
  rw [we_W_acc (we_lm_ok h ho k) (vq_lm_on ho k), we_lm_go]
theorem c_e_number {E : we_E Ω} (hL : we_L E) {sL : Nat} {sx : Nat → Int32} (hKE : we_K E sL sx) (hsL : sL ≤ 3072) (d : Nat) (hd : 1430 ≤ d) (hfull : ∀ p : Nat → Int, ∃ o, we_sa E o ∧ E.2.1.1 4001 p o) : ∀ (nb ib : Int) (s : sx_S) (g : rf_Gh) (K : Int → sx_S → Prop), cx_I s → rf_MI nb ib s g → (nb ≤ s.1 66 71 ∧ ib ≤ s.1 66 58) → rf_ph s g ≤ 1150 → (0 ≤ s.1 66 70 ∧ s.1 66 70 ≤ 100) → s.1 66 61 ≤ 2900 → (2 ≤ s.1 66 9 ∧ s.1 66 9 ≤ 6000) → s.1 66 45 ≤ s.1 66 61 → (s.1 66 50 ≤ 59930 ∧ s.1 66 56 ≤ 119800) → s.1 66 71 ≤ 390000 → s.1 66 58 ≤ 390000 → we_G E s g → (∀ z t, (∃ t', rf_NU s t' 5 ∧ we_N t' (wz_al (we_th E) (s.1 66 45).toNat) ∧ t = (sx_uf t'.1 66 89 0, t'.2)) → K z t) → sx_C sL sx d 202 [.inr (.inl 66)] s K := by
  intro nb ib s g K hI hM hnb hph h70 h61 h9 h45 h50 h71 h58 hG hK
  obtain ⟨d, rfl⟩ : ∃ e, d = e + 2 := ⟨d - 2, by omega⟩
  have r45 := hI.fld 66 45 (by decide) rfl
  have r61 := hI.fld 66 61 (by decide) rfl
  have r50 := hI.fld 66 50 (by decide) rfl
  have r56 := hI.fld 66 56 (by decide) rfl
  have r58 := hI.fld 66 58 (by decide) rfl
  have r71 := hI.fld 66 71 (by decide) rfl
  refine sx_methL (wr := true) (n := 400) (n' := 400) (stop := [(12, [0, 1]), (40, [0]), (54, [0, 1])]) (fun ms pc ls u => (pc = 12 ∧ ∃ m : Int, ls = [(0, .inr (.inl 66)), (1, .inl m)] ∧ (0 ≤ m ∧ m ≤ s.1 66 61) ∧ rf_N1 s u m ∧ (∀ j : Nat, (j : Int) < m → u.2.1 119 j = 0) ∧ (ms : Int) = 4000 - m) ∨ (pc = 40 ∧ ls = [(0, .inr (.inl 66))] ∧ rf_N1 s u (s.1 66 61) ∧ (∀ j : Nat, (j : Int) < s.1 66 61 → u.2.1 119 j = 0) ∧ ms = 100) ∨ (pc = 54 ∧ ∃ k : Int, ls = [(0, .inr (.inl 66)), (1, .inl k)] ∧ (0 ≤ k ∧ k ≤ s.1 66 45) ∧ rf_NU s u k ∧ (∃ w : we_A Ω, w.1 = wz_al (we_th E) k.toNat ∧ we_Z E w (fun _ => False) u ∧ u.1 66 89 = 1) ∧ (ms : Int) = 20 - k)) hsL (e := eX12_number) rfl ?_ ?_
  · have hI1 : cx_I (sx_uf s.1 66 79 0, s.2) := cx_I_uf rfl rfl hI (by decide) (by decide)
    have hI2 : cx_I (sx_uf (sx_uf s.1 66 79 0) 66 83 0, s.2) := cx_I_uf rfl rfl hI1 (by decide) (by decide)
    have hF1 : cx_F [(66, 66), (118, 119)] s (sx_uf s.1 66 79 0, s.2) := cx_F_uf rfl (cx_F_refl _ _)
    have hf1 : rf_f [79, 83] s (sx_uf s.1 66 79 0, s.2) := rf_f_uf rfl (rf_f_refl _ _)
    exact w_number ⟨4000, Or.inl ⟨rfl, 0, rfl, by omega, ⟨⟨hI2, cx_F_uf rfl hF1, rf_f_uf rfl hf1⟩, ⟨by show sx_uf (sx_uf s.1 66 79 0) 66 83 0 66 79 = 0; rw [sx_uf_if, if_neg (by decide), sx_uf_if, if_pos ⟨rfl, rfl⟩], by show sx_uf (sx_uf s.1 66 79 0) 66 83 0 66 83 = 0; rw [sx_uf_if, if_pos ⟨rfl, rfl⟩]⟩, fun j hj => absurd hj (by omega)⟩, fun j hj => absurd hj (by omega), by omega⟩⟩
  · rintro ms pc ls u (⟨rfl, m, rfl, hm, hN, h119, hms⟩ | ⟨rfl, rfl, hN, h119, rfl⟩ | ⟨rfl, k, rfl, hk, hN, hY, hms⟩)
    · have hN0 := hN
      obtain ⟨⟨a1, a2, a3⟩, ⟨b1, b2⟩, c⟩ := hN0
      have e61 := a3 61 rfl
      refine w_number_12 a1 (by omega) (by omega) (fun hge => ⟨100, by omega, Or.inr (Or.inl ⟨rfl, rfl, ?_, ?_, rfl⟩)⟩) (fun hlt y hy => ⟨ms - 1, by omega, Or.inl ⟨rfl, y, rfl, by omega, ?_, ?_, by omega⟩⟩)
      · rw [show s.1 66 61 = m by omega]
        exact hN
      · rw [show s.1 66 61 = m by omega]
        exact h119
      · have i1 : cx_I (u.1, sx_ua u.2.1 118 m.toNat (-1), u.2.2) := cx_I_ua rfl rfl a1 (by decide) (by decide)
        have i2 : cx_I (u.1, sx_ua (sx_ua u.2.1 118 m.toNat (-1)) 119 m.toNat 0, u.2.2) := cx_I_ua rfl rfl i1 (by decide) (by decide)
        have f1 : cx_F [(66, 66), (118, 119)] s (u.1, sx_ua u.2.1 118 m.toNat (-1), u.2.2) := cx_F_ua rfl a2
        have f2 : cx_F [(66, 66), (118, 119)] s (u.1, sx_ua (sx_ua u.2.1 118 m.toNat (-1)) 119 m.toNat 0, u.2.2) := cx_F_ua rfl f1
        refine ⟨⟨i2, f2, a3⟩, ⟨b1, b2⟩, fun j hj => ?_⟩
        show sx_ua (sx_ua u.2.1 118 m.toNat (-1)) 119 m.toNat 0 118 j = -1
        rw [sx_ua_ne (by decide), sx_ua_same]
        show (if j = m.toNat then -1 else u.2.1 118 j) = -1
        by_cases hjm : j = m.toNat
        · rw [if_pos hjm]
        · rw [if_neg hjm]
          exact c j (by omega)
      · intro j hj
        show sx_ua (sx_ua u.2.1 118 m.toNat (-1)) 119 m.toNat 0 119 j = 0
        rw [sx_ua_same, sx_ua_ne (by decide)]
        show (if j = m.toNat then 0 else u.2.1 119 j) = 0
        by_cases hjm : j = m.toNat
        · rw [if_pos hjm]
        · rw [if_neg hjm]
          exact h119 j (by omega)
    · obtain ⟨o, ho1, ho2⟩ := hfull (u.2.1 122)
      refine w_number_40 ⟨20, by omega, Or.inr (Or.inr ⟨rfl, 0, rfl, by omega, rf_N1_NU hN (Int.le_refl _), ⟨([], o), rfl, fun _ => ⟨⟨fun _ => ?_, ?_⟩, fun _ => ⟨ho1, fun m m0 m1 hs => ?_⟩⟩, ?_⟩, by omega⟩)⟩
      · obtain ⟨⟨a1, a2, a3⟩, ⟨b1, b2⟩, c⟩ := hN
        have o : ∀ q, q ≠ 86 → q ≠ 89 → sx_uf (sx_uf u.1 66 86 4001) 66 89 1 66 q = u.1 66 q := fun q h1 h2 => by
          rw [sx_uf_if, if_neg (fun cc => h2 cc.2), sx_uf_if, if_neg (fun cc => h1 cc.2)]
        refine ⟨(o 79 (by decide) (by decide)).trans b1, List.nodup_nil, fun m m0 m1 => Or.inl ⟨c m.toNat ?_, List.not_mem_nil⟩⟩
        have m1' : m < sx_uf (sx_uf u.1 66 86 4001) 66 89 1 66 61 := m1
        rw [o 61 (by decide) (by decide), a3 61 rfl] at m1'
        omega
      · show E.2.1.1 (sx_uf (sx_uf u.1 66 86 4001) 66 89 1 66 86) (u.2.1 122) o
        rw [sx_uf_if, if_neg (by decide), sx_uf_if, if_pos ⟨rfl, rfl⟩]
        exact ho2
      · have m1' : m < sx_uf (sx_uf u.1 66 86 4001) 66 89 1 66 61 := m1
        rw [sx_uf_if, if_neg (by decide), sx_uf_if, if_neg (by decide), hN.1.2.2 61 rfl] at m1'
        exact absurd (h119 m.toNat (by omega)) hs
      · show sx_uf (sx_uf u.1 66 86 4001) 66 89 1 66 89 = 1
        rw [sx_uf_if, if_pos ⟨rfl, rfl⟩]
    · have hWW := rf_NU_WW hM hnb.1 hnb.2 hph h70 h61 h9 (k := k) (by omega) h50.1 h50.2 hN
      have hN0 := hN
      obtain ⟨⟨a1, a2, a3, a4⟩, ⟨b1, b2⟩, c1, c2, c3, c4, c5⟩ := hN0
      have e45 := b2 45 rfl
      have e61 := b2 61 rfl
      obtain ⟨w, hw1, hw2, hw3⟩ := hY
      have hGu : we_G E u g := we_G_up hL hI hM (rf_EX_le a2 (by omega) (by omega)) a3 (by omega) (fun p h1 h2 => ((b1 p).1 (fun q hq => by
        simp only [List.mem_cons, List.not_mem_nil, or_false] at hq
        rcases hq with rfl | rfl | rfl <;> (dsimp only; omega))).2) (b2 3 rfl) hG
      refine w_number_54 (PW := fun t => rf_WU u t ∧ we_Z E ((we_W E (vq_lm (rf_aa u k).toNat (we_th E k))).1 0 w) (fun _ => False) t) a1 (by omega) (fun hge => hK 0 _ ⟨u, ?_, ?_, rfl⟩) (fun hlt K' hK' => c_e_wunk hL hKE hsL (d + 1) (by omega) _ (fun _ => False) k nb ib u g K' hWW (by omega) (by omega) (by omega) (by omega) (by omega) hGu ⟨w, fun _ => False, (hw2 trivial).1, rfl, fun _ => ⟨fun c => absurd c (by omega), fun c => ⟨((hw2 trivial).2 c).1, fun _ h => h.elim, ((hw2 trivial).2 c).2⟩⟩⟩ (fun z t h1 h2 => hK' z t ⟨h1, h2⟩)) (fun hlt t h y hy => ⟨ms - 1, by omega, Or.inr (Or.inr ⟨rfl, y, rfl, by omega, ?_, ⟨_, ?_, h.2, ?_⟩, by omega⟩)⟩)
      · exact ⟨⟨a1, a2, a3, a4⟩, ⟨b1, b2⟩, by omega, by omega, by omega, by omega, by omega⟩
      · have e1 := (hw2 trivial).1.1
        rw [hw1, show k = s.1 66 45 by omega] at e1
        exact e1
      · rw [hy]
        exact rf_NU_s hk.1 hN h.1
      · obtain ⟨⟨_, GS⟩, _, Gok, _⟩ := hGu trivial
        rw [we_lm_acc (Gok k (by omega) (by omega)) (GS.1 k).1, hw1, show y.toNat = k.toNat + 1 by omega]
        show wz_go (we_th E k) (wz_al (we_th E) k.toNat) = wz_go (we_th E ((k.toNat : Nat) : Int)) (wz_al (we_th E) k.toNat)
        rw [show ((k.toNat : Nat) : Int) = k by omega]
      · exact (h.1.2.1.2 89 rfl).trans hw3
end
end
section
/-! ===== the reference: papers and what calls it, with what is written ===== -/
theorem w_e_papers_66 {CALL : sx_Ca} {sL : Nat} {sx : Nat → Int32} {Q : Nat → sx_L → sx_S → Prop} {R : Int → sx_S → Prop} {s : sx_S} {a b c e : Int} (hI : cx_I s) (pa : 0 ≤ a ∧ a ≤ 60000) (pb : 0 ≤ b ∧ b ≤ 120000) (pc : 0 ≤ c ∧ c ≤ 400000) (pe : 0 ≤ e ∧ e ≤ 400000) (hK : ∀ z : Int, (-1 ≤ z ∧ z ≤ 4000) → ((4000 < s.1 66 86 ∧ z = -1) ∨ (s.1 66 86 ≤ 4000 ∧ z = s.1 66 86)) → R z (sx_uf (sx_uf (sx_uf (sx_uf s.1 66 50 a) 66 56 b) 66 58 c) 66 71 e, s.2)) : sx_wp true sL sx eX12_papers CALL [(66, [0, 4, 5, 6, 7])] Q R 400 66 [(0, .inr (.inl 66)), (4, .inl a), (5, .inl b), (6, .inl c), (7, .inl e)] [] s := by
  repeat' (first | (with_reducible intro _) | (refine And.intro ?_ ?_) | (refine hK _ ?_ ?_))
  all_goals (try dsimp only)
  repeat' (first | (with_reducible assumption) | ((with_reducible (change cx_I (sx_uf _ _ _ _, _))); refine cx_I_uf rfl rfl ?_ ?_ ?_) | ((with_reducible (change cx_I (_, sx_ua _ _ _ _, _))); refine cx_I_ua rfl rfl ?_ ?_ ?_) | ((with_reducible (change cx_I (_, sx_ua _ 16 _ _, _))); refine cx_I_ari ?_ ?_ ?_) | ((with_reducible (change cx_I (sx_uf _ 11 6 _, _))); refine cx_I_ufA rfl ?_ ?_ ?_ ?_) | (with_reducible exact cx_F_refl _ _) | ((with_reducible (change cx_F _ _ (sx_uf _ _ _ _, _))); refine cx_F_uf rfl ?_) | ((with_reducible (change cx_F _ _ (_, sx_ua _ _ _ _, _))); refine cx_F_ua rfl ?_) | ((with_reducible (change cx_I (_, sx_cpy _ _ _ _ _ _, _))); refine cx_I_cpy rfl rfl rfl (by decide) ?_) | ((with_reducible (change cx_F _ _ (_, sx_cpy _ _ _ _ _ _, _))); refine cx_F_cpy rfl ?_) | ((with_reducible (change cx_F _ _ _)); refine cx_F_step (by assumption) rfl ?_) | ((with_reducible (change rf_f _ _ (sx_uf _ 66 _ _, _))); refine rf_f_uf rfl ?_) | ((with_reducible (change rf_f _ _ _)); exact (fun _ _ => rfl)) | ((with_reducible (change rf_f _ _ (_, sx_ua _ _ _ _, _))); refine rf_f_ua ?_) | ((with_reducible (change rf_f _ _ _)); assumption) | ((with_reducible (change rf_f _ _ _)); refine rf_f_step (by assumption) rfl ?_) | ((with_reducible (change rf_f _ _ _)); refine rf_f_F (by assumption) rfl ?_) | fail)
  all_goals (first | trivial | assumption | omega | (dsimp only at *; omega) | (simp only [sx_w_t] at *; omega) | (subst_vars; omega) | (subst_vars; assumption) | (subst_vars; dsimp only at *; omega) | (subst_vars; dsimp only at *; simp only [sx_w_t] at *; omega) | (simp only [sx_uf_if, sx_ua_if, sx_w_t, true_and, and_true, and_self, and_false, false_and, if_true, if_false, reduceIte] at *; omega) | (subst_vars; simp only [sx_uf_if, sx_ua_if, sx_w_t, true_and, and_true, and_self, and_false, false_and, if_true, if_false, reduceIte] at *; omega) | skip)
section
variable {Ω : Type}
/-- a closed side of an equation, with the unknowns of the text alone -/
def we_RT (E : we_E Ω) (s : sx_S) (g : rf_Gh) (i : Int) : Prop := ∃ (A : rf_N) (x : rf_T), rf_CL s g (fun _ _ => False) A .leaf x [] (1150 + (rf_wh A).1) i (-1) ∧ (∀ v, ¬ (rf_fo (rf_Wd s g.2.2) A).1 v) ∧ vr_t s (we_AR E) A ∧ ∀ m, vx_mt m (vr_1 A) → 0 ≤ m ∧ m < s.1 66 45
/-- there is a solution, and its unknowns are numbered -/
def we_S (E : we_E Ω) (s : sx_S) (g : rf_Gh) : Prop := True → rf_HS s g ∧ we_G E s g ∧ we_N s (wz_al (we_th E) (s.1 66 45).toNat) ∧ s.1 66 89 = 0 ∧ ∀ k : Int, 0 ≤ k → k < s.1 66 47 → we_RT E s g (s.2.1 98 k.toNat) ∧ we_RT E s g (s.2.1 99 k.toNat)
theorem we_RT_up {E : we_E Ω} {s t : sx_S} {g : rf_Gh} (hE : rf_EX (s.1 66 71) (s.1 66 58) s t) (e71 : t.1 66 71 = s.1 66 71) (e58 : t.1 66 58 = s.1 66 58) (e45 : t.1 66 45 = s.1 66 45) (hu : rf_Ub s g) {i : Int} (h : we_RT E s g i) : we_RT E t g i := by
  obtain ⟨A, x, k, hfo, ht, hm⟩ := h
  refine ⟨A, x, rf_CL_up hE (by omega) (by omega) (rf_EG_refl s g) hu k, fun v hv => hfo v ?_, (vr_t_up hE (fun _ _ => rfl)).1 ht, fun m h => by rw [e45]; exact hm m h⟩
  exact (rf_Wd_up hE (fun r q r0 r1 hq => ⟨hq, hu r q r0 r1 hq⟩)).1 ((rf_bn_gn k.1.1).1 _ k.1.2.1) v hv
theorem we_S_up {E : we_E Ω} (hL : we_L E) {s t : sx_S} {g : rf_Gh} (hI : cx_I t) (hE : rf_EX (s.1 66 71) (s.1 66 58) s t) (hN : rf_NC s t) (hO : rf_OD t) (hf : ∀ k, k = 71 ∨ k = 58 ∨ k = 50 ∨ k = 56 ∨ k = 70 ∨ k = 45 ∨ k = 47 ∨ k = 89 ∨ k = 3 → t.1 66 k = s.1 66 k) (ha : ∀ p, 68 ≤ p → p ≤ 99 → t.2.1 p = s.2.1 p) (hn : we_N t (wz_al (we_th E) (s.1 66 45).toNat)) (h : we_S E s g) : we_S E t g := fun _ => by
  obtain ⟨h1, h2, h3, h4, h5⟩ := h trivial
  have e71 := hf 71 (by omega)
  have e58 := hf 58 (by omega)
  have e45 := hf 45 (by omega)
  have e47 := hf 47 (by omega)
  have hM := h1.1.1.2.1
  have hu : rf_Ub s g := fun r q a b c => (hM.1 r a b).2.1 q c
  refine ⟨rf_HS_up hI hE hN hO e71 e58 (hf 50 (by omega)) (hf 56 (by omega)) (hf 70 (by omega)) e45 e47 (ha 98 (by omega) (by omega)) (ha 99 (by omega) (by omega)) h1, we_G_up hL h1.1.1.1 hM hE hN (by omega) ha (hf 3 (by omega)) h2, by rw [e45]; exact hn, by rw [hf 89 (by omega)]; exact h4, fun k k0 k1 => ?_⟩
  obtain ⟨c1, c2⟩ := h5 k k0 (by omega)
  rw [ha 98 (by omega) (by omega), ha 99 (by omega) (by omega)]
  exact ⟨we_RT_up hE e71 e58 e45 hu c1, we_RT_up hE e71 e58 e45 hu c2⟩
/-- what is met in a value is met in its unknowns' -/
theorem we_val_oc {th : Int → rf_N} {AR : Nat → List Int} (hg : ∀ m, vx_on (th m)) {x : Int} : ∀ {A : rf_N} {e : Int → Int} {L : Int}, wz_nn A → wz_oc x (vx_val th AR A e L) → ∃ m, vx_mt m A ∧ wz_oc x (th m)
  | .leaf, _, _, _, h => h.elim
  | .inner j q u F X, e, L, ⟨n1, n2, n3, _⟩, h => by
    have hX : wz_oc x (vx_val th AR X e L) → ∃ m, vx_mt m (.inner j q u F X) ∧ wz_oc x (th m) := fun h => by
      obtain ⟨m, h1, h2⟩ := we_val_oc hg n3 h
      exact ⟨m, Or.inr (Or.inr h1), h2⟩
    have hF : ∀ {e' : Int → Int} {L' : Int}, q.1 ≠ 3 → wz_oc x (vx_val th AR F e' L') → ∃ m, vx_mt m (.inner j q u F X) ∧ wz_oc x (th m) := fun h3 h => by
      obtain ⟨m, h1, h2⟩ := we_val_oc hg (n2 h3) h
      exact ⟨m, Or.inr (Or.inl ⟨h3, h1⟩), h2⟩
    rw [vx_val_in] at h
    by_cases h0 : q.1 = 0
    · rw [if_pos h0, wz_oc_in, if_neg (by decide)] at h
      rcases h with h | h
      · exact hF (by omega) h
      · exact hX h
    · rw [if_neg h0] at h
      by_cases h3 : q.1 = 3
      · rw [if_pos h3, wz_sb_oc (vx_re_on (hg _)), wz_oc_re] at h
        rcases h with h | h
        · exact ⟨q.2, Or.inl ⟨h3, rfl⟩, h⟩
        · exact hX h
      · rw [if_neg h3, wz_oc_in, if_neg (fun c => by
          obtain ⟨c1, c2⟩ := c
          dsimp only at c1 c2
          rw [if_neg (by omega)] at c2
          have := n1 c1
          omega)] at h
        rcases h with h | h
        · exact hF h3 h
        · exact hX h
/-- what papers answers -/
def we_PR (E : we_E Ω) (o0 : Ω) (s : sx_S) (g : rf_Gh) (k eq si z : Int) (t : sx_S) : Prop := ∃ Z : we_A Ω, we_Sp E t Z.2 ∧ ((4000 < t.1 66 86 ∧ z = -1) ∨ (t.1 66 86 ≤ 4000 ∧ z = t.1 66 86)) ∧ ((eq = 0 ∧ Z = (we_W E (vq_lm (rf_aa s k).toNat (we_th E k))).1 0 (wz_al (we_th E) (s.1 66 45).toNat, o0)) ∨ (eq ≠ 0 ∧ ∃ A, rf_no s A (if si = 0 then s.2.1 98 k.toNat else s.2.1 99 k.toNat) ∧ vr_t s (we_AR E) A ∧ (∀ v, ¬ (rf_fo (rf_Wd s g.2.2) A).1 v) ∧ Z = (we_W E (we_V E s A .leaf 0)).1 0 (wz_al (we_th E) (s.1 66 45).toNat, o0)))
def we_PW (E : we_E Ω) (o0 : Ω) (s : sx_S) (g : rf_Gh) (k eq si : Int) (u : sx_S) : Prop := we_N u (wz_al (we_th E) (s.1 66 45).toNat) ∧ ∃ Z : we_A Ω, we_Sp E u Z.2 ∧ ((eq = 0 ∧ Z = (we_W E (vq_lm (rf_aa s k).toNat (we_th E k))).1 0 (wz_al (we_th E) (s.1 66 45).toNat, o0)) ∨ (eq ≠ 0 ∧ ∃ A, rf_no s A (if si = 0 then s.2.1 98 k.toNat else s.2.1 99 k.toNat) ∧ vr_t s (we_AR E) A ∧ (∀ v, ¬ (rf_fo (rf_Wd s g.2.2) A).1 v) ∧ Z = (we_W E (we_V E s A .leaf 0)).1 0 (wz_al (we_th E) (s.1 66 45).toNat, o0)))
theorem c_e_papers {E : we_E Ω} (hL : we_L E) {sL : Nat} {sx : Nat → Int32} (hKE : we_K E sL sx) (hsL : sL ≤ 3072) (d : Nat) (hd : 1620 ≤ d) {o0 : Ω} (h0 : ∀ p : Nat → Int, E.2.1.1 0 p o0) : ∀ (k eq si : Int) (s : sx_S) (g : rf_Gh) (K : Int → sx_S → Prop), we_S E s g → ((eq = 0 ∧ 0 ≤ k ∧ k < s.1 66 45) ∨ (eq = 1 ∧ 0 ≤ k ∧ k < s.1 66 47)) → (-2147483648 ≤ si ∧ si ≤ 2147483647) → (∀ z t, (-1 ≤ z ∧ z ≤ 4000) → rf_PP s t → we_S E t g → we_PR E o0 s g k eq si z t → K z t) → sx_C sL sx d 213 [.inr (.inl 66), .inl k, .inl eq, .inl si] s K := by
  intro k eq si s g K hSe hk psi hK
  obtain ⟨hS, hG, hNa, h89, hRe⟩ := hSe trivial
  obtain ⟨d, rfl⟩ : ∃ e, d = e + 2 := ⟨d - 2, by omega⟩
  obtain ⟨hW, h45, ⟨h50, h56, h71, h58⟩, hR⟩ := hS
  obtain ⟨hW1, hp⟩ := rf_WW_86 hW
  have hI := hW.1.1
  have r45 := hI.fld 66 45 (by decide) rfl
  have r47 := hI.fld 66 47 (by decide) rfl
  have r50 := hI.fld 66 50 (by decide) rfl
  have r56 := hI.fld 66 56 (by decide) rfl
  have r58 := hI.fld 66 58 (by decide) rfl
  have r71 := hI.fld 66 71 (by decide) rfl
  have ef : ∀ q, q ≠ 86 → sx_uf s.1 66 86 0 66 q = s.1 66 q := fun q h1 => by rw [sx_uf_if, if_neg (fun c => h1 c.2)]
  have n50 := ef 50 (by decide)
  have n56 := ef 56 (by decide)
  have n58 := ef 58 (by decide)
  have n61 := ef 61 (by decide)
  have n71 := ef 71 (by decide)
  obtain ⟨hE1, hN1⟩ := rf_WF_EX hp
  have hp0 := hp
  obtain ⟨⟨b1, b2, _⟩, _⟩ := hp0
  have n45 := ef 45 (by decide)
  have hG1 := we_G_WF hL hW hp hG
  have hN1' : we_N (sx_uf s.1 66 86 0, s.2) (wz_al (we_th E) (s.1 66 45).toNat) := we_N_same (ef 79 (by decide)) n61 (fun _ _ => rfl) hNa
  have hS1 : we_Sp E (sx_uf s.1 66 86 0, s.2) o0 := by
    show E.2.1.1 (sx_uf s.1 66 86 0 66 86) (s.2.1 122) o0
    rw [sx_uf_if, if_pos ⟨rfl, rfl⟩]
    exact h0 _
  have hst : ∀ (v T : rf_N) (f : we_A Ω → we_A Ω), (∀ x, wz_oc x v → x ∈ (wz_al (we_th E) (s.1 66 45).toNat).map Prod.fst) → we_J E (f (wz_al (we_th E) (s.1 66 45).toNat, o0)) (fun _ => False) (sx_uf s.1 66 86 0, s.2) v T f := fun v T f hv => ⟨(wz_al (we_th E) (s.1 66 45).toNat, o0), fun _ => False, ⟨hN1', hS1⟩, rfl, fun _ => ⟨fun _ x hx => hv x hx, fun c => absurd ((ef 89 (by decide)).trans h89) c⟩⟩
  refine sx_methL (wr := true) (n := 400) (n' := 400) (stop := [(66, [0, 4, 5, 6, 7])]) (fun ms pc ls u => pc = 66 ∧ ∃ a b c e : Int, ls = [(0, .inr (.inl 66)), (4, .inl a), (5, .inl b), (6, .inl c), (7, .inl e)] ∧ (a = s.1 66 50 ∧ b = s.1 66 56 ∧ c = s.1 66 58 ∧ e = s.1 66 71) ∧ (cx_I u ∧ rf_EX (s.1 66 71) (s.1 66 58) s u ∧ rf_NC s u ∧ rf_OD u) ∧ cx_F [(66, 66), (100, 107), (115, 122)] s u ∧ rf_f [50, 56, 58, 71, 79, 83, 86] s u ∧ we_PW E o0 s g k eq si u) hsL (e := eX12_papers) rfl ?_ ?_
  · have hroot : ∀ i : Int, (eq ≠ 0 ∧ i = if si = 0 then s.2.1 98 k.toNat else s.2.1 99 k.toNat) → we_RT E s g i → ∀ K' : Int → sx_S → Prop, (∀ z t, ((cx_I t ∧ rf_EX (s.1 66 71) (s.1 66 58) s t ∧ rf_NC s t ∧ rf_OD t) ∧ cx_F [(66, 66), (100, 107), (115, 122)] s t ∧ rf_f [50, 56, 58, 71, 79, 83, 86] s t ∧ we_PW E o0 s g k eq si t) → K' z t) → sx_C sL sx (d + 1) 209 [.inr (.inl 66), .inl i, .inl (-1), .inl 0] (sx_uf s.1 66 86 0, s.2) K' := by
      rintro i ⟨heq, hsi⟩ ⟨A, x, hC, hfo, hVt, hmt⟩ K' hK'
      have hu : rf_Ub s g := fun r q h1 h2 h3 => (hW.1.2.1.1 r h1 h2).2.1 q h3
      have hCu := (rf_CL_put (dp := 0) hu hp n71 n58 hC (fun v hv => absurd hv (hfo v)))
      have hA := hC.2.2.1
      have hnn : wz_nn (vr_1 A) := (we_nn we_Hn1).1 _ hC.1.2.1
      have hVo := we_V_ok (E := E) hI hG hVt hnn .leaf 0
      have hVn := we_V_on (E := E) hG hVt .leaf 0
      have hgs : ∀ m, vx_on (we_th E m) := fun m => ((hG trivial).1.2.1 m).1
      have hin : ∀ x, wz_oc x (we_V E s A .leaf 0) → x ∈ (wz_al (we_th E) (s.1 66 45).toNat).map Prod.fst := fun x hx => by
        rw [wz_al_mem]
        obtain ⟨m, m1, m2⟩ := we_val_oc hgs hnn (wz_oc_re.mp hx)
        have := hmt m m1
        exact ⟨m, by omega, m2⟩
      have eV : we_V E (sx_uf s.1 66 86 0, s.2) A .leaf 0 = we_V E s A .leaf 0 := (we_V_eq (E := E) n58 (hG trivial).2.2.2.2.2.1 (fun _ _ => rfl)).1
      refine c_e_write hL hKE hsL 1450 (d + 1) (by omega) _ (fun _ => False) (fun _ _ => False) A .leaf x [] (1150 + (rf_wh A).1) 1450 i (-1) 0 _ _ _ g K' hW1 hCu.1 (Or.inr ⟨rfl, by omega⟩) (by omega) hCu.2 (by omega) (by dsimp only; omega) (by dsimp only; omega) hG1 ((vr_t_up hE1 (fun _ _ => rfl)).1 hVt) (by rw [eV]; exact hst _ _ _ hin) (fun z t c1 c2 c3 c4 c5 c6 => hK' z t ?_)
      obtain ⟨hE2, hN2⟩ := rf_WF_EX c2
      obtain ⟨⟨x1, x2, x3⟩, _, x8, x9, _⟩ := c2
      obtain ⟨⟨y1, y2⟩, _⟩ := c6 trivial
      rw [we_W_acc hVo hVn, wz_go_sub hin] at y1
      exact ⟨⟨c1, rf_EX_trans hE2 hE1 (by dsimp only; omega) (by dsimp only; omega), ⟨hN2.1.trans hN1.1, fun j hj => (hN2.2 j (by rw [hN1.1]; exact hj)).trans (hN1.2 j hj)⟩, c3⟩, cx_F_step x1 rfl (cx_F_step b1 rfl (cx_F_refl _ _)), rf_f_step x2 rfl (rf_f_step b2 rfl (rf_f_refl _ _)), y1, _, y2, Or.inr ⟨heq, A, by rw [← hsi]; exact hC.1.1, hVt, hfo, rfl⟩⟩
    refine w_papers (PW := fun t => (cx_I t ∧ rf_EX (s.1 66 71) (s.1 66 58) s t ∧ rf_NC s t ∧ rf_OD t) ∧ cx_F [(66, 66), (100, 107), (115, 122)] s t ∧ rf_f [50, 56, 58, 71, 79, 83, 86] s t ∧ we_PW E o0 s g k eq si t) hI (by omega) (by omega) psi (fun h1 h2 u hu K' hK' => ?_) (fun h1 h2 u hu K' hK' => ?_) (fun h1 K' hK' => ?_) (fun t ht a b c e ha hb hc he => ⟨0, rfl, a, b, c, e, rfl, ⟨ha, hb, hc, he⟩, ht⟩)
    · rw [hu]
      exact hroot _ ⟨h1, (if_pos h2).symm⟩ (hRe k (by omega) (by omega)).1 K' hK'
    · rw [hu]
      exact hroot _ ⟨h1, (if_neg h2).symm⟩ (hRe k (by omega) (by omega)).2 K' hK'
    · have hin : ∀ x, wz_oc x (we_th E k) → x ∈ (wz_al (we_th E) (s.1 66 45).toNat).map Prod.fst := fun x hx => by
        rw [wz_al_mem]
        exact ⟨k, by omega, hx⟩
      refine c_e_wunk hL hKE hsL (d + 1) (by omega) _ (fun _ => False) k _ _ _ g K' hW1 ⟨by omega, by dsimp only; omega⟩ (by dsimp only; omega) (by dsimp only; omega) (by dsimp only; omega) (by dsimp only; omega) hG1 (hst _ _ _ hin) (fun z t h h6 => hK' z t ?_)
      obtain ⟨⟨x1, x2, x3, x4⟩, ⟨y1, y2⟩, z1, z2, z3, z4, z5⟩ := h
      obtain ⟨⟨v1, v2⟩, _⟩ := h6 trivial
      obtain ⟨⟨_, GS⟩, _, Gok, _⟩ := hG trivial
      rw [we_lm_acc (Gok k (by omega) (by omega)) (GS.1 k).1, wz_go_sub hin] at v1
      exact ⟨⟨x1, rf_EX_trans x2 hE1 (by dsimp only; omega) (by dsimp only; omega), ⟨x3.1.trans hN1.1, fun j hj => (x3.2 j (by rw [hN1.1]; exact hj)).trans (hN1.2 j hj)⟩, x4⟩, cx_F_step y1 rfl (cx_F_step b1 rfl (cx_F_refl _ _)), rf_f_step y2 rfl (rf_f_step b2 rfl (rf_f_refl _ _)), v1, _, v2, Or.inl ⟨h1, rfl⟩⟩
  · rintro ms pc ls u ⟨rfl, a, b, c, e, rfl, ⟨ha, hb, hc, he⟩, ⟨u1, u2, u3, u4⟩, u5, u6, u7, Z, u8, u9⟩
    refine w_e_papers_66 u1 (by omega) (by omega) (by omega) (by omega) (fun z hz hz2 => ?_)
    have hPP := rf_PP_0 u1 u2 u3 u4 u5 u6 (by omega) (by omega) (by omega) (by omega) ha hb hc he
    have o : ∀ q, q ≠ 50 → q ≠ 56 → q ≠ 58 → q ≠ 71 → sx_uf (sx_uf (sx_uf (sx_uf u.1 66 50 a) 66 56 b) 66 58 c) 66 71 e 66 q = u.1 66 q := fun q h1 h2 h3 h4 => by
      rw [sx_uf_if, if_neg (fun c => h4 c.2), sx_uf_if, if_neg (fun c => h3 c.2), sx_uf_if, if_neg (fun c => h2 c.2), sx_uf_if, if_neg (fun c => h1 c.2)]
    obtain ⟨⟨p1, p2, p3, p4⟩, p5, p6⟩ := hPP
    refine hK z _ hz ⟨⟨p1, p2, p3, p4⟩, p5, p6⟩ (we_S_up hL p1 p2 p3 p4 (fun q hq => ?_) (fun p h1 h2 => ((p5 p).1 (fun q hq => by
      simp only [List.mem_cons, List.not_mem_nil, or_false] at hq
      rcases hq with rfl | rfl | rfl <;> (dsimp only; omega))).2) (we_N_same (o 79 (by decide) (by decide) (by decide) (by decide)) (o 61 (by decide) (by decide) (by decide) (by decide)) (fun _ _ => rfl) u7) hSe) ⟨Z, ?_, ?_, u9⟩
    · refine p6 q ?_
      rcases hq with rfl | rfl | rfl | rfl | rfl | rfl | rfl | rfl | rfl <;> rfl
    · show E.2.1.1 (sx_uf (sx_uf (sx_uf (sx_uf u.1 66 50 a) 66 56 b) 66 58 c) 66 71 e 66 86) (u.2.1 122) Z.2
      rw [o 86 (by decide) (by decide) (by decide) (by decide)]
      exact u8
    · show (4000 < sx_uf (sx_uf (sx_uf (sx_uf u.1 66 50 a) 66 56 b) 66 58 c) 66 71 e 66 86 ∧ z = -1) ∨ (sx_uf (sx_uf (sx_uf (sx_uf u.1 66 50 a) 66 56 b) 66 58 c) 66 71 e 66 86 ≤ 4000 ∧ z = sx_uf (sx_uf (sx_uf (sx_uf u.1 66 50 a) 66 56 b) 66 58 c) 66 71 e 66 86)
      rw [o 86 (by decide) (by decide) (by decide) (by decide)]
      exact hz2
theorem c_e_size {E : we_E Ω} (hL : we_L E) {sL : Nat} {sx : Nat → Int32} (hKE : we_K E sL sx) (hsL : sL ≤ 3072) (d : Nat) (hd : 1630 ≤ d) {o0 : Ω} (h0 : ∀ p : Nat → Int, E.2.1.1 0 p o0) : ∀ (k : Int) (s : sx_S) (g : rf_Gh) (K : Int → sx_S → Prop), cx_I s → (-2147483648 ≤ k ∧ k ≤ 2147483647) → (s.1 66 78 ≠ 0 → we_S E s g) → (∀ z t, (-1 ≤ z ∧ z ≤ 4000) → (t = s ∨ (s.1 66 78 ≠ 0 ∧ rf_PP s t ∧ we_S E t g)) → K z t) → sx_C sL sx d 215 [.inr (.inl 66), .inl k] s K := by
  intro k s g K hI pk hS hK
  obtain ⟨d, rfl⟩ : ∃ e, d = e + 2 := ⟨d - 2, by omega⟩
  refine sx_meth (wr := true) (n := 400) hsL (e := eX12_size) rfl (w_size (Q := fun _ _ _ => False) (PP := fun z t => (-1 ≤ z ∧ z ≤ 4000) ∧ s.1 66 78 ≠ 0 ∧ rf_PP s t ∧ we_S E t g) hI pk (fun h1 h2 K' hK' => c_e_papers hL hKE hsL (d + 1) (by omega) h0 k 0 0 s g K' (hS h1) (Or.inl ⟨rfl, h2⟩) (by omega) (fun z t hz hp hs _ => hK' z t ⟨hz, h1, hp, hs⟩)) (fun z t h => hK z t h.1 (Or.inr h.2)) (hK (-1) s (by omega) (Or.inl rfl)))
theorem c_e_side {E : we_E Ω} (hL : we_L E) {sL : Nat} {sx : Nat → Int32} (hKE : we_K E sL sx) (hsL : sL ≤ 3072) (d : Nat) (hd : 1630 ≤ d) {o0 : Ω} (h0 : ∀ p : Nat → Int, E.2.1.1 0 p o0) : ∀ (k i : Int) (s : sx_S) (g : rf_Gh) (K : Int → sx_S → Prop), cx_I s → (-2147483648 ≤ k ∧ k ≤ 2147483647) → (-2147483648 ≤ i ∧ i ≤ 2147483647) → (s.1 66 78 ≠ 0 → we_S E s g) → (∀ z t, (-1 ≤ z ∧ z ≤ 4000) → (t = s ∨ (s.1 66 78 ≠ 0 ∧ rf_PP s t ∧ we_S E t g)) → K z t) → sx_C sL sx d 217 [.inr (.inl 66), .inl k, .inl i] s K := by
  intro k i s g K hI pk pi hS hK
  obtain ⟨d, rfl⟩ : ∃ e, d = e + 2 := ⟨d - 2, by omega⟩
  refine sx_meth (wr := true) (n := 400) hsL (e := eX12_side) rfl (w_side (Q := fun _ _ _ => False) (PP := fun z t => (-1 ≤ z ∧ z ≤ 4000) ∧ s.1 66 78 ≠ 0 ∧ rf_PP s t ∧ we_S E t g) hI pk pi (fun h1 h2 h3 K' hK' => c_e_papers hL hKE hsL (d + 1) (by omega) h0 k 1 i s g K' (hS h1) (Or.inr ⟨rfl, h2⟩) pi (fun z t hz hp hs _ => hK' z t ⟨hz, h1, hp, hs⟩)) (fun z t h => hK z t h.1 (Or.inr h.2)) (hK (-1) s (by omega) (Or.inl rfl)))
theorem c_e_sideLetter {E : we_E Ω} (hL : we_L E) {sL : Nat} {sx : Nat → Int32} (hKE : we_K E sL sx) (hsL : sL ≤ 3072) (d : Nat) (hd : 1640 ≤ d) {o0 : Ω} (h0 : ∀ p : Nat → Int, E.2.1.1 0 p o0) : ∀ (k j i : Int) (s : sx_S) (g : rf_Gh) (K : Int → sx_S → Prop), cx_I s → (-2147483648 ≤ k ∧ k ≤ 2147483647) → (-2147483648 ≤ j ∧ j ≤ 2147483647) → (-2147483648 ≤ i ∧ i ≤ 2147483647) → (s.1 66 78 ≠ 0 → we_S E s g) → (∀ z t, (-2147483648 ≤ z ∧ z ≤ 2147483647) → (t = s ∨ (s.1 66 78 ≠ 0 ∧ rf_PP s t ∧ we_S E t g)) → K z t) → sx_C sL sx d 218 [.inr (.inl 66), .inl k, .inl j, .inl i] s K := by
  intro k j i s g K hI pk pj pi hS hK
  obtain ⟨d, rfl⟩ : ∃ e, d = e + 2 := ⟨d - 2, by omega⟩
  refine sx_meth (wr := true) (n := 400) hsL (e := eX12_sideLetter) rfl (w_sideLetter (Q := fun _ _ _ => False) (PS := fun z t => (-1 ≤ z ∧ z ≤ 4000) ∧ (t = s ∨ (s.1 66 78 ≠ 0 ∧ rf_PP s t ∧ we_S E t g))) pi (fun K' hK' => c_e_side hL hKE hsL (d + 1) (by omega) h0 k j s g K' hI pk pj hS (fun z t hz hp => hK' z t ⟨hz, hp⟩)) (fun z t h => ⟨?_, h.1⟩) (fun z t h w hw => hK w t hw h.2))
  rcases h.2 with rfl | h3
  · exact hI
  · exact h3.2.1.1.1
end
end
