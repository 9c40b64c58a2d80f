/-! ===== the reference: write, with what it writes ===== -/
section
variable {Ω : Type}
set_option maxRecDepth 8000 in
theorem we_wt_ok {E : we_E Ω} (hL : we_L E) {sL : Nat} {sx : Nat → Int32} (hKE : we_K E sL sx) (hsL : sL ≤ 3072) {aM : Bool} {H d : Nat} (hd : H + 129 ≤ d) (ih : we_T E sL sx aM H (d + 1)) (hfr : aM = true → 124 ≤ d ∧ we_T E sL sx false 9 (d - 1)) : we_T E sL sx aM (H + 1) (d + 2) := by
  intro Z P N0 A0 y0 x W0 p0 q i b dp nb ib s g K hW k0 hok hqH hDI hdp h71 h58 hG hVt hJ hK
  obtain ⟨kP, kN, kM, kA⟩ := hKE trivial
  have hG58 := (hG trivial).2.2.2.2.2.1
  have hI := hW.1.1
  have hO := hW.2.2.2.2.2
  have r42 := hI.fld 66 42 (by decide) rfl
  refine sx_methW (wr := true) (n := 400) (n' := 400) (stop := [(14, [0, 3, 4, 5]), (63, [0, 3, 4, 5]), (103, [0, 3, 4, 5]), (131, [0, 3, 4, 5, 6]), (138, [0, 3, 4, 5, 6]), (168, [0, 3, 4, 5]), (189, [0, 3, 4, 5]), (243, [0, 3, 4, 5]), (252, [0, 3, 5, 6]), (264, [0, 3, 5, 6]), (274, [0, 3, 5, 6, 7]), (285, [0, 3, 5, 6, 7]), (318, [0, 3, 5, 6, 7]), (329, [0, 3, 5, 6])]) (fun ms pc ls u => (pc = 14 ∧ ∃ (N : Int → rf_T → Prop) (A : rf_N) (y : rf_Y) (W : List Nat) (p q' : Nat) (x4 x5 : Int), ls = [(0, .inr (.inl 66)), (3, .inl dp), (4, .inl x4), (5, .inl x5)] ∧ rf_W4 aM s u g x dp q N A y W p q' x4 x5 ∧ we_4 E Z P u A y dp ∧ ms = (9, 2 * p + 1)) ∨ (pc = 63 ∧ ∃ (N : Int → rf_T → Prop) (A : rf_N) (y : rf_Y) (W : List Nat) (p q' : Nat) (x4 x5 : Int), ls = [(0, .inr (.inl 66)), (3, .inl dp), (4, .inl x4), (5, .inl x5)] ∧ rf_W4 aM s u g x dp q N A y W p q' x4 x5 ∧ we_4 E Z P u A y dp ∧ u.2.1 100 x4.toNat = 3 ∧ u.2.1 111 (u.2.1 101 x4.toNat).toNat ≠ 0 ∧ ms = (9, 2 * p)) ∨ (pc = 103 ∧ ∃ (N : Int → rf_T → Prop) (A : rf_N) (y : rf_Y) (W : List Nat) (p q' : Nat) (x4 x5 : Int), ls = [(0, .inr (.inl 66)), (3, .inl dp), (4, .inl x4), (5, .inl x5)] ∧ rf_W4 aM s u g x dp q N A y W p q' x4 x5 ∧ we_4 E Z P u A y dp ∧ rf_op u x4 ∧ ms = (8, 0)) ∨ (pc = 131 ∧ ∃ (N : Int → rf_T → Prop) (A : rf_N) (y : rf_Y) (W : List Nat) (p q' : Nat) (x4 x5 : Int) (x6 : Int) (u0 : sx_S), ls = [(0, .inr (.inl 66)), (3, .inl dp), (4, .inl x4), (5, .inl x5), (6, .inl x6)] ∧ rf_W4 aM s u0 g x dp q N A y W p q' x4 x5 ∧ we_4 E Z P u0 A y dp ∧ u0.2.1 100 x4.toNat = 0 ∧ rf_V1 u0 u x4 x6 ∧ ms = (7, 0)) ∨ (pc = 138 ∧ ∃ (N : Int → rf_T → Prop) (A : rf_N) (y : rf_Y) (W : List Nat) (p q' : Nat) (x4 x5 : Int) (x6 : Int) (u0 u1 : sx_S), ls = [(0, .inr (.inl 66)), (3, .inl dp), (4, .inl x4), (5, .inl x5), (6, .inl x6)] ∧ rf_W4 aM s u0 g x dp q N A y W p q' x4 x5 ∧ we_4 E Z P u0 A y dp ∧ u0.2.1 100 x4.toNat = 0 ∧ rf_V1 u0 u1 x4 x6 ∧ rf_V2 u1 u x6 dp ∧ (∀ o, we_Sp E u1 o → we_Sp E u ((92 :: 120 :: (E.1.2.1 dp ++ [46])).foldl (fun o c => E.1.1 c o) o)) ∧ ms = (6, 0)) ∨ (pc = 168 ∧ ∃ (N : Int → rf_T → Prop) (A : rf_N) (y : rf_Y) (W : List Nat) (p q' : Nat) (x4 x5 : Int), ls = [(0, .inr (.inl 66)), (3, .inl dp), (4, .inl x4), (5, .inl x5)] ∧ rf_W4 aM s u g x dp q N A y W p q' x4 x5 ∧ we_4 E Z P u A y dp ∧ rf_op u x4 ∧ u.2.1 100 x4.toNat ≠ 0 ∧ ms = (5, 0)) ∨ (pc = 189 ∧ ∃ (N : Int → rf_T → Prop) (A : rf_N) (y : rf_Y) (W : List Nat) (p q' : Nat) (x4 x5 : Int), ls = [(0, .inr (.inl 66)), (3, .inl dp), (4, .inl x4), (5, .inl x5)] ∧ rf_W4 aM s u g x dp q N A y W p q' x4 x5 ∧ we_4 E Z P u A y dp ∧ rf_hk u x4 ∧ ms = (4, 0)) ∨ (pc = 243 ∧ ∃ (N : Int → rf_T → Prop) (A : rf_N) (y : rf_Y) (W : List Nat) (p q' : Nat) (x4 x5 : Int), ls = [(0, .inr (.inl 66)), (3, .inl dp), (4, .inl x4), (5, .inl x5)] ∧ rf_W4 aM s u g x dp q N A y W p q' x4 x5 ∧ we_5 E Z P u (wz_F A) y dp ∧ rf_hk u x4 ∧ ms = (3, 0)) ∨ (pc = 252 ∧ ∃ (N : Int → rf_T → Prop) (f : rf_N) (y : rf_Y) (w : rf_T) (W : List Nat) (p q' : Nat) (x5 x6 : Int), ls = [(0, .inr (.inl 66)), (3, .inl dp), (5, .inl x5), (6, .inl x6)] ∧ rf_WR aM s u g dp q N f y w W p q' x5 x6 ∧ we_5 E Z P u f y dp ∧ ms = (2, 10 * rf_len f + 9)) ∨ (pc = 264 ∧ ∃ (N : Int → rf_T → Prop) (f : rf_N) (y : rf_Y) (w : rf_T) (W : List Nat) (p q' : Nat) (x5 x6 : Int), ls = [(0, .inr (.inl 66)), (3, .inl dp), (5, .inl x5), (6, .inl x6)] ∧ rf_WR aM s u g dp q N f y w W p q' x5 x6 ∧ we_6a E Z P u f y dp ∧ x6 ≠ -1 ∧ ms = (2, 10 * rf_len f + 8)) ∨ (pc = 274 ∧ ∃ (N : Int → rf_T → Prop) (f : rf_N) (y : rf_Y) (w : rf_T) (W : List Nat) (p q' : Nat) (x5 x6 : Int) (x7 : Int), ls = [(0, .inr (.inl 66)), (3, .inl dp), (5, .inl x5), (6, .inl x6), (7, .inl x7)] ∧ rf_WR aM s u g dp q N f y w W p q' x5 x6 ∧ (we_6a E Z P u f y dp ∧ (x7 ≠ 0 ↔ we_bk (we_V E u f y dp))) ∧ x6 ≠ -1 ∧ (0 ≤ x7 ∧ x7 ≤ 1) ∧ ms = (2, 10 * rf_len f + 7)) ∨ (pc = 285 ∧ ∃ (N : Int → rf_T → Prop) (f : rf_N) (y : rf_Y) (w : rf_T) (W : List Nat) (p q' : Nat) (x5 x6 : Int) (x7 : Int), ls = [(0, .inr (.inl 66)), (3, .inl dp), (5, .inl x5), (6, .inl x6), (7, .inl x7)] ∧ rf_WR aM s u g dp q N f y w W p q' x5 x6 ∧ we_6b E Z P u f y dp x7 ∧ x6 ≠ -1 ∧ (0 ≤ x7 ∧ x7 ≤ 1) ∧ ms = (2, 10 * rf_len f + 6)) ∨ (pc = 318 ∧ ∃ (N : Int → rf_T → Prop) (f : rf_N) (y : rf_Y) (w : rf_T) (W : List Nat) (p q' : Nat) (x5 x6 : Int) (x7 : Int), ls = [(0, .inr (.inl 66)), (3, .inl dp), (5, .inl x5), (6, .inl x6), (7, .inl x7)] ∧ rf_WR aM s u g dp q N f y w W p q' x5 x6 ∧ we_6c E Z P u f y dp x7 ∧ x6 ≠ -1 ∧ (0 ≤ x7 ∧ x7 ≤ 1) ∧ ms = (2, 10 * rf_len f + 5)) ∨ (pc = 329 ∧ ∃ (N : Int → rf_T → Prop) (f : rf_N) (y : rf_Y) (w : rf_T) (W : List Nat) (p q' : Nat) (x5 x6 : Int), ls = [(0, .inr (.inl 66)), (3, .inl dp), (5, .inl x5), (6, .inl x6)] ∧ rf_WR aM s u g dp q N f y w W p q' x5 x6 ∧ we_6d E Z P u f y dp ∧ x6 ≠ -1 ∧ ms = (2, 10 * rf_len f + 4))) hsL (e := eX12_write) rfl ?_ ?_
  · refine w_e_write (fun K' hK' => c_e_isFull hsL (d + 1) (by omega) s K' hI hK') (fun q1 q2 => hK 0 s hI (rf_WF_refl s) hO (by omega) (by omega) (we_4_full hL hI hG ((we_nn we_Hn1).1 _ k0.1.2.1) q1 q2 ⟨hVt, hJ⟩)) ⟨_, Or.inl (⟨rfl, N0, A0, y0, W0, p0, q, i, b, rfl, ⟨⟨⟨hI, rf_WF_refl s, hO⟩, ⟨by omega, rfl⟩, Nat.le_refl _⟩, k0, hok, hDI⟩, ⟨hVt, hJ⟩, rfl⟩)⟩
  · rintro ms pc ls u (⟨rfl, N, A, y, W, p, q', x4, x5, rfl, h4, hY, rfl⟩ | ⟨rfl, N, A, y, W, p, q', x4, x5, rfl, h4, hY, hk3, hs, rfl⟩ | ⟨rfl, N, A, y, W, p, q', x4, x5, rfl, h4, hY, hop, rfl⟩ | ⟨rfl, N, A, y, W, p, q', x4, x5, x6, u0, rfl, h4, hY, hk0, hV, rfl⟩ | ⟨rfl, N, A, y, W, p, q', x4, x5, x6, u0, u1, rfl, h4, hY, hk0, hV, hV2, hV3, rfl⟩ | ⟨rfl, N, A, y, W, p, q', x4, x5, rfl, h4, hY, hop, hk0, rfl⟩ | ⟨rfl, N, A, y, W, p, q', x4, x5, rfl, h4, hY, hhk, rfl⟩ | ⟨rfl, N, A, y, W, p, q', x4, x5, rfl, h4, hY, hhk, rfl⟩ | ⟨rfl, N, f, y, w, W, p, q', x5, x6, rfl, hR, hY, rfl⟩ | ⟨rfl, N, f, y, w, W, p, q', x5, x6, rfl, hR, hY, hx6, rfl⟩ | ⟨rfl, N, f, y, w, W, p, q', x5, x6, x7, rfl, hR, hY, hx6, h7, rfl⟩ | ⟨rfl, N, f, y, w, W, p, q', x5, x6, x7, rfl, hR, hY, hx6, h7, rfl⟩ | ⟨rfl, N, f, y, w, W, p, q', x5, x6, x7, rfl, hR, hY, hx6, h7, rfl⟩ | ⟨rfl, N, f, y, w, W, p, q', x5, x6, rfl, hR, hY, hx6, rfl⟩)
    · -- 14
      have h40 := h4
      obtain ⟨⟨⟨u1, u2, u3⟩, ⟨b71, b58⟩, bq⟩, k, hok', kD⟩ := h4
      have hWu := rf_WW_up hW u1 u2 u3
      have h61u := hWu.2.2.1
      have pA := rf_CL_b u1 k
      have hGu := we_G_WF hL hW u2 hG
      exact w_e_write_14 u1 pA (fun z => by have := (rf_CL_3 k z).1; omega) (fun h3 hs h89 h119 => hK 0 u u1 u2 u3 (by omega) (by omega) (by
        obtain ⟨hr, hbn, hx, j, kk, uu, f, n, eA, ej, k3, ek⟩ := rf_CL_3 k h3
        subst eA
        rw [← ek] at hr h119
        exact we_4_skip hL u1 hGu ((we_nn we_Hn1).1 _ k.1.2.1) k3 hr h89 h119 hY)) (fun h3 hs => ⟨_, rf_lex2 (by omega), Or.inr (Or.inl (⟨rfl, N, A, y, W, p, q', x4, x5, rfl, h40, hY, h3, hs, rfl⟩))⟩) (fun hx => ⟨_, rf_lex1 (by decide), Or.inr (Or.inr (Or.inl (⟨rfl, N, A, y, W, p, q', x4, x5, rfl, h40, hY, hx, rfl⟩)))⟩)
    · -- 63
      obtain ⟨⟨⟨u1, u2, u3⟩, ⟨b71, b58⟩, bq⟩, k, hok', kD⟩ := h4
      have hWu := rf_WW_up hW u1 u2 u3
      obtain ⟨⟨_, hMu, hnb, hib, hph⟩, h70, h61, _, _, _⟩ := hWu
      have pA := rf_CL_b u1 k
      obtain ⟨hr, hbn, hx, j, kk, uu, f, n, eA, ej, k3, ek⟩ := rf_CL_3 k hk3
      subst eA
      subst hx
      rw [← ek] at hr hbn hs
      have haM : aM = true ∧ p + 100 ≤ q' := hok'.elim (fun z => absurd (Or.inl ⟨k3, rfl⟩) (z.1 kk.2)) id
      have kN0 := k.1.2.2.2
      have dY : rf_dp y ≤ 100 := by have := kN0.2.2.2; omega
      have hSV := (hMu.1 kk.2 hr.1 hr.2).2.2.2 hs
      obtain ⟨_, ⟨sb1, _⟩, ⟨⟨sc1, sc2⟩, sc3, _⟩, _⟩ := hSV
      have raa : rf_aa u kk.2 = u.2.1 108 kk.2.toNat := rfl
      have r56 := u1.fld 66 56 (by decide) rfl
      have r108 := u1.arr 108 (by decide) rfl kk.2.toNat
      have hdi : rf_di u g.2.2 j kk.2 := k.2.1.1.1 k3
      refine w_write_63 (PE := fun xx z t => (xx = kk.2 ∧ cx_I t ∧ cx_F [(66, 66), (115, 117)] (u.1, sx_ua u.2.1 119 kk.2.toNat 1, u.2.2) t) ∧ rf_f [71] u t ∧ rf_ag 115 117 (u.1 66 71) u t ∧ (u.1 66 71 ≤ t.1 66 71 ∧ t.1 66 71 ≤ u.1 66 71 + u.2.1 108 kk.2.toNat + 1) ∧ rf_bs t (rf_bh (g.2.1 kk.2) (rf_row (rf_fm u kk.2) (rf_vo u y x4) (rf_aa u kk.2).toNat)) z) u1 pA (by rw [← ek]; omega) ?_ ?_ ?_
      · intro xx hxx K' hK'
        rw [← ek] at hxx
        subst hxx
        have hI2 : cx_I (u.1, sx_ua u.2.1 119 kk.2.toNat 1, u.2.2) := cx_I_ua rfl rfl u1 (by decide) (by decide)
        have o : ∀ q, q ≠ 119 → sx_ua u.2.1 119 kk.2.toNat 1 q = u.2.1 q := fun q hq => sx_ua_ne hq
        have y1 : rf_bs (u.1, sx_ua u.2.1 119 kk.2.toNat 1, u.2.2) y x5 := by
          unfold rf_bs
          dsimp only
          rw [o 115 (by decide), o 116 (by decide), o 117 (by decide)]
          exact kN0.1
        have y2 : rf_bs (u.1, sx_ua u.2.1 119 kk.2.toNat 1, u.2.2) (g.2.1 kk.2) (((u.1, sx_ua u.2.1 119 kk.2.toNat 1, u.2.2) : sx_S).2.1 114 kk.2.toNat) := by
          unfold rf_bs
          dsimp only
          rw [o 115 (by decide), o 116 (by decide), o 117 (by decide), o 114 (by decide)]
          exact rf_by_mono (fun _ _ => ⟨rfl, rfl, rfl⟩) hnb sb1
        refine c_r_enter hsL 100 (d + 1) (by omega) y (g.2.1 kk.2) x4 x5 kk.2 _ K' hI2 pA (by dsimp only; rw [o 101 (by decide)]; exact ek) (by omega) (by dsimp only; omega) (fun r hq => ?_) dY y1 y2 (fun z t c1 c2 c3 c4 c5 c6 => hK' z t ⟨⟨rfl, c1, c2⟩, c3, ?_, ?_, c6⟩)
        · dsimp only at hq ⊢
          rw [o 108 (by decide)] at hq
          rw [o 112 (by decide), o 104 (by decide), o 105 (by decide)]
          refine ⟨by omega, by omega, ?_⟩
          have := sc3 r (by omega)
          unfold rf_fm at this
          rcases this with ⟨T, _, t2⟩ | z
          · have := t2.1.1
            omega
          · omega
        · intro r jj h1 h2 h3
          rw [c4 r jj h1 h2 h3]
          dsimp only
          rw [o r (by omega)]
        · dsimp only at c5
          rw [o 108 (by decide)] at c5
          exact c5
      · rintro xx z t ⟨⟨_, c1, c2⟩, _⟩
        refine ⟨c1, (c2.same 101 rfl).2.trans ?_⟩
        show sx_ua u.2.1 119 kk.2.toNat 1 101 = u.2.1 101
        rw [sx_ua_ne (by decide)]
      · rintro xx hxx z t ⟨⟨_, c1, c2⟩, c3, c4, c5, c6⟩ v hv
        rw [← ek] at hv
        have s119 := rf_WF_seen (s := u) (n := kk.2.toNat) (v := 1)
        have n119 := rf_WF_name c2 c3 (fun r jj h1 h2 h3 => by
          rw [c4 r jj h1 h2 h3]
          show _ = sx_ua u.2.1 119 kk.2.toNat 1 r jj
          rw [sx_ua_ne (by omega)]) c5.1
        have hWF : rf_WF u t := rf_WF_trans n119.1 s119
        obtain ⟨hE, hN⟩ := rf_WF_EX hWF
        have e58 := c3 58 rfl
        have e107 : t.2.1 107 = u.2.1 107 := (c2.same 107 rfl).2.trans (by show sx_ua u.2.1 119 kk.2.toNat 1 107 = _; rw [sx_ua_ne (by decide)])
        have e113 : t.2.1 113 = u.2.1 113 := (c2.same 113 rfl).2.trans (by show sx_ua u.2.1 119 kk.2.toNat 1 113 = _; rw [sx_ua_ne (by decide)])
        have hO2 : rf_OD (u.1, sx_ua u.2.1 119 kk.2.toNat 1, u.2.2) := rf_OD_same u3 rfl rfl rfl (fun r hr => sx_ua_ne (by omega))
        obtain ⟨_, c7, kc⟩ := rf_CL_en (t := t) (z := z) hMu hib hph k k3 hs hE c5.1 e58 c6
        have hDI2 := rf_DI_en (i := x4) hMu ej k3 hr hs hdi hE hib e107 kD
        rw [e113] at hv
        rw [hv]
        have hGu := we_G_WF hL hW u2 hG
        refine ⟨_, rf_lex2 (by omega), Or.inl (⟨rfl, _, _, _, _, p - 5, q' - 5, _, z, rfl, ⟨⟨⟨c1, rf_WF_trans hWF u2, n119.2 hO2⟩, ⟨by omega, by omega⟩, by omega⟩, kc, Or.inr ⟨haM.1, by omega⟩, hDI2⟩, we_4_en (i := x4) u1 hMu hGu ((we_nn we_Hn1).1 _ k.1.2.1) k3 hr hs ej (rf_EX_le hE hnb hib) (fun k hk => ?_) (fun p hp => ?_) (fun p hp => ?_) hY, rfl⟩)⟩
        · rcases hk with rfl | rfl | rfl | rfl | rfl
          · exact c3 58 rfl
          · exact c3 61 rfl
          · exact c3 79 rfl
          · exact c3 86 rfl
          · exact c3 89 rfl
        · have o : sx_ua u.2.1 119 kk.2.toNat 1 p = u.2.1 p := sx_ua_ne (by omega)
          rcases hp with rfl | rfl | rfl | rfl | rfl | rfl <;> exact (c2.same _ rfl).2.trans o
        · rw [(c2.same 119 rfl).2]
          show sx_ua u.2.1 119 kk.2.toNat 1 119 p = _
          rw [sx_ua_same]
          exact if_neg hp
    · -- 103
      have h40 := h4
      obtain ⟨⟨⟨u1, u2, u3⟩, ⟨b71, b58⟩, bq⟩, k, hok', kD⟩ := h4
      have pA := rf_CL_b u1 k
      obtain ⟨j, kk, uu, f, n, eA, a1, a2, a3, a4, a5, a6, a7, a8⟩ := rf_CL_node k
      have r58 := u1.fld 66 58 (by decide) rfl
      have hq1 : 1 ≤ q' := by
        subst eA
        exact rf_okw_pos hok'
      refine w_write_103 (PV := fun z t => rf_V1 u t x4 z) u1 pA (fun z => ?_) ?_ ?_ (fun z => ⟨_, rf_lex1 (by decide), Or.inr (Or.inr (Or.inr (Or.inr (Or.inr (Or.inl (⟨rfl, N, A, y, W, p, q', x4, x5, rfl, h40, hY, hop, z, rfl⟩))))))⟩)
      · rw [a2, a4] at z
        rw [a2, a5]
        rcases a8 with ⟨_, C, D, _, hv, _⟩ | ⟨c, _⟩
        · have := hv.1
          omega
        · exact absurd z c
      · intro z v hv K' hK'
        have hr := u1.arr 106 (by decide) rfl (u.2.1 101 x4.toNat).toNat
        exact c_r_newVar hsL (d + 1) (by omega) v u K' u1 (by omega) (by omega) (fun zz t c1 c2 c3 c4 c5 c6 c7 => hK' zz t ⟨c1, c2, c3, c4, c5, c6, by rw [c7]; exact hv⟩)
      · intro z zz t ht
        exact ⟨_, rf_lex1 (by decide), Or.inr (Or.inr (Or.inr (Or.inl (⟨rfl, N, A, y, W, p, q', x4, x5, zz, u, rfl, h40, hY, z, ht, rfl⟩))))⟩
    · -- 131
      have h40 := h4
      obtain ⟨⟨⟨u1, u2, u3⟩, ⟨b71, b58⟩, bq⟩, k, hok', kD⟩ := h4
      have r58 := u1.fld 66 58 (by decide) rfl
      have v3 := hV.2.2.1
      have q1 : 1 ≤ q' := by
        obtain ⟨j, kk, uu, f, n, eA, _⟩ := rf_CL_node k
        subst eA
        exact rf_okw_pos hok'
      refine w_write_131 (PL := fun t => rf_V2 u t x6 dp ∧ ∀ o, we_Sp E u o → we_Sp E t ((92 :: 120 :: (E.1.2.1 dp ++ [46])).foldl (fun o c => E.1.1 c o) o)) (fun K' hK' => kA (d + 1) (by omega) x6 dp u K' hV.1 (by omega) (by omega) (fun z t c1 c2 c3 c4 c5 => hK' z t ⟨⟨c1, c2, c3, c4⟩, c5⟩)) ?_
      rintro t ⟨ht, ht3⟩
      exact ⟨_, rf_lex1 (by decide), Or.inr (Or.inr (Or.inr (Or.inr (Or.inl (⟨rfl, N, A, y, W, p, q', x4, x5, x6, u0, u, rfl, h40, hY, hk0, hV, ht, ht3, rfl⟩)))))⟩
    · -- 138
      obtain ⟨⟨⟨u1', u2, u3⟩, ⟨b71, b58⟩, bq⟩, k, hok', kD⟩ := h4
      have pA := rf_CL_b u1' k
      have hW0 := rf_WW_up hW u1' u2 u3
      have hM0 := hW0.1.2.1
      have hph0 := hW0.1.2.2.2.2
      have r58 := u1'.fld 66 58 (by decide) rfl
      have r71 := u1'.fld 66 71 (by decide) rfl
      obtain ⟨j, kk, uu, f, n, eA, a1, a2, a3, a4, a5, a6, a7, a8⟩ := rf_CL_node k
      subst eA
      have kz0 : kk.1 = 0 := by
        rw [a2, a4] at hk0
        exact hk0
      have q1 := rf_okw_pos hok'
      have hpp := rf_wy_pos k.2.2.2 hph0
      have hw1 := rf_wh_pos (j := j) (k := kk) (u := uu) (f := f) (x := n)
      have hxx : ∃ C D, x = rf_a C D ∧ rf_vb (u0.1 66 58) u0 kk.2 C := by
        rcases a8 with ⟨_, C, D, hx, hv, _⟩ | ⟨c, _⟩
        · exact ⟨C, D, hx, hv⟩
        · exact absurd kz0 c
      obtain ⟨C, D, hx, hvC⟩ := hxx
      subst hx
      obtain ⟨f1, f2, f3, f4, f5, f6, f7, f8⟩ := rf_WF_V hV hV2 r58.1
      have hv3 := hV.2.2.1
      have uI := hV2.1
      have hby := rf_by_hi k.1.2.2.2.1
      have hvC0 := hvC.1
      refine w_write_138 (PN := fun z t => cx_I t ∧ cx_F [(66, 66), (115, 117)] u t ∧ z = u.1 66 71 ∧ t.1 66 71 = u.1 66 71 + 1 ∧ rf_f [71] u t ∧ rf_ag 115 117 (u.1 66 71) u t ∧ rf_nm t z kk.2 x6 x5) (PW := fun t2 => ∃ t, (rf_WF u0 t ∧ t.1 66 71 = u0.1 66 71 + 1 ∧ t.1 66 58 = u0.1 66 58 + 1) ∧ cx_I t2 ∧ rf_WF t t2 ∧ rf_OD t2 ∧ t2.1 66 71 ≤ t.1 66 71 + ((q' - 1 : Nat) : Int) ∧ t2.1 66 58 ≤ t.1 66 58 + ((q' - 1 : Nat) : Int) ∧ we_Z E Z P t2) uI pA (by omega) ?_ ?_ ?_
      · intro v hv K' hK'
        have hv2 : v = kk.2 := by rw [hv, f7, a2]; exact a5
        rw [hv2]
        exact c_r_name hsL (d + 1) (by omega) kk.2 x6 x5 u K' uI (by omega) (by omega) (by omega) (by omega) (fun z t c1 c2 c3 c4 c5 c6 c7 => hK' z t ⟨c1, c2, c3, c4, c5, c6, c7⟩)
      · rintro z t ⟨c1, c2, c3, c4, c5, c6, c7⟩ v w hv hw K' hK'
        obtain ⟨n1, n2⟩ := rf_WF_name c2 c5 c6 (by omega)
        have hWF : rf_WF u0 t := rf_WF_trans n1 f1
        obtain ⟨hE, hN⟩ := rf_WF_EX hWF
        have e58 := c5 58 rfl
        have hWt := rf_WW_up hW0 c1 hWF (n2 (f2 u3))
        have kl := rf_CL_lam (t := t) (z := z) (v := x6) hM0.ub k kz0 hE (by omega) (by omega) hv3 r58.1 (by rw [(c2.same 106 rfl).2, f6, a2, a5]) (by omega) c7
        have hv2 : v = u0.2.1 102 j := by rw [hv, f8, a2]
        have t107 : ∀ q : Nat, t.2.1 107 q = if q = x6.toNat then dp else u0.2.1 107 q := fun q => by rw [(c2.same 107 rfl).2]; exact f5 q
        rw [hv2, hw]
        have hGt := we_G_WF hL hW0 hWF (we_G_WF hL hW u2 hG)
        obtain ⟨_, b2, b3, _⟩ := hV2
        obtain ⟨_, d2, d3, d4, d5, _⟩ := hV
        have hG0 := we_G_WF hL hW u2 hG
        have t4 : we_4 E Z P t f (rf_one kk.2 x6 y) (dp + 1) := by
          refine we_4_lam hL (v := x6) (hG0 trivial).2.2.2.2.2.1 kz0 hE d3 (by omega) (fun q _ => t107 q) (fun k hk => ?_) (fun p hp => ?_) (fun o ho => ?_) hY
          · rcases hk with rfl | rfl | rfl
            · exact (c5 61 rfl).trans ((b3 61 rfl).trans (d5 61 rfl))
            · exact (c5 79 rfl).trans ((b3 79 rfl).trans (d5 79 rfl))
            · exact (c5 89 rfl).trans ((b3 89 rfl).trans (d5 89 rfl))
          · have hp' : p = 108 ∨ p = 118 ∨ p = 119 ∨ p = 120 ∨ p = 121 := by omega
            rcases hp' with rfl | rfl | rfl | rfl | rfl <;> exact (c2.same _ rfl).2.trans ((b2.same _ rfl).2.trans (d2.same _ rfl).2)
          · have e0 : we_Sp E u1 o := by
              unfold we_Sp
              rw [d5 86 rfl, (d2.same 122 rfl).2]
              exact ho
            have e1 := hV3 o e0
            unfold we_Sp at e1 ⊢
            rw [c5 86 rfl, (c2.same 122 rfl).2]
            exact e1
        refine ih Z P N f _ D W (p - 1) (q' - 1) _ z (dp + 1) nb ib t g K' hWt kl (rf_okw_lam kz0 (by omega) hok') (by omega) ?_ (by omega) (by omega) (by omega) hGt t4.1 t4.2 (fun zz t2 g1 g2 g3 g4 g5 g6 => hK' zz t2 ⟨t, ⟨hWF, by omega, by omega⟩, g1, g2, g3, g4, g5, g6⟩)
        -- the depths below the LAM
        have hfo : ∀ r, (rf_fo (rf_Wd t g.2.2) f).1 r → r ≠ kk.2 → (rf_fo (rf_Wd u0 g.2.2) (.inner j kk uu f n)).1 r := fun r hr hne => by
          refine Or.inr (Or.inl ⟨kz0, hne, ?_⟩)
          have hg : (rf_gt (rf_Hn (u0.1 66 58) u0 N) rf_P f).1 D := by
            rcases a8 with ⟨_, C', D', hx', _, hg⟩ | ⟨c, _⟩
            · cases hx'
              exact hg
            · exact absurd kz0 c
          exact (rf_Wd_up hE (fun r q r0 r1 hq => ⟨hq, hM0.ub r q r0 r1 hq⟩)).1 ((rf_bn_gn a6).1 _ hg) r hr
        have hold : ∀ r, (rf_fo (rf_Wd u0 g.2.2) (.inner j kk uu f n)).1 r → t.2.1 107 (rf_look y r).toNat = u0.2.1 107 (rf_look y r).toNat := fun r hr => by
          obtain ⟨T, hT⟩ := rf_fo_typed hM0.ub k.1.1 k.1.2.1 k.1.2.2.2 r hr
          have := hT.1
          rw [t107, if_neg (by omega)]
        have hlk : ∀ r, r ≠ kk.2 → rf_look (rf_one kk.2 x6 y) r = rf_look y r := fun r hr => if_neg (fun c => hr c.symm)
        have hlk0 : rf_look (rf_one kk.2 x6 y) kk.2 = x6 := if_pos rfl
        have hself : t.2.1 107 x6.toNat = dp := by
          rw [t107]
          exact if_pos rfl
        intro r hr
        by_cases cr : r = kk.2
        · rw [cr, hlk0, hself]
          refine ⟨by omega, fun w' hw' e => ?_⟩
          by_cases cw : w' = kk.2
          · exact cw.symm
          · rw [hlk w' cw, hold w' (hfo w' hw' cw)] at e
            have := (kD w' (hfo w' hw' cw)).1
            omega
        · have h1 := kD r (hfo r hr cr)
          rw [hlk r cr, hold r (hfo r hr cr)]
          refine ⟨by omega, fun w' hw' e => ?_⟩
          by_cases cw : w' = kk.2
          · rw [cw, hlk0, hself] at e
            have := h1.1
            omega
          · rw [hlk w' cw, hold w' (hfo w' hw' cw)] at e
            exact h1.2 w' (hfo w' hw' cw) e
      · rintro t2 ⟨t, ⟨g0, g0', g0''⟩, g1, g2, g3, g4, g5, g6⟩
        exact hK 0 t2 g1 (rf_WF_trans g2 (rf_WF_trans g0 u2)) g3 (by omega) (by omega) g6
    · -- 168
      have h40 := h4
      obtain ⟨⟨⟨u1, u2, u3⟩, ⟨b71, b58⟩, bq⟩, k, hok', kD⟩ := h4
      have hWu := rf_WW_up hW u1 u2 u3
      have pA := rf_CL_b u1 k
      have r100 := u1.arr 100 (by decide) rfl x4.toNat
      refine w_write_168 (PW := fun t => cx_I t ∧ rf_WF u t ∧ rf_OD t ∧ t.1 66 71 ≤ u.1 66 71 + 36 ∧ t.1 66 58 = u.1 66 58 ∧ 100 ≤ q' ∧ we_Z E Z P t) u1 pA ?_ ?_ (fun z => ⟨_, rf_lex1 (by decide), Or.inr (Or.inr (Or.inr (Or.inr (Or.inr (Or.inr (Or.inl (⟨rfl, N, A, y, W, p, q', x4, x5, rfl, h40, hY, by unfold rf_hk; omega, rfl⟩)))))))⟩)
      · intro h3 K' hK'
        obtain ⟨hr, hbn, hx, j, kk, uu, f, n, eA, ej, k3, ek⟩ := rf_CL_3 k h3
        subst eA
        have haM : aM = true ∧ p + 100 ≤ q' := hok'.elim (fun z => absurd (Or.inl ⟨k3, rfl⟩) (z.1 kk.2)) id
        obtain ⟨haM1, haM2⟩ := haM
        subst haM1
        obtain ⟨hd2, hw0⟩ := hfr rfl
        have hwf := c_e_writeFresh hL hKE hsL (d - 1) (by omega) hw0 Z P N _ y x W p x4 x5 dp nb ib u g K' hWu k h3 (hop h3) kD (by omega) (by omega) (by omega) (we_G_WF hL hW u2 hG) hY.1 hY.2 (fun z t f1 f2 f3 f4 f5 f6 => hK' z t ⟨f1, f2, f3, f4, f5, by omega, f6⟩)
        rw [show d - 1 + 2 = d + 1 by omega] at hwf
        exact hwf
      · rintro t ⟨f1, f2, f3, f4, f5, f6, f7⟩
        exact hK 0 t f1 (rf_WF_trans f2 u2) f3 (by omega) (by omega) f7
    · -- 189
      have h40 := h4
      obtain ⟨hB, k, hok', kD⟩ := h4
      have hB0 := hB
      obtain ⟨⟨u1, u2, u3⟩, ⟨b71, b58⟩, bq⟩ := hB
      have hWu := rf_WW_up hW u1 u2 u3
      have hMu := hWu.1.2.1
      have h70 := hWu.2.1
      have pA := rf_CL_b u1 k
      have kN0 := k.1.2.2.2
      have r58 := u1.fld 66 58 (by decide) rfl
      obtain ⟨j, kk, uu, f, n, eA, a1, a2, a3, a4, a5, a6, a7, a8⟩ := rf_CL_node k
      have hHn : kk.1 ≠ 0 → ∃ w, rf_Hn (u.1 66 58) u N j kk.1 kk.2 w := fun z => by
        rcases a8 with ⟨c, _⟩ | ⟨_, _, w, hw, _⟩
        · exact absurd c z
        · exact ⟨w, hw⟩
      have r42u := u1.fld 66 42 (by decide) rfl
      have hGu := we_G_WF hL hW u2 hG
      refine w_e_write_189 (lk := rf_look y (u.2.1 101 x4.toNat)) (PW := fun t => we_PT E u t (if kk.1 = 1 then E.1.2.2 kk.2 else 120 :: E.1.2.1 (we_D u dp (rf_look y kk.2)))) u1 pA (fun z => ?_) (fun z => ?_) ?_ ?_ ?_ ?_
      · rw [a2, a4] at z
        rw [a2, a5]
        obtain ⟨w, hw⟩ := hHn (by omega)
        have := (rf_Hn_1 hw z).1
        omega
      · have z2 : u.2.1 100 x4.toNat = 2 := hhk.elim (fun c => absurd c z) id
        rw [a2, a4] at z2
        rw [a2, a5]
        obtain ⟨w, hw⟩ := hHn (by omega)
        have := (kN0.2.2.1 _ w (Or.inl (rf_Hn_02 hw (Or.inr z2)))).1
        omega
      · intro z v hv hv2 K' hK'
        rw [a2, a4] at z
        rw [a2, a5] at hv
        obtain ⟨w, hw⟩ := hHn (by omega)
        rw [if_pos z] at hK'
        exact kM (d + 1) (by omega) kk.2 v u K' u1 (hGu trivial).2.2.2.2.2.2 (rf_Hn_1 hw z).1 hv hv2 hK'
      · intro z v hv K' hK'
        rw [hv]
        exact c_r_look hsL 100 (d + 1) (by omega) y x5 _ u K' u1 (by have := kN0.2.2.2; omega) kN0.1 (u1.arr 101 (by decide) rfl _) hK'
      · intro z v hv K' hK'
        have z2 : u.2.1 100 x4.toNat = 2 := hhk.elim (fun c => absurd c z) id
        rw [a2, a4] at z2
        rw [a2, a5] at hv
        obtain ⟨w, hw⟩ := hHn (by omega)
        have hlk := (kN0.2.2.1 _ w (Or.inl (rf_Hn_02 hw (Or.inr z2)))).1
        have r107 := u1.arr 107 (by decide) rfl (rf_look y kk.2).toNat
        have eD : we_D u dp (rf_look y kk.2) = v := by
          unfold we_D
          rw [if_pos (by omega)]
          exact hv.symm
        rw [if_neg (by omega), eD] at hK'
        exact kN (d + 1) (by omega) 120 v u K' u1 (by omega) (by omega) hK'
      · intro t hpt
        obtain ⟨c1, c2, c3, _⟩ := id hpt
        obtain ⟨e1, e2, e3, e4, e5⟩ := rf_WF_put c2 c3
        obtain ⟨k', kD'⟩ := rf_CL_put hMu.ub e1 e3 e4 k kD
        have h5t : we_5 E Z P t (wz_F A) y dp := by
          subst eA
          have k12 : kk.1 = 1 ∨ kk.1 = 2 := by
            have := hhk
            unfold rf_hk at this
            rw [a2, a4] at this
            exact this
          exact we_4_hd hL (hGu trivial).2.2.2.2.2.1 k12 (fun z => by
            obtain ⟨w, hw⟩ := hHn (by omega)
            exact (rf_Hn_1 hw z).1.1) (rf_WF_EX e1).1 hpt hY
        have hhk' : rf_hk t x4 := by
          unfold rf_hk
          rw [(c2.same 100 rfl).2]
          exact hhk
        exact ⟨_, rf_lex1 (by decide), Or.inr (Or.inr (Or.inr (Or.inr (Or.inr (Or.inr (Or.inr (Or.inl (⟨rfl, N, A, y, W, p, q', x4, x5, rfl, ⟨rf_WB_put hB0 c1 c2 c3, k', hok', kD'⟩, h5t, hhk', rfl⟩))))))))⟩
    · -- 243
      obtain ⟨hB, k, hok', kD⟩ := h4
      have hB0 := hB
      obtain ⟨⟨u1, u2, u3⟩, ⟨b71, b58⟩, bq⟩ := hB
      have hWu := rf_WW_up hW u1 u2 u3
      have hphu := hWu.1.2.2.2.2
      have pA := rf_CL_b u1 k
      obtain ⟨j, kk, uu, f, n, eA, a1, a2, a3, a4, a5, a6, a7, a8⟩ := rf_CL_node k
      subst eA
      have hpp := rf_wy_pos k.2.2.2 hphu
      have hw1 := rf_wh_pos (j := j) (k := kk) (u := uu) (f := f) (x := n)
      have k0 : kk.1 = 1 ∨ kk.1 = 2 := by
        unfold rf_hk at hhk
        rw [a2, a4] at hhk
        exact hhk
      have q1 := rf_okw_pos hok'
      rcases a8 with ⟨c, _⟩ | ⟨_, hx, w, hw, hwf⟩
      · omega
      · have cr := rf_CL_app k k0 hwf (by omega)
        refine w_write_243 u1 pA (fun v hv => ⟨_, rf_lex1 (by decide), Or.inr (Or.inr (Or.inr (Or.inr (Or.inr (Or.inr (Or.inr (Or.inr (Or.inl (⟨rfl, N, f, y, w, W, p - 1, q', x5, v, rfl, ⟨hB0, ?_, rf_okw_row k0 (by omega) hok', rf_DI_le (fun r hr => Or.inr (Or.inr ⟨k0, Or.inr hr⟩)) kD, q1⟩, hY, rfl⟩)))))))))⟩)
        rw [hv, a2]
        exact cr
    · -- 252
      obtain ⟨hB, cr, hok', kD, q1⟩ := hR
      have hB0 := hB
      obtain ⟨⟨u1, u2, u3⟩, ⟨b71, b58⟩, bq⟩ := hB
      have hMu := (rf_WW_up hW u1 u2 u3).1.2.1
      have rr := rf_nd_rng cr.1.1
      have r50 := u1.fld 66 50 (by decide) rfl
      have hGu := we_G_WF hL hW u2 hG
      refine w_write_252 (PW := fun t => we_PT E u t [32]) (by omega) (fun hx => hK 0 u u1 u2 u3 (by omega) (by omega) (by
        have hl : f = .leaf := by
          have h1 := cr.1.1
          cases f with
          | leaf => rfl
          | inner j1 k1 uu1 ff1 n1 =>
            have := h1.1.1
            omega
        subst hl
        exact we_5_0 hY)) (fun _ K' hK' => kP (d + 1) (by omega) 32 u K' u1 (by omega) hK') ?_
      intro hx t hpt
      obtain ⟨c1, c2, c3, _⟩ := id hpt
      obtain ⟨e1, e2, e3, e4, e5⟩ := rf_WF_put c2 c3
      obtain ⟨cr', kD'⟩ := rf_CR_put hMu.ub e1 e3 e4 cr kD
      exact ⟨_, rf_lex2 (by omega), Or.inr (Or.inr (Or.inr (Or.inr (Or.inr (Or.inr (Or.inr (Or.inr (Or.inr (Or.inl (⟨rfl, N, f, y, w, W, p, q', x5, x6, rfl, ⟨rf_WB_put hB0 c1 c2 c3, cr', hok', kD', q1⟩, (by
        obtain ⟨_, _, _, _, _, _, _, j1, kk1, uu1, ff1, ef⟩ := rf_CR_cons cr hx
        subst ef
        exact we_5_6 hL hGu (rf_WF_EX e1).1 hpt hY), hx, rfl⟩))))))))))⟩
    · -- 264
      have hR0 := hR
      obtain ⟨⟨⟨u1, u2, u3⟩, _⟩, cr, _⟩ := hR
      have hWu := rf_WW_up hW u1 u2 u3
      obtain ⟨C, D, e1, k, _⟩ := rf_CR_cons cr hx6
      have hGu := we_G_WF hL hW u2 hG
      have hbt : we_bt E (we_bk (we_V E u f y dp)) f := by
        obtain ⟨_, _, _, _, _, _, _, j1, kk1, uu1, ff1, ef⟩ := rf_CR_cons cr hx6
        subst ef
        exact we_bt_V (fun m => ((hGu trivial).1.2.1 m).1)
      have htf : vr_t u (we_AR E) f := by
        obtain ⟨_, _, _, _, _, _, _, j1, kk1, uu1, ff1, ef⟩ := rf_CR_cons cr hx6
        subst ef
        exact (we_r_c hY.1).1
      refine w_e_write_264 (PZ := fun z => (0 ≤ z ∧ z ≤ 1) ∧ (z ≠ 0 ↔ we_bk (we_V E u f y dp))) (fun K' hK' => c_e_hasParts hsL (d + 1) (by omega) _ N f y C W p x6 x5 nb ib u g K' u1 hWu.1.2.1 hWu.1.2.2.2.2 k hGu htf hbt (fun z h1 h2 => hK' z ⟨h1, h2⟩)) (fun z hz => ⟨_, rf_lex2 (by omega), Or.inr (Or.inr (Or.inr (Or.inr (Or.inr (Or.inr (Or.inr (Or.inr (Or.inr (Or.inr (Or.inl (⟨rfl, N, f, y, w, W, p, q', x5, x6, z, rfl, hR0, ⟨hY, hz.2⟩, hx6, hz.1, rfl⟩)))))))))))⟩)
    · -- 274
      have hR0 := hR
      obtain ⟨hB, cr, hok', kD, q1⟩ := hR
      have hB0 := hB
      obtain ⟨⟨u1, u2, u3⟩, _⟩ := hB
      have hMu := (rf_WW_up hW u1 u2 u3).1.2.1
      have hG1 := ((we_G_WF hL hW u2 hG) trivial).2.2.2.2.2.1
      obtain ⟨hY1, hY2⟩ := hY
      refine w_e_write_274 (PW := fun t => we_PT E u t [40]) h7 (fun _ K' hK' => kP (d + 1) (by omega) 40 u K' u1 (by omega) hK') ?_ (fun hx7 => ⟨_, rf_lex2 (by omega), Or.inr (Or.inr (Or.inr (Or.inr (Or.inr (Or.inr (Or.inr (Or.inr (Or.inr (Or.inr (Or.inr (Or.inl (⟨rfl, N, f, y, w, W, p, q', x5, x6, x7, rfl, hR0, we_6_b hL hG1 hY2 (rf_EX_refl nb ib u) (Or.inl ⟨hx7, rfl⟩) hY1, hx6, h7, rfl⟩))))))))))))⟩)
      intro hx7 t hpt
      obtain ⟨c1, c2, c3, _⟩ := id hpt
      obtain ⟨e1, e2, e3, e4, e5⟩ := rf_WF_put c2 c3
      obtain ⟨cr', kD'⟩ := rf_CR_put hMu.ub e1 e3 e4 cr kD
      exact ⟨_, rf_lex2 (by omega), Or.inr (Or.inr (Or.inr (Or.inr (Or.inr (Or.inr (Or.inr (Or.inr (Or.inr (Or.inr (Or.inr (Or.inl (⟨rfl, N, f, y, w, W, p, q', x5, x6, x7, rfl, ⟨rf_WB_put hB0 c1 c2 c3, cr', hok', kD', q1⟩, we_6_b hL hG1 hY2 (rf_WF_EX e1).1 (Or.inr ⟨hx7, hpt⟩) hY1, hx6, h7, rfl⟩))))))))))))⟩
    · -- 285
      obtain ⟨hB, cr, hok', kD, q1⟩ := hR
      have hB0 := hB
      obtain ⟨⟨u1, u2, u3⟩, ⟨b71, b58⟩, bq⟩ := hB
      have hWu := rf_WW_up hW u1 u2 u3
      have hMu := hWu.1.2.1
      have r58 := u1.fld 66 58 (by decide) rfl
      have r71 := u1.fld 66 71 (by decide) rfl
      have hGu := we_G_WF hL hW u2 hG
      obtain ⟨_, _, _, _, _, _, _, j0, kk0, uu0, ff0, ef0⟩ := rf_CR_cons cr hx6
      obtain ⟨Z1, P1, hY1, hY2⟩ : ∃ (Z1 : we_A Ω) (P1 : Int → Prop), we_4 E Z1 P1 u f y dp ∧ ∀ (t t' : sx_S) (nb ib : Int), rf_EX nb ib u t' → we_Z E Z1 P1 t → t.1 66 89 = u.1 66 89 → (∀ k, k = 61 ∨ k = 79 ∨ k = 86 ∨ k = 89 → t'.1 66 k = t.1 66 k) → (∀ p, p = 108 ∨ (118 ≤ p ∧ p ≤ 122) → t'.2.1 p = t.2.1 p) → t'.1 66 58 = u.1 66 58 → (∀ p : Nat, (p : Int) < u.1 66 58 → t'.2.1 107 p = u.2.1 107 p) → we_6c E Z P t' f y dp x7 := by
        subst ef0
        exact we_6_w hGu hY
      refine w_write_285 (PW := fun t => cx_I t ∧ rf_WF u t ∧ rf_OD t ∧ we_Z E Z1 P1 t) u1 ?_ ?_
      · intro K' hK'
        obtain ⟨C, D, e1, k, n', _, _, j1, kk1, uu1, ff1, ef⟩ := rf_CR_cons cr hx6
        refine ih Z1 P1 N f y C W p (q' - 1) x6 x5 dp nb ib u g K' hWu k ?_ (by omega) (rf_DI_le (fun v hv => ?_) kD) (by omega) (by omega) (by omega) hGu hY1.1 hY1.2 (fun zz t g1 g2 g3 _ _ g6 => hK' zz t ⟨g1, g2, g3, g6⟩)
        · subst ef
          rcases hok' with ⟨z1, z2⟩ | z
          · exact Or.inl ⟨fun z hz => z1 z (Or.inl hz), Nat.le_trans rf_wh_le.1 z2⟩
          · exact Or.inr z
        · subst ef
          exact Or.inl hv
      · rintro t ⟨g1, g2, g3, g6⟩ a b ha hb
        obtain ⟨o1, o2, o3⟩ := rf_back_f (a := a) (b := b) (t := t)
        have hWF := rf_WF_back g2 ha hb
        have hcv : cx_I (sx_uf (sx_uf t.1 66 71 a) 66 58 b, t.2) := cx_I_uf rfl rfl (cx_I_uf rfl rfl g1 (by omega) (by omega)) (by omega) (by omega)
        have hOv : rf_OD (sx_uf (sx_uf t.1 66 71 a) 66 58 b, t.2) := rf_OD_same g3 (o1 61 (by decide) (by decide)) (o1 83 (by decide) (by decide)) (o1 79 (by decide) (by decide)) (fun _ _ => rfl)
        obtain ⟨cr', kD'⟩ := rf_CR_put hMu.ub hWF (o2.trans ha) (o3.trans hb) cr kD
        have v71 : sx_uf (sx_uf t.1 66 71 a) 66 58 b 66 71 = u.1 66 71 := o2.trans ha
        have v58 : sx_uf (sx_uf t.1 66 71 a) 66 58 b 66 58 = u.1 66 58 := o3.trans hb
        exact ⟨_, rf_lex2 (by omega), Or.inr (Or.inr (Or.inr (Or.inr (Or.inr (Or.inr (Or.inr (Or.inr (Or.inr (Or.inr (Or.inr (Or.inr (Or.inl (⟨rfl, N, f, y, w, W, p, q', x5, x6, x7, rfl, ⟨⟨⟨hcv, rf_WF_trans hWF u2, hOv⟩, ⟨by dsimp only; omega, by dsimp only; omega⟩, bq⟩, cr', hok', kD', q1⟩, hY2 t _ _ _ (rf_WF_EX hWF).1 g6 (g2.1.2.1 89 rfl) (fun k hk => o1 k (by omega) (by omega)) (fun _ _ => rfl) (o3.trans hb) (fun p hp => hWF.2.1.2.2.1 107 p (by omega) (by omega) hp), hx6, h7, rfl⟩)))))))))))))⟩
    · -- 318
      have hR0 := hR
      obtain ⟨hB, cr, hok', kD, q1⟩ := hR
      have hB0 := hB
      obtain ⟨⟨u1, u2, u3⟩, _⟩ := hB
      have hMu := (rf_WW_up hW u1 u2 u3).1.2.1
      have hG1 := ((we_G_WF hL hW u2 hG) trivial).2.2.2.2.2.1
      refine w_e_write_318 (PW := fun t => we_PT E u t [41]) h7 (fun _ K' hK' => kP (d + 1) (by omega) 41 u K' u1 (by omega) hK') ?_ (fun hx7 => ⟨_, rf_lex2 (by omega), Or.inr (Or.inr (Or.inr (Or.inr (Or.inr (Or.inr (Or.inr (Or.inr (Or.inr (Or.inr (Or.inr (Or.inr (Or.inr (⟨rfl, N, f, y, w, W, p, q', x5, x6, rfl, hR0, we_6_d hL hG1 (rf_EX_refl nb ib u) (Or.inl ⟨hx7, rfl⟩) hY, hx6, rfl⟩)))))))))))))⟩)
      intro hx7 t hpt
      obtain ⟨c1, c2, c3, _⟩ := id hpt
      obtain ⟨e1, e2, e3, e4, e5⟩ := rf_WF_put c2 c3
      obtain ⟨cr', kD'⟩ := rf_CR_put hMu.ub e1 e3 e4 cr kD
      exact ⟨_, rf_lex2 (by omega), Or.inr (Or.inr (Or.inr (Or.inr (Or.inr (Or.inr (Or.inr (Or.inr (Or.inr (Or.inr (Or.inr (Or.inr (Or.inr (⟨rfl, N, f, y, w, W, p, q', x5, x6, rfl, ⟨rf_WB_put hB0 c1 c2 c3, cr', hok', kD', q1⟩, we_6_d hL hG1 (rf_WF_EX e1).1 (Or.inr ⟨hx7, hpt⟩) hY, hx6, rfl⟩)))))))))))))⟩
    · -- 329
      obtain ⟨hB, cr, hok', kD, q1⟩ := hR
      have u1 := hB.1.1
      have r50 := u1.fld 66 50 (by decide) rfl
      obtain ⟨C, D, e1, k, n', cr2, hi, j1, kk1, uu1, ff1, ef⟩ := rf_CR_cons cr hx6
      subst ef
      refine w_write_329 u1 (by omega) (fun v hv => ⟨_, rf_lex2 (by show 10 * rf_len n' + 9 < 10 * (rf_len n' + 1) + 4; omega), Or.inr (Or.inr (Or.inr (Or.inr (Or.inr (Or.inr (Or.inr (Or.inr (Or.inl (⟨rfl, N, n', y, D, W, p, q', x5, v, rfl, ⟨hB, by rw [hv]; exact cr2, hok'.imp (fun z => ⟨fun r hr => z.1 r (Or.inr hr), Nat.le_trans rf_wh_le.2 z.2⟩) id, rf_DI_le (fun r hr => Or.inr hr) kD, q1⟩, we_6_5 hY, rfl⟩)))))))))⟩)
theorem we_wt_0 {E : we_E Ω} {sL : Nat} {sx : Nat → Int32} {aM : Bool} {d : Nat} : we_T E sL sx aM 0 d := by
  intro Z P N A y x W p q i b dp nb ib s g K hW k hok hq
  obtain ⟨j, kk, uu, f, n, eA, _⟩ := rf_CL_node k
  subst eA
  have := rf_okw_pos hok
  omega
/-- trees without unknowns -/
theorem c_e_write0 {E : we_E Ω} (hL : we_L E) {sL : Nat} {sx : Nat → Int32} (hKE : we_K E sL sx) (hsL : sL ≤ 3072) : ∀ H d : Nat, H + 130 ≤ d → we_T E sL sx false H d
  | 0, d, _ => we_wt_0
  | H + 1, d, hd => by
    obtain ⟨d, rfl⟩ : ∃ e, d = e + 2 := ⟨d - 2, by omega⟩
    exact we_wt_ok hL hKE hsL (by omega) (c_e_write0 hL hKE hsL H (d + 1) (by omega)) (fun c => absurd c (by decide))
theorem c_e_write {E : we_E Ω} (hL : we_L E) {sL : Nat} {sx : Nat → Int32} (hKE : we_K E sL sx) (hsL : sL ≤ 3072) : ∀ H d : Nat, H + 160 ≤ d → we_T E sL sx true H d
  | 0, d, _ => we_wt_0
  | H + 1, d, hd => by
    obtain ⟨d, rfl⟩ : ∃ e, d = e + 2 := ⟨d - 2, by omega⟩
    exact we_wt_ok hL hKE hsL (by omega) (c_e_write hL hKE hsL H (d + 1) (by omega)) (fun _ => ⟨by omega, c_e_write0 hL hKE hsL 9 (d - 1) (by omega)⟩)
end
