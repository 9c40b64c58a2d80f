section
/-! ===== the law's loop ===== -/
/-- the same bytes in both tapes -/
def rf_TE (s : sx_S) : Prop := ∀ k : Nat, (k : Int) < s.1 66 1 → s.2.1 1 k = s.2.1 67 k
def rf_LV (sL ms pc : Nat) (ls : sx_L) (s : sx_S) : Prop := (∃ i : Int, ls = [(0, .inr (.inl 1000000)), (1, .inr (.inl 0)), (2, .inr (.inl 66)), (3, .inl i)] ∧ (0 ≤ i ∧ i ≤ 3078) ∧ (rf_BC s ∧ s.1 66 1 = s.1 0 1 ∧ rf_TE s ∧ wv_X s) ∧ ((pc = 18 ∧ (s.2.2.2 : Int) + 10 * s.1 66 1 ≤ 34 * i ∧ (ms : Int) = 3 * (4000 - i)) ∨ (pc ∈ [88, 151, 174, 197, 220, 233, 246, 269, 302, 335] ∧ i + 6 ≤ (sL : Int) ∧ (s.2.2.2 : Int) + 10 * s.1 66 1 ≤ 34 * i ∧ (ms : Int) = 3 * (4000 - i) - 1) ∨ (pc = 378 ∧ i + 6 ≤ (sL : Int) ∧ (s.2.2.2 : Int) + 10 * s.1 66 1 ≤ 34 * (i + 6) ∧ (ms : Int) = 3 * (4000 - i) - 2)))
/-- a call that leaves what is fed as it was -/
def rf_LK (b : Nat → Int) (n : Int) (l : List vl_I) (s t : sx_S) : Prop := rf_BC t ∧ t.2.2 = s.2.2 ∧ t.1 66 1 = s.1 66 1 ∧ t.1 0 1 = s.1 0 1 ∧ t.2.1 1 = s.2.1 1 ∧ t.2.1 67 = s.2.1 67 ∧ wv_K b n l s t
theorem rf_LK_t {b : Nat → Int} {n : Int} {l : List vl_I} {s t u : sx_S} (h2 : rf_LK b n l t u) (h1 : rf_LK b n l s t) : rf_LK b n l s u := ⟨h2.1, h2.2.1.trans h1.2.1, h2.2.2.1.trans h1.2.2.1, h2.2.2.2.1.trans h1.2.2.2.1, h2.2.2.2.2.1.trans h1.2.2.2.2.1, h2.2.2.2.2.2.1.trans h1.2.2.2.2.2.1, wv_K_t h2.2.2.2.2.2.2 h1.2.2.2.2.2.2⟩
theorem rf_law_d {b : Nat → Int} {n : Int} {l : List vl_I} {s t : sx_S} (c1 : cx_I t) (c2 : wk_fw s t) (c3 : s.1 0 2 ≠ 0 → s.1 0 3 = 0 → wk_D b n l t) (h : rf_BC s) : rf_LK b n l s t := by
  have f : cx_F [(29, 37), (55, 65)] s t := cx_F_step (c2 trivial).1 rfl (cx_F_refl _ _)
  exact ⟨rf_BC_desk c1 f rfl h, (f 0).2, by rw [(f.same 66 rfl).1], by rw [(f.same 0 rfl).1], (f.same 1 rfl).2, (f.same 67 rfl).2, wv_K_w c1 f c3⟩
theorem rf_law_p {b : Nat → Int} {n : Int} {l : List vl_I} {s t : sx_S} (h : rf_BC s) (p : t = s ∨ (s.1 66 78 ≠ 0 ∧ rf_PP s t)) (hD : s.1 66 78 ≠ 0 → wr_D b n l t) : rf_LK b n l s t := by
  have k := wv_K_p h p hD
  refine ⟨rf_BC_P h p, ?_⟩
  rcases p with rfl | ⟨_, _, p2, p3⟩
  · exact ⟨rfl, rfl, rfl, rfl, rfl, k⟩
  · exact ⟨(p2 0).2, p3 1 rfl, by rw [(p2.same 0 rfl).1], (p2.same 1 rfl).2, (p2.same 67 rfl).2, k⟩
set_option maxRecDepth 8000 in
theorem rf_law {sL : Nat} {sx : Nat → Int32} (hsL : sL ≤ 3072) (s0 : sx_S) (h0 : rf_BC s0) (h1 : s0.1 66 1 = 0) (h2 : s0.1 0 1 = 0) (h3 : s0.2.2.2 = 0) (h4 : wv_X s0) : sx_E sL sx 2048 230 18 [(0, .inr (.inl 1000000)), (1, .inr (.inl 0)), (2, .inr (.inl 66)), (3, .inl 0)] [] s0 (fun z _ => z = 1) := by
  refine sx_loops (wr := true) (d := 2046) (n := 400) (stop := [(18, [0, 1, 2, 3]), (88, [0, 1, 2, 3]), (151, [0, 1, 2, 3]), (174, [0, 1, 2, 3]), (197, [0, 1, 2, 3]), (220, [0, 1, 2, 3]), (233, [0, 1, 2, 3]), (246, [0, 1, 2, 3]), (269, [0, 1, 2, 3]), (302, [0, 1, 2, 3]), (335, [0, 1, 2, 3]), (378, [0, 1, 2, 3])]) (rf_LV sL) hsL (e := eL_law) rfl ?_ 12000 18 _ s0 ⟨0, rfl, by omega, ⟨h0, by omega, fun k hk => by omega, h4⟩, Or.inl ⟨rfl, by omega, by omega⟩⟩
  rintro ms pc ls s ⟨i, rfl, hi0, ⟨hB, hfe, hTE, hCN0⟩, h⟩
  obtain ⟨zb, zn, zl, hCN⟩ := id hCN0
  have r1 := hB.1.fld 66 1 (by decide) rfl
  rcases h with ⟨rfl, ho, hm⟩ | ⟨hpc, hi, ho, hm⟩ | ⟨rfl, hi, ho, hm⟩
  · refine w_law_18 hsL hi0 rfl (fun hi p hp => ?_)
    have hp2 : p ∈ [88, 151, 174, 197, 220, 233, 246, 269, 302, 335] ∨ p = 378 := by
      simp only [List.mem_cons, List.not_mem_nil, or_false] at hp ⊢
      omega
    rcases hp2 with hp2 | hp2
    · exact ⟨ms - 1, by omega, i, rfl, hi0, ⟨hB, hfe, hTE, hCN0⟩, Or.inr (Or.inl ⟨hp2, hi, ho, by omega⟩)⟩
    · exact ⟨ms - 2, by omega, i, rfl, hi0, ⟨hB, hfe, hTE, hCN0⟩, Or.inr (Or.inr ⟨hp2, hi, by omega, by omega⟩)⟩
  · have fin0 : ∀ t2 : sx_S, rf_BC t2 → t2.1 66 1 = t2.1 0 1 → rf_TE t2 → wv_X t2 → (t2.2.2.2 : Int) + 10 * t2.1 66 1 ≤ 34 * (i + 6) → ∃ m', m' < ms ∧ (rf_LV sL) m' 378 [(0, .inr (.inl 1000000)), (1, .inr (.inl 0)), (2, .inr (.inl 66)), (3, .inl i)] t2 := fun t2 b1 b2 bT bC b3 => ⟨ms - 1, by omega, i, rfl, hi0, ⟨b1, b2, bT, bC⟩, Or.inr (Or.inr ⟨rfl, hi, b3, by omega⟩)⟩
    have hi : 0 ≤ i ∧ i + 6 ≤ (sL : Int) := ⟨hi0.1, hi⟩
    have hWk : s.1 0 2 ≠ 0 → s.1 0 3 = 0 → wk_D zb zn zl s := wv_W_h hCN
    have fin : ∀ t2 : sx_S, rf_LK zb zn zl s t2 → ∃ m', m' < ms ∧ (rf_LV sL) m' 378 [(0, .inr (.inl 1000000)), (1, .inr (.inl 0)), (2, .inr (.inl 66)), (3, .inl i)] t2 := fun t2 hk => by
      obtain ⟨k1, k2, k3, k4, k5, k6, k7⟩ := hk
      refine fin0 t2 k1 (by omega) (fun k hk => by rw [k5, k6]; exact hTE k (by omega)) ⟨zb, zn, zl, wv_W_k hCN k7⟩ ?_
      rw [k2, k3]
      omega
    simp only [List.mem_cons, List.not_mem_nil, or_false] at hpc
    rcases hpc with rfl | rfl | rfl | rfl | rfl | rfl | rfl | rfl | rfl | rfl
    · refine w_law_fd (PD := fun t => (rf_BC t ∧ t.2.2 = s.2.2 ∧ t.1 66 1 = s.1 66 1 ∧ t.2.1 67 = s.2.1 67 ∧ wv_K zb zn zl s t) ∧ ((240 < s.1 0 1 + 20 ∧ t = s) ∨ (s.1 0 1 + 20 ≤ 240 ∧ dz_TP 1 0 (dz_FB (sx (i + 1).toNat).toInt (sx (i + 2).toNat).toInt (sx (i + 3).toNat).toInt (sx (i + 4).toNat).toInt (sx (i + 5).toNat).toInt) s 20 t))) (PM := fun t t2 => (rf_BC t2 ∧ t2.2.2 = t.2.2 ∧ t2.1 0 1 = t.1 0 1 ∧ t2.2.1 1 = t.2.1 1 ∧ wv_K zb zn zl t t2) ∧ ((240 < t.1 66 1 + 20 ∧ t2 = t) ∨ (t.1 66 1 + 20 ≤ 240 ∧ dz_TP 67 66 (dz_FB (sx (i + 1).toNat).toInt (sx (i + 2).toNat).toInt (sx (i + 3).toNat).toInt (sx (i + 4).toNat).toInt (sx (i + 5).toNat).toInt) t 20 t2))) hi hsL (fun a b c e f ea eb ec ee ef K' hK' => ?_) (fun t hd a b c e f ea eb ec ee ef K' hK' => ?_) (fun t t2 d1 d2 => ?_)
      · subst ea eb ec ee ef
        exact c_dz_feed hsL 2047 (by omega) _ _ _ _ _ s K' hB.1 (rf_i32 _) (rf_i32 _) (rf_i32 _) (rf_i32 _) (rf_i32 _) (fun q => hK' _ s ⟨⟨hB, rfl, rfl, rfl, wv_K_0 _⟩, Or.inl ⟨q, rfl⟩⟩) (fun q t c2 c3 => hK' _ t ⟨⟨rf_BC_desk (c3 trivial).1 c2 rfl hB, (c2 0).2, by rw [(c2.same 66 rfl).1], (c2.same 67 rfl).2, wv_K_d (c3 trivial).1 c2 ((c3 trivial).2.2.2.2 2 (by decide)) ((c3 trivial).2.2.2.2 3 (by decide))⟩, Or.inr ⟨q, c3⟩⟩)
      · subst ea eb ec ee ef
        exact c_q_feed hsL 2047 (by omega) _ _ _ _ _ t K' hd.1.1.1 (rf_i32 _) (rf_i32 _) (rf_i32 _) (rf_i32 _) (rf_i32 _) (fun q => hK' _ t ⟨⟨hd.1.1, rfl, rfl, rfl, wv_K_0 _⟩, Or.inl ⟨q, rfl⟩⟩) (fun q t2 c2 c4 c3 => hK' _ t2 ⟨⟨rf_BC_k (c3 trivial).1 (cx_F_step c2 rfl (cx_F_refl _ _)) c4 hd.1.1, (c2 0).2, by rw [(c2.same 0 rfl).1], (c2.same 1 rfl).2, wv_K_f (c3 trivial).1 c2 c4⟩, Or.inr ⟨q, c3⟩⟩)
      · obtain ⟨⟨_, e1, d3, d67, dk⟩, d4⟩ := d1
        obtain ⟨⟨b1, e2, d6, d11, dl⟩, d5⟩ := d2
        have hCN2 : wv_X t2 := ⟨zb, zn, zl, wv_W_k hCN (wv_K_t dl dk)⟩
        rcases d4 with ⟨f1, f2⟩ | ⟨f1, f2⟩
        · subst f2
          rcases d5 with ⟨g1, g2⟩ | ⟨g1, _⟩
          · subst g2
            refine fin0 t2 b1 hfe hTE hCN2 ?_
            omega
          · omega
        · rcases d5 with ⟨g1, _⟩ | ⟨g1, g2⟩
          · omega
          · obtain ⟨_, v1, v2, v3, _⟩ := f2 trivial
            obtain ⟨_, w1, w2, w3, _⟩ := g2 trivial
            have v1' : t.1 0 1 = s.1 0 1 + 20 := v1
            have w1' : t2.1 66 1 = t.1 66 1 + 20 := w1
            refine fin0 t2 b1 (by omega) (fun k hk => ?_) hCN2 ?_
            · rw [d11]
              by_cases q : (k : Int) < s.1 0 1
              · rw [v2 k q, w2 k (by omega), d67]
                exact hTE k (by omega)
              · obtain ⟨j, hj⟩ : ∃ j, k = (s.1 0 1).toNat + j := ⟨k - (s.1 0 1).toNat, by omega⟩
                have ek : (s.1 0 1).toNat = (t.1 66 1).toNat := by omega
                have a1 := v3 j (by omega)
                have a2 := w3 j (by omega)
                rw [← ek] at a2
                rw [hj, a1, a2]
            · rw [e2, e1]
              omega
    · refine w_law_load (PD := fun t => (((sx (i + 1).toNat).toInt < 0 ∨ s.1 0 1 < (sx (i + 1).toNat).toInt) ∧ t = s) ∨ ((0 ≤ (sx (i + 1).toNat).toInt ∧ (sx (i + 1).toNat).toInt ≤ s.1 0 1) ∧ (rf_BC t ∧ t.2.2 = s.2.2 ∧ t.1 66 1 = s.1 66 1 ∧ t.2.1 67 = s.2.1 67) ∧ t.1 0 1 = 0 ∧ ∃ z, px_an (s.2.1 1) (sx (i + 1).toNat).toInt z ∧ ((z = 0 ∧ t.1 0 2 = 1 ∧ t.1 0 3 = -1 ∧ ∃ l, px_TX (px_K (s.2.1 1) (sx (i + 1).toNat).toInt) l 0 ∧ dk_LD (s.2.1 1) (sx (i + 1).toNat).toInt l t) ∨ (z ≠ 0 ∧ t.1 0 2 = 0)))) (PM := fun t t2 => (rf_BC t2 ∧ ∀ p, p < 66 → t2.1 p = t.1 p ∧ t2.2.1 p = t.2.1 p) ∧ ((((sx (i + 1).toNat).toInt < 0 ∨ t.1 66 1 < (sx (i + 1).toNat).toInt) ∧ t2 = t) ∨ ((0 ≤ (sx (i + 1).toNat).toInt ∧ (sx (i + 1).toNat).toInt ≤ t.1 66 1) ∧ (t2.1 66 1 = 0 ∧ t2.1 66 78 = 0) ∧ (t2.2.2.2 : Int) ≤ (t.2.2.2 : Int) + 9 * (sx (i + 1).toNat).toInt ∧ ∃ z2, px_A5 (t.2.1 67) (sx (i + 1).toNat).toInt z2 (t2.1 66 37) (t2.1 66 42) (t2.1 66 45) (t2.1 66 47) ∧ (z2 = 0 → ∃ l, vk_LD (t.2.1 67) (sx (i + 1).toNat).toInt l (rf_l0 t2) ∧ wr_C (t.2.1 67) (sx (i + 1).toNat).toInt l t2)))) hi hsL (fun a ea ha K' hK' => ?_) (fun t hd a ea ha K' hK' => ?_) (fun t t2 d1 d2 => ?_)
      · subst ea
        exact c_DK_load hsL 2047 (by omega) _ s K' hB.1 ha (fun q => hK' _ s (Or.inl ⟨q, rfl⟩)) (fun q1 q2 z t c1 c2 c3 c4 c5 => hK' z t (Or.inr ⟨⟨q1, q2⟩, ⟨rf_BC_desk c1 c2 rfl hB, (c2 0).2, by rw [(c2.same 66 rfl).1], (c2.same 67 rfl).2⟩, c3, z, c4, c5⟩))
      · subst ea
        have hbc : rf_BC t ∧ t.2.2 = s.2.2 := by
          rcases hd with ⟨_, q⟩ | ⟨_, q, _⟩
          · subst q
            exact ⟨hB, rfl⟩
          · exact ⟨q.1, q.2.1⟩
        have hown : t.2.2.2 ≤ 490000 := by
          rw [hbc.2]
          omega
        refine c_x_load hsL 2047 (by omega) _ t K' hbc.1.1 ha hown (fun z2 t2 c1 c2 c3 ca cv => hK' z2 t2 ?_)
        rcases c3 with ⟨c4, c5⟩ | ⟨c4, c5, c6, c7, c8⟩
        · subst c5
          exact ⟨⟨hbc.1, fun _ _ => ⟨rfl, rfl⟩⟩, Or.inl ⟨c4, rfl⟩⟩
        · rcases ca with ⟨ca, _⟩ | ⟨_, ca⟩
          · omega
          · exact ⟨⟨⟨c1, c8, fun c => absurd c6 c⟩, c2⟩, Or.inr ⟨c4, ⟨c5, c6⟩, c7.2, z2, ca, cv c4⟩⟩
      · obtain ⟨⟨b1, bc⟩, d2⟩ := d2
        have k0 := (bc 0 (by omega)).1
        rcases d1 with ⟨q1, q3⟩ | ⟨q1, ⟨_, e1, q3, q67⟩, q5, z, q4, q6⟩
        · subst q3
          rcases d2 with ⟨_, g⟩ | ⟨g, _⟩
          · subst g
            refine fin0 t2 b1 hfe hTE hCN0 ?_
            omega
          · omega
        · rcases d2 with ⟨g, _⟩ | ⟨_, ⟨g1, g78⟩, g2, z2, g3, g4⟩
          · omega
          · rw [q67] at g3 g4
            have hby : ∀ k : Nat, (k : Int) < (sx (i + 1).toNat).toInt → s.2.1 67 k = s.2.1 1 k := fun k hk => (hTE k (by omega)).symm
            obtain ⟨an2, a0, a1⟩ := px_A5_an g3
            have ez : z2 = z := px_an_fun (px_an_cg hby q1.1 an2) q4
            have f01 : t2.1 0 1 = t.1 0 1 := by rw [k0]
            have f02 : t2.1 0 2 = t.1 0 2 := by rw [k0]
            have f03 : t2.1 0 3 = t.1 0 3 := by rw [k0]
            refine fin0 t2 b1 (by omega) (fun k hk => by omega) ?_ (by rw [e1] at g2; omega)
            rcases q6 with ⟨z0, h2, h3, l, h4, h5⟩ | ⟨z0, h2⟩
            · have h37 := a0 (by omega)
              obtain ⟨l2, v1, w1⟩ := g4 (by omega)
              have v2 := vk_LD_cg hby q1.1 v1
              have w2 := wr_C_cg hby w1
              have el : l2 = l := px_TX_fun (v2 trivial).1 h4
              subst el
              have h6 : dk_LD (s.2.1 1) (sx (i + 1).toNat).toInt l2 t2 := dk_LD_c (fun p _ h => bc p (by omega)) h5
              refine ⟨s.2.1 1, (sx (i + 1).toNat).toInt, l2, by omega, fun _ _ => ?_, fun _ => g78⟩
              exact ⟨⟨v2, w2⟩, dk_LD_tx b1.1 h6, Or.inl ⟨by omega, h6, g78⟩⟩
            · have h37 := a1 (by omega)
              exact ⟨fun _ => 0, 0, [], by omega, fun q => absurd (f02.trans h2) q, fun _ => g78⟩
    · exact w_law_174 (PD := fun _ t => rf_LK zb zn zl s t) (PM := fun t t2 => rf_LK zb zn zl t t2) hi hsL (fun a ha K' hK' => c_dtold hsL 2047 (by omega) a s K' hB.1 ha (fun z _ => hK' z s ⟨hB, rfl, rfl, rfl, rfl, rfl, wv_K_0 _⟩)) (fun z t hd a ha K' hK' => c_r_told hsL 2047 (by omega) a t K' hd.1.1 ha (fun z _ => hK' z t ⟨hd.1, rfl, rfl, rfl, rfl, rfl, wv_K_0 _⟩)) (fun z t t2 h1 h2 => fin t2 (rf_LK_t h2 h1))
    · exact w_law_197 (PD := fun _ t => rf_LK zb zn zl s t) (PM := fun t t2 => rf_LK zb zn zl t t2) hi hsL (fun a ha K' hK' => c_dcount hsL 2047 (by omega) a s K' hB.1 ha (fun z _ => hK' z s ⟨hB, rfl, rfl, rfl, rfl, rfl, wv_K_0 _⟩)) (fun z t hd a ha K' hK' => c_r_count hsL 2047 (by omega) a t K' hd.1.1 ha (fun z _ => hK' z t ⟨hd.1, rfl, rfl, rfl, rfl, rfl, wv_K_0 _⟩)) (fun z t t2 h1 h2 => fin t2 (rf_LK_t h2 h1))
    · by_cases h02 : s.1 0 2 = 0
      · refine w_law_220 (PD := fun _ t => t = s) (PM := fun t t2 => t2 = t) hi hsL (fun K' hK' => ?_) (fun z t hd K' hK' => ?_) (fun z t t2 d1 d2 => ?_)
        · exact c_k_solve hsL 2047 (by omega) (fun _ => 0) 0 [] s K' hB.1 (fun q => absurd h02 q) (fun z t h => hK' z t ((h trivial).2.2 (Or.inl h02)))
        · subst hd
          have t37 : t.1 66 37 = 0 := by
            rw [← hCN.1]
            exact h02
          refine c_x_solve (wb_L (fun _ => [])) (wb_K _ hsL) (wb_F _) hsL 2047 (by omega) (fun _ => 0) 0 [] (fun _ _ => True) (fun _ => []) [] t K' hB.1 (fun q => absurd t37 q) (fun q => absurd t37 q) (fun q => absurd t37 q) (fun z2 t2 h => hK' z2 t2 ?_)
          rcases h with ⟨_, h1, h2⟩ | ⟨q, _⟩
          · exact h2
          · exact absurd t37 q
        · subst d2
          subst d1
          exact fin _ ⟨hB, rfl, rfl, rfl, rfl, rfl, wv_K_0 _⟩
      · obtain ⟨⟨g1, gC⟩, ⟨TV, AR, tl, g2, gV⟩, g3⟩ := hCN.2.1 h02 trivial
        have h37 : s.1 66 37 ≠ 0 := by
          rw [← hCN.1]
          exact h02
        refine w_law_220 (PD := fun z t => dk_SO zb zn zl s z t ∧ ((t.1 0 3 = 0 ∧ vl_sat (px_SN zb zn) zl ∧ wk_D zb zn zl t) ∨ (t.1 0 3 = 1 ∧ ¬ vl_sat (px_SN zb zn) zl))) (PM := fun t t2 => ((rf_SO t t2 ∧ vk_LD zb zn zl (rf_l0 t2)) ∧ wr_C zb zn zl t) ∧ ((vl_sat (px_SN zb zn) zl ∧ wr_D zb zn zl t2 ∧ t2.1 66 78 = 1) ∨ (¬ vl_sat (px_SN zb zn) zl ∧ t2.1 66 78 = 0))) hi hsL (fun K' hK' => ?_) (fun z t hd K' hK' => ?_) (fun z t t2 d1 d2 => ?_)
        · refine c_k_solve hsL 2047 (by omega) zb zn zl s K' hB.1 (fun _ q => ?_) (fun z t h => hK' z t ⟨h, ?_⟩)
          · rcases g3 with ⟨_, q2, _⟩ | ⟨q2, _⟩ | ⟨q2, _⟩
            · exact q2
            · omega
            · omega
          · obtain ⟨hd1, hd2, hd3⟩ := h trivial
            obtain ⟨_, _, _, _, e1, e2⟩ := hd1 trivial
            by_cases q : s.1 0 3 = -1
            · obtain ⟨f1, f2⟩ := e2 h02 q
              rcases f2 with ⟨f2, f3⟩ | ⟨f2, f3⟩
              · exact Or.inl ⟨by omega, f3, hd2 h02 q f2⟩
              · exact Or.inr ⟨by omega, f3⟩
            · have et := hd3 (Or.inr q)
              rw [et]
              rcases g3 with ⟨q2, _⟩ | ⟨q2, q3, q4, _⟩ | ⟨q2, q3, _⟩
              · exact absurd q2 q
              · exact Or.inl ⟨q2, q3, q4⟩
              · exact Or.inr ⟨q2, q3⟩
        · obtain ⟨c1, c2, _⟩ := (hd.1 trivial).1 trivial
          have e66 := (c2.same 66 rfl).1
          have hBt : rf_BC t := rf_BC_desk c1 c2 rfl hB
          have big : ∀ p, 66 ≤ p → t.2.1 p = s.2.1 p := fun p hp => ((c2 p).1 (fun q hq => by
            simp only [List.mem_cons, List.not_mem_nil, or_false] at hq
            rcases hq with rfl | rfl | rfl <;> (dsimp only; omega))).2
          have gt : vk_LD zb zn zl (rf_l0 t) := vk_LD_s (by rw [e66]) (by rw [e66]) (by rw [e66]) (by rw [e66]) (by rw [e66]) (fun p h1 _ _ => big p (by omega)) (fun p j h1 _ _ => by rw [big p (by omega)]) (fun j _ => by rw [big 105 (by omega)]) g1
          have gCt : wr_C zb zn zl t := wr_C_c (fun p hp => big p (by omega)) (fun k _ => by rw [e66]) gC
          have hRn : ∀ u : sx_S, (∀ p, 68 ≤ p → p ≤ 99 → u.2.1 p = t.2.1 p) → u.1 66 3 = t.1 66 3 → u.1 66 42 = t.1 66 42 → we_Rn (wb_E (wy_nm zb zn (vl_kf zl []))) u := fun u a1 a2 a3 => (wb_L (wy_nm zb zn (vl_kf zl [])) trivial).2.2.2 t u a1 a2 a3 (wr_nm hBt.1 gCt)
          refine c_x_solve (wb_L (wy_nm zb zn (vl_kf zl []))) (wb_K _ hsL) (wb_F _) hsL 2047 (by omega) zb zn zl TV AR tl t K' hBt.1 (fun q => ⟨hBt.2.1 q, hRn⟩) (fun _ => ⟨gt, vs_tl_vl g2⟩) (fun _ => ⟨gCt, g2, gV⟩) (fun z2 t2 h => hK' z2 t2 ?_)
          have iff := vs_sat_vl g2
          rcases h with ⟨q, _⟩ | ⟨_, h1, h2⟩
          · rw [e66] at q
            exact absurd q h37
          · refine ⟨⟨h1, gCt⟩, ?_⟩
            rcases h2 with ⟨_, f2, f3, f5⟩ | ⟨_, f1, f2⟩
            · exact Or.inl ⟨iff.mp f2, fun _ => ⟨TV, AR, tl, f3⟩, f5⟩
            · exact Or.inr ⟨fun q => f2 (iff.mpr q), f1⟩
        · obtain ⟨h, d3⟩ := d1
          obtain ⟨⟨⟨hso, hvk⟩, gCt⟩, d4⟩ := d2
          obtain ⟨c1, c2, ⟨c3, c4⟩, _⟩ := (h trivial).1 trivial
          have e66 := (c2.same 66 rfl).1
          have hBt : rf_BC t := rf_BC_desk c1 c2 rfl hB
          have t37 : t.1 66 37 ≠ 0 := by
            rw [e66]
            exact h37
          have hB2 := rf_BC_SO hBt (Or.inr ⟨t37, hso⟩)
          obtain ⟨⟨_, p2, p3⟩, _⟩ := hso
          have k0 := (p2.same 0 rfl).1
          have gC2 : wr_C zb zn zl t2 := wr_C_F p2 (by decide) (fun k hk => by
            rcases hk with rfl | rfl | rfl | rfl <;> exact p3 _ rfl) gCt
          refine fin0 t2 hB2 (by rw [p3 1 rfl, k0, e66, c3]; exact hfe) (fun k hk => ?_) ⟨zb, zn, zl, ?_, fun _ _ => ⟨⟨hvk, gC2⟩, ⟨TV, AR, tl, g2, gV⟩, Or.inr ?_⟩, fun q => ?_⟩ ?_
          · rw [(p2.same 1 rfl).2, (p2.same 67 rfl).2, (c2.same 1 rfl).2, (c2.same 67 rfl).2]
            exact hTE k (by rw [p3 1 rfl, e66] at hk; exact hk)
          · rw [k0, c4, p3 37 rfl, e66]
            exact hCN.1
          · rw [k0]
            rcases d3 with ⟨f1, f2, f3⟩ | ⟨f1, f2⟩ <;> rcases d4 with ⟨f4, f5, f6⟩ | ⟨f4, f5⟩
            · exact Or.inl ⟨f1, f2, wk_D_F hB2.1 p2 rfl f3, by omega, f5⟩
            · exact absurd f2 f4
            · exact absurd f4 f2
            · exact Or.inr ⟨f1, f2, f5⟩
          · exfalso
            rw [k0, c4] at q
            exact h02 q
          · rw [(p2 0).2, (c2 0).2, p3 1 rfl, e66]
            omega
    · exact w_law_233 (PD := fun _ t => rf_LK zb zn zl s t) (PM := fun t t2 => rf_LK zb zn zl t t2) hi hsL (fun K' hK' => c_dfresh hsL 2047 (by omega) s K' hB.1 (fun z _ => hK' z s ⟨hB, rfl, rfl, rfl, rfl, rfl, wv_K_0 _⟩)) (fun z t hd K' hK' => c_r_fresh hsL 2047 (by omega) t K' hd.1.1 (fun z _ => hK' z t ⟨hd.1, rfl, rfl, rfl, rfl, rfl, wv_K_0 _⟩)) (fun z t t2 h1 h2 => fin t2 (rf_LK_t h2 h1))
    · refine w_law_sz (PD := fun z t => (rf_LK zb zn zl s t ∧ (-2147483648 ≤ z ∧ z ≤ 2147483647)) ∧ (((s.1 0 2 ≠ 0 ∧ s.1 0 3 = 0 ∧ 0 ≤ (sx (i + 1).toNat).toInt ∧ (sx (i + 1).toNat).toInt < s.1 22 2) ∧ ∃ o, wy_O zb zn zl (sx (i + 1).toNat).toInt o ∧ z = wy_sz o) ∨ (¬ (s.1 0 2 ≠ 0 ∧ s.1 0 3 = 0 ∧ 0 ≤ (sx (i + 1).toNat).toInt ∧ (sx (i + 1).toNat).toInt < s.1 22 2) ∧ z = -1))) (PM := fun _ t z2 t2 => rf_LK zb zn zl t t2 ∧ (((t.1 66 78 ≠ 0 ∧ 0 ≤ (sx (i + 1).toNat).toInt ∧ (sx (i + 1).toNat).toInt < t.1 66 45) ∧ ∃ o, wy_O zb zn zl (sx (i + 1).toNat).toInt o ∧ z2 = wy_sz o) ∨ (¬ (t.1 66 78 ≠ 0 ∧ 0 ≤ (sx (i + 1).toNat).toInt ∧ (sx (i + 1).toNat).toInt < t.1 66 45) ∧ z2 = -1))) hi hsL (fun a ea ha K' hK' => ?_) (fun z t hd a ea ha K' hK' => ?_) (fun z t z2 t2 d1 d2 => ?_) (fun z t z2 t2 d1 d2 => fin t2 (rf_LK_t d2.1 d1.1.1))
      · subst ea
        refine c_K_size hsL 2047 (by omega) _ s K' hB.1 ha hWk (fun z t c1 c2 c3 c4 => hK' z t ⟨⟨rf_law_d c1 c2 c3 hB, ?_⟩, c4⟩)
        rcases c4 with ⟨_, o, _, c4⟩ | ⟨_, c4⟩
        · have := wy_sz_r o
          omega
        · omega
      · subst ea
        refine c_X_size hsL 2047 (by omega) _ t K' hd.1.1.1.1 ha (wv_W_r (wv_W_k hCN hd.1.1.2.2.2.2.2.2)) (fun z2 t2 _ h2 h3 h4 => hK' z2 t2 ⟨rf_law_p hd.1.1.1 h2 h3, ?_⟩)
        rcases h4 with ⟨c, o, o1, o2, _⟩ | c
        · exact Or.inl ⟨c, o, o1, o2⟩
        · exact Or.inr c
      · obtain ⟨⟨k1, r1⟩, d1⟩ := d1
        refine ⟨?_, r1⟩
        have e := wv_W_e hCN
        have e78 := (k1.2.2.2.2.2.2 trivial).2.1
        have e45 : t.1 66 78 ≠ 0 → t.1 66 45 = s.1 66 45 := fun q => by
          have q' : s.1 66 78 ≠ 0 := by
            rw [← e78]
            exact q
          have c : s.1 0 2 ≠ 0 := fun c => q' (hCN.2.2 c)
          have gC := (hCN.2.1 c trivial).1.2
          rw [wr_C_45 gC, wr_C_45 ((k1.2.2.2.2.2.2 trivial).2.2.1 gC)]
        rcases d1 with ⟨c1, o, o1, o2⟩ | ⟨c1, c2⟩
        · rcases d2.2 with ⟨c3, o', o3, o4⟩ | ⟨c3, c4⟩
          · rw [o2, o4, wy_O_fun o1 o3]
          · exfalso
            have e45' : t.1 66 45 = s.1 66 45 := e45 (by clear e45; omega)
            clear e45
            omega
        · rcases d2.2 with ⟨c3, o', o3, o4⟩ | ⟨c3, c4⟩
          · exfalso
            have e45' : t.1 66 45 = s.1 66 45 := e45 c3.1
            clear e45
            omega
          · omega
    · exact w_law_269 (PD := fun _ t => rf_LK zb zn zl s t) (PM := fun t t2 => rf_LK zb zn zl t t2) hi hsL (fun a b ha hb K' hK' => c_K_letter hsL 2047 (by omega) a b s K' hB.1 ha hb hWk (fun z t c1 c2 c3 _ _ => hK' z t (rf_law_d c1 c2 c3 hB))) (fun z t hd a b ha hb K' hK' => c_X_letter0 hsL 2047 (by omega) a b t K' hd.1.1 ha hb (wv_W_r (wv_W_k hCN hd.2.2.2.2.2.2)) (fun z t2 h2 h3 => hK' z t2 (rf_law_p hd.1 h2 h3))) (fun z t t2 h1 h2 => fin t2 (rf_LK_t h2 h1))
    · exact w_law_302 (PD := fun _ t => rf_LK zb zn zl s t) (PM := fun t t2 => rf_LK zb zn zl t t2) hi hsL (fun a b ha hb K' hK' => c_K_side hsL 2047 (by omega) a b s K' hB.1 ha hb hWk (fun z t c1 c2 c3 _ => hK' z t (rf_law_d c1 c2 c3 hB))) (fun z t hd a b ha hb K' hK' => c_X_side0 hsL 2047 (by omega) a b t K' hd.1.1 ha hb (wv_W_r (wv_W_k hCN hd.2.2.2.2.2.2)) (fun z t2 h2 h3 => hK' z t2 (rf_law_p hd.1 h2 h3))) (fun z t t2 h1 h2 => fin t2 (rf_LK_t h2 h1))
    · exact w_law_335 (PD := fun _ t => rf_LK zb zn zl s t) (PM := fun t t2 => rf_LK zb zn zl t t2) hi hsL (fun a b c ha hb hc K' hK' => c_K_sideLetter hsL 2047 (by omega) a b c s K' hB.1 ha hb hc hWk (fun z t c1 c2 c3 _ _ => hK' z t (rf_law_d c1 c2 c3 hB))) (fun z t hd a b c ha hb hc K' hK' => c_X_sideLetter0 hsL 2047 (by omega) a b c t K' hd.1.1 ha hb hc (wv_W_r (wv_W_k hCN hd.2.2.2.2.2.2)) (fun z t2 h2 h3 => hK' z t2 (rf_law_p hd.1 h2 h3))) (fun z t t2 h1 h2 => fin t2 (rf_LK_t h2 h1))
  · refine w_law_378 (by omega) (fun y hy => ⟨ms - 16, by omega, y, rfl, by omega, ⟨hB, hfe, hTE, hCN0⟩, Or.inl ⟨rfl, by omega, by omega⟩⟩)
end
section
/-! ===== what the constructors leave: the first state ===== -/
def p2_D : List va_E := [
  .inr (11, [.ref 1, .int 0, .int 0, .int (-1), .int (-1), .int (-1), .ref 2, .ref 7, .ref 18, .ref 38, .ref 55]),
  .inl (0, 240, .inl (fun _ => 0)),
  .inr (8, [.ref 3, .ref 4, .ref 5, .ref 6, .int 0, .int 0]),
  .inl (0, 240, .inl (fun _ => 0)),
  .inl (0, 240, .inl (fun _ => 0)),
  .inl (0, 240, .inl (fun _ => 0)),
  .inl (0, 240, .inl (fun _ => 0)),
  .inr (2, [.ref 2, .int 0]),
  .inr (9, [.ref 9, .ref 10, .int 2]),
  .inl (0, 256, .inl (fun _ => 0)),
  .inl (0, 256, .inl (fun _ => 0)),
  .inr (7, [.ref 8, .ref 12, .ref 13, .ref 14, .ref 15, .ref 16, .int 0, .ref 17, .int 0]),
  .inl (0, 1024, .inl (fun _ => 0)),
  .inl (0, 1024, .inl (fun _ => 0)),
  .inl (0, 1024, .inl (fun _ => 0)),
  .inl (0, 1024, .inl (fun _ => 0)),
  .inl (0, 1024, .inl (fun _ => 0)),
  .inl (0, 512, .inl (fun _ => 0)),
  .inr (1, [.ref 2, .ref 8, .ref 11, .ref 19, .ref 22, .ref 25, .ref 26, .ref 27, .ref 28, .int 0, .int 0, .int 0, .int 0, .int 0, .int 0]),
  .inr (4, [.ref 20, .ref 21, .int 0]),
  .inl (0, 8, .inl (fun _ => 0)),
  .inl (0, 8, .inl (fun _ => 0)),
  .inr (4, [.ref 23, .ref 24, .int 0]),
  .inl (0, 5, .inl (fun _ => 0)),
  .inl (0, 5, .inl (fun _ => 0)),
  .inl (0, 5, .inl (fun _ => 0)),
  .inl (0, 8, .inl (fun _ => 0)),
  .inl (0, 21, .inl (fun _ => 0)),
  .inl (0, 21, .inl (fun _ => 0)),
  .inr (3, [.ref 30, .ref 31, .ref 32, .int 0]),
  .inl (0, 1024, .inl (fun _ => 0)),
  .inl (0, 1024, .inl (fun _ => 0)),
  .inl (0, 1024, .inl (fun _ => 0)),
  .inr (0, [.ref 11, .ref 29, .ref 34, .ref 35, .ref 36, .ref 37, .int 0, .int 0, .int 0]),
  .inl (0, 32, .inl (fun _ => 0)),
  .inl (0, 32, .inl (fun _ => 0)),
  .inl (0, 128, .inl (fun _ => 0)),
  .inl (0, 128, .inl (fun _ => 0)),
  .inr (6, [.ref 11, .ref 29, .ref 33, .ref 39, .ref 46, .ref 53, .ref 54, .int 0, .int 0, .int 0, .int 0, .int 0, .int 0]),
  .inr (5, [.ref 40, .ref 41, .ref 42, .ref 43, .ref 44, .ref 45, .int 0]),
  .inl (0, 512, .inl (fun _ => 0)),
  .inl (0, 512, .inl (fun _ => 0)),
  .inl (0, 512, .inl (fun _ => 0)),
  .inl (0, 512, .inl (fun _ => 0)),
  .inl (0, 512, .inl (fun _ => 0)),
  .inl (0, 512, .inl (fun _ => 0)),
  .inr (5, [.ref 47, .ref 48, .ref 49, .ref 50, .ref 51, .ref 52, .int 0]),
  .inl (0, 512, .inl (fun _ => 0)),
  .inl (0, 512, .inl (fun _ => 0)),
  .inl (0, 512, .inl (fun _ => 0)),
  .inl (0, 512, .inl (fun _ => 0)),
  .inl (0, 512, .inl (fun _ => 0)),
  .inl (0, 512, .inl (fun _ => 0)),
  .inl (0, 32, .inl (fun _ => 0)),
  .inl (0, 4, .inl (fun _ => 0)),
  .inr (10, [.ref 18, .ref 8, .ref 11, .ref 29, .ref 33, .ref 56, .ref 63, .ref 64, .int 0, .ref 65, .int 0, .int (-1)]),
  .inr (5, [.ref 57, .ref 58, .ref 59, .ref 60, .ref 61, .ref 62, .int 0]),
  .inl (0, 512, .inl (fun _ => 0)),
  .inl (0, 512, .inl (fun _ => 0)),
  .inl (0, 512, .inl (fun _ => 0)),
  .inl (0, 512, .inl (fun _ => 0)),
  .inl (0, 512, .inl (fun _ => 0)),
  .inl (0, 512, .inl (fun _ => 0)),
  .inl (0, 32, .inl (fun _ => 0)),
  .inl (0, 128, .inl (fun _ => 0)),
  .inl (0, 4000, .inl (fun _ => 0))]
def p2_M : List va_E := [
  .inr (12, [.ref 67, .int 0, .ref 68, .int 0, .ref 69, .ref 70, .ref 71, .int 0, .int 0, .int 0, .ref 72, .ref 73, .int 0, .ref 74, .ref 75, .ref 76, .ref 77, .ref 78, .ref 79, .ref 80, .ref 81, .ref 82, .ref 83, .ref 84, .int 0, .ref 85, .ref 86, .ref 87, .ref 88, .ref 89, .ref 90, .ref 91, .ref 92, .int 0, .int 0, .ref 93, .ref 94, .int 0, .int (-1), .int (-1), .int 0, .int 0, .int 0, .ref 95, .ref 96, .int 0, .ref 97, .int 0, .ref 98, .ref 99, .int 0, .ref 100, .ref 101, .ref 102, .ref 103, .ref 104, .int 0, .ref 105, .int 0, .ref 106, .ref 107, .int 0, .ref 108, .ref 109, .int 0, .ref 110, .ref 111, .ref 112, .ref 113, .ref 114, .int 0, .int 0, .ref 115, .ref 116, .ref 117, .int 0, .int 0, .int 0, .int 0, .int 0, .ref 118, .ref 119, .ref 120, .int 0, .ref 121, .ref 122, .int 0, .ref 123, .ref 124, .int 0]),
  .inl (0, 240, .inl (fun _ => 0)),
  .inl (0, 240, .inl (fun _ => 0)),
  .inl (0, 242, .inl (fun _ => 0)),
  .inl (0, 242, .inl (fun _ => 0)),
  .inl (0, 242, .inl (fun _ => 0)),
  .inl (0, 6000, .inl (fun _ => 0)),
  .inl (0, 6000, .inl (fun _ => 0)),
  .inl (0, 600, .inl (fun _ => 0)),
  .inl (0, 600, .inl (fun _ => 0)),
  .inl (0, 600, .inl (fun _ => 0)),
  .inl (0, 600, .inl (fun _ => 0)),
  .inl (0, 600, .inl (fun _ => 0)),
  .inl (0, 600, .inl (fun _ => 0)),
  .inl (0, 600, .inl (fun _ => 0)),
  .inl (0, 600, .inl (fun _ => 0)),
  .inl (0, 600, .inl (fun _ => 0)),
  .inl (0, 600, .inl (fun _ => 0)),
  .inl (0, 600, .inl (fun _ => 0)),
  .inl (0, 60, .inl (fun _ => 0)),
  .inl (0, 60, .inl (fun _ => 0)),
  .inl (0, 60, .inl (fun _ => 0)),
  .inl (0, 60, .inl (fun _ => 0)),
  .inl (0, 60, .inl (fun _ => 0)),
  .inl (0, 60, .inl (fun _ => 0)),
  .inl (0, 60, .inl (fun _ => 0)),
  .inl (0, 60, .inl (fun _ => 0)),
  .inl (0, 60, .inl (fun _ => 0)),
  .inl (0, 60, .inl (fun _ => 0)),
  .inl (0, 8, .inl (fun _ => 0)),
  .inl (0, 8, .inl (fun _ => 0)),
  .inl (0, 5, .inl (fun _ => 0)),
  .inl (0, 4, .inl (fun _ => 0)),
  .inl (0, 4, .inl (fun _ => 0)),
  .inl (0, 60000, .inl (fun _ => 0)),
  .inl (0, 60000, .inl (fun _ => 0)),
  .inl (0, 60000, .inl (fun _ => 0)),
  .inl (0, 60000, .inl (fun _ => 0)),
  .inl (0, 60000, .inl (fun _ => 0)),
  .inl (0, 120000, .inl (fun _ => 0)),
  .inl (0, 400000, .inl (fun _ => 0)),
  .inl (0, 400000, .inl (fun _ => 0)),
  .inl (0, 3000, .inl (fun _ => 0)),
  .inl (0, 3000, .inl (fun _ => 0)),
  .inl (0, 20000, .inl (fun _ => 0)),
  .inl (1, 3000, .inl (fun _ => 0)),
  .inl (0, 3000, .inl (fun _ => 0)),
  .inl (0, 3000, .inl (fun _ => 0)),
  .inl (0, 3000, .inl (fun _ => 0)),
  .inl (0, 400000, .inl (fun _ => 0)),
  .inl (0, 400000, .inl (fun _ => 0)),
  .inl (0, 400000, .inl (fun _ => 0)),
  .inl (0, 3000, .inl (fun _ => 0)),
  .inl (1, 3000, .inl (fun _ => 0)),
  .inl (0, 3000, .inl (fun _ => 0)),
  .inl (0, 20000, .inl (fun _ => 0)),
  .inl (0, 4001, .inl (fun _ => 0)),
  .inl (0, 5, .inl (fun _ => 0)),
  .inl (1, 3000, .inl (fun _ => 0))]
set_option maxRecDepth 100000 in
theorem p2_ctorD (sL : Nat) (sx : Nat → Int32) : mx_run sL sx mx_pg 2000 2047 136 0 [(0, .ref 0)] [] [.inr (11, [.null, .int 0, .int 0, .int 0, .int 0, .int 0, .null, .null, .null, .null, .null])] 0 0 = some (none, p2_D, 65, 24329) := rfl
set_option maxRecDepth 100000 in
theorem p2_ctorM (sL : Nat) (sx : Nat → Int32) : mx_run sL sx mx_pg 2000 2047 149 0 [(0, .ref 66)] [] (p2_D ++ [.inr (12, [.null, .int 0, .null, .int 0, .null, .null, .null, .int 0, .int 0, .int 0, .null, .null, .int 0, .null, .null, .null, .null, .null, .null, .null, .null, .null, .null, .null, .int 0, .null, .null, .null, .null, .null, .null, .null, .null, .int 0, .int 0, .null, .null, .int 0, .int 0, .int 0, .int 0, .int 0, .int 0, .null, .null, .int 0, .null, .int 0, .null, .null, .int 0, .null, .null, .null, .null, .null, .int 0, .null, .int 0, .null, .null, .int 0, .null, .null, .int 0, .null, .null, .null, .null, .null, .int 0, .int 0, .null, .null, .null, .int 0, .int 0, .int 0, .int 0, .int 0, .null, .null, .null, .int 0, .null, .null, .int 0, .null, .null, .int 0])]) 0 0 = some (none, p2_D ++ p2_M, 58, 2514441) := rfl
theorem p2_law : mx_pg[230]? = some eL_law := rfl
set_option maxRecDepth 100000 in
theorem p2_pre {sL : Nat} {sx : Nat → Int32} {r : Option Value × List va_E × Nat × Nat} (h : mx_ends sL sx mx_pg 2048 230 18 [(3, .int 0), (2, .ref 66), (1, .ref 0), (0, .ref 1000000)] [] (p2_D ++ p2_M) 125 2538871 r) : mx_ends sL sx mx_pg 2048 230 0 [(0, .ref 1000000)] [] [] 0 0 r := by
  refine mx_ends_go p2_law 2 (0, [(0, .ref 1000000)], [], [], 0, 0) (4, [(0, .ref 1000000)], [.ref 0, .ref 0], [.inr (11, [.null, .int 0, .int 0, .int 0, .int 0, .int 0, .null, .null, .null, .null, .null])], 1, 11) rfl ?_
  refine mx_ends_I (r1 := (none, p2_D, 65, 24329)) (i := 0) (rest := [.ref 0]) p2_law rfl rfl rfl rfl rfl ⟨2000, p2_ctorD sL sx⟩ ?_
  refine mx_ends_go p2_law 3 (7, [(0, .ref 1000000)], [.ref 0], p2_D, 66, 24340) (12, [(1, .ref 0), (0, .ref 1000000)], [.ref 66, .ref 66], p2_D ++ [.inr (12, [.null, .int 0, .null, .int 0, .null, .null, .null, .int 0, .int 0, .int 0, .null, .null, .int 0, .null, .null, .null, .null, .null, .null, .null, .null, .null, .null, .null, .int 0, .null, .null, .null, .null, .null, .null, .null, .null, .int 0, .int 0, .null, .null, .int 0, .int 0, .int 0, .int 0, .int 0, .int 0, .null, .null, .int 0, .null, .int 0, .null, .null, .int 0, .null, .null, .null, .null, .null, .int 0, .null, .int 0, .null, .null, .int 0, .null, .null, .int 0, .null, .null, .null, .null, .null, .int 0, .int 0, .null, .null, .null, .int 0, .int 0, .int 0, .int 0, .int 0, .null, .null, .null, .int 0, .null, .null, .int 0, .null, .null, .int 0])], 67, 24430) rfl ?_
  refine mx_ends_I (r1 := (none, p2_D ++ p2_M, 58, 2514441)) (i := 66) (rest := [.ref 66]) p2_law rfl rfl rfl rfl rfl ⟨2000, p2_ctorM sL sx⟩ ?_
  exact mx_ends_go p2_law 3 (15, [(1, .ref 0), (0, .ref 1000000)], [.ref 66], p2_D ++ p2_M, 125, 2538871) (18, [(3, .int 0), (2, .ref 66), (1, .ref 0), (0, .ref 1000000)], [], p2_D ++ p2_M, 125, 2538871) rfl h
/-- the first state: all zero, but for seven fields -/
def p2_s0 : sx_S := (sx_uf (sx_uf (sx_uf (sx_uf (sx_uf (sx_uf (sx_uf (fun _ _ => 0) 0 3 (-1)) 0 4 (-1)) 0 5 (-1)) 8 2 2) 55 11 (-1)) 66 38 (-1)) 66 39 (-1), fun _ _ => 0, fun _ _ => 0, 0)
set_option maxRecDepth 100000 in
theorem p2_hp : p2_D ++ p2_M = sx_hp p2_s0 := rfl
theorem p2_uf {F : Nat → Nat → Int} {p k : Nat} {v : Int} (h : ∀ a j, -1 ≤ F a j ∧ F a j ≤ 2) (hv : -1 ≤ v ∧ v ≤ 2) : ∀ a j, -1 ≤ sx_uf F p k v a j ∧ sx_uf F p k v a j ≤ 2 := by
  intro a j
  rw [sx_uf_if]
  split
  · exact hv
  · exact h a j
theorem p2_s0_b : ∀ a j, -1 ≤ p2_s0.1 a j ∧ p2_s0.1 a j ≤ 2 := by
  refine p2_uf (p2_uf (p2_uf (p2_uf (p2_uf (p2_uf (p2_uf (fun _ _ => ⟨by decide, by decide⟩) ?_) ?_) ?_) ?_) ?_) ?_) ?_ <;> exact ⟨by decide, by decide⟩
theorem p2_lk1 {F : Nat → Nat → Int} {p k : Nat} (hF : -2147483648 ≤ F p k ∧ F p k ≤ 2147483647) : ∀ l : List (Nat × Nat × Int × Int), (∀ q ∈ l, q.2.2.1 ≤ F q.1 q.2.1 ∧ F q.1 q.2.1 ≤ q.2.2.2) → (cx_lk1 l p k).1 ≤ F p k ∧ F p k ≤ (cx_lk1 l p k).2
  | [], _ => hF
  | q :: l, h => by
    unfold cx_lk1
    cases hb : (Nat.beq q.1 p && Nat.beq q.2.1 k) with
    | true =>
      rw [Bool.and_eq_true] at hb
      have e1 : q.1 = p := Nat.eq_of_beq_eq_true hb.1
      have e2 : q.2.1 = k := Nat.eq_of_beq_eq_true hb.2
      have := h q List.mem_cons_self
      rw [e1, e2] at this
      exact this
    | false => exact p2_lk1 hF l (fun x hx => h x (List.mem_cons_of_mem _ hx))
theorem p2_lk2 {p : Nat} : ∀ l : List (Nat × Int × Int), (∀ q ∈ l, q.2.1 ≤ 0 ∧ 0 ≤ q.2.2) → (cx_lk2 l p).1 ≤ 0 ∧ 0 ≤ (cx_lk2 l p).2
  | [], _ => ⟨(by decide : (-2147483648 : Int) ≤ 0), (by decide : (0 : Int) ≤ 2147483647)⟩
  | q :: l, h => by
    unfold cx_lk2
    cases hb : Nat.beq q.1 p with
    | true => exact h q List.mem_cons_self
    | false => exact p2_lk2 l (fun x hx => h x (List.mem_cons_of_mem _ hx))
theorem p2_s0_I : cx_I p2_s0 := by
  intro b p j hp
  have hb := p2_s0_b p j
  match b with
  | 0 =>
    show (cx_rng p j).1 ≤ p2_s0.1 p j ∧ p2_s0.1 p j ≤ (cx_rng p j).2
    unfold cx_rng
    cases Nat.blt p 66 with
    | true => exact p2_lk1 ⟨by omega, by omega⟩ cx_tab (by decide)
    | false => exact p2_lk1 ⟨by omega, by omega⟩ cx_tabR (by decide)
  | 1 =>
    show (cx_arg p).1 ≤ 0 ∧ 0 ≤ (cx_arg p).2
    unfold cx_arg
    cases Nat.blt p 66 with
    | true => exact p2_lk2 cx_atab (by decide)
    | false => exact p2_lk2 cx_atabR (by decide)
  | _ + 2 =>
    intro _
    exact Int.le_refl 0
theorem p2_s0_BC : rf_BC p2_s0 := ⟨p2_s0_I, fun h => absurd rfl h, fun h => absurd rfl h⟩
/-- every script ends with 1, within the room -/
theorem p2_good {sL : Nat} {sx : Nat → Int32} (hsL : sL ≤ 3072) : ∃ (hp' : List va_E) (c' s' : Nat), mx_ends sL sx mx_pg 2048 230 0 [(0, .ref 1000000)] [] [] 0 0 (some (.int 1), hp', c', s') ∧ c' ≤ 600000 ∧ s' ≤ 7302250 := by
  have h := rf_law (sx := sx) hsL p2_s0 p2_s0_BC rfl rfl rfl ⟨fun _ => 0, 0, [], rfl, fun h => absurd rfl h, fun _ => rfl⟩
  have h' := sx_E.more (ls := [(3, .inl 0), (2, .inr (.inl 66)), (1, .inr (.inl 0)), (0, .inr (.inl 1000000))]) h (fun i v q => by
    match i with
    | 0 => exact q
    | 1 => exact q
    | 2 => exact q
    | 3 => exact q
    | _ + 4 => cases q)
  obtain ⟨z, t, h1, h2, h3, h4⟩ := h' (Nat.zero_le _) eL_law p2_law 125 2538871
  subst h4
  rw [← p2_hp] at h1
  have e0 : t.2.2.2 - p2_s0.2.2.2 ≤ 500000 := Nat.le_trans (Nat.sub_le _ _) h3
  exact ⟨_, _, _, p2_pre h1, by omega, by omega⟩
end
section
/-! THE CLAIM OUT OF ONE WALK OF THE LAW'S BODY. Your part is whole_start (and what it stands on); all else here is the same for every law, but numbers. -/
def R_law : String := "PatternDeskLaw"
def lw_P (b : Addr) (xs : List Int32) (args : Array Value) (s : State) : Prop := args = #[.ref b] ∧ s.IntsAt b xs ∧ xs.length ≤ 3072 ∧ (Jvm.Cond.and given_1 narrow_1).before args s = true
def lw_Q (_ : Array Value) (s : State) (o : Outcome) (t : State) : Prop := o = .returned (some (.int 1)) ∧ Framed s o t [] 600000 7302250
def lw_Z (below : List Frame) (a : Array Value) (s : State) : State → Prop := fun t => ∃ o, t.status = .running ∧ Ended t below o ∧ lw_Q a s o t
/-- what holds at the law's entry: the machine, the code, the tables' words (any of lw_tbl by 'hts w (by decide +kernel)'), the script of L ints xs at the cell b, what the Statement gives of the start (any of its parts by flat_of_before) -/
def lw_At (p : Program) (s : State) (m : MethodId) (meth : Method) (c : Code) (b L : Nat) (xs : Nat → Int32) : Prop :=
  p.tables.exec = Jvm.exec ∧ c.code = code ∧ meth.sig.returnType = ret ∧ c.maxLocals = 4 ∧ s.vm.findClass R_law = some m.cls ∧ (∀ w ∈ lw_tbl, w.before #[Value.ref b] s = true) ∧ va_X b L xs s s.heap ∧ b < s.heap.size ∧ meth.locks = false ∧ (Jvm.Cond.and given_1 narrow_1).before #[Value.ref b] s = true
/-! ===== THE LAW'S ENTRY: what lies below the first place; a run of the evaluator that answers 1 gives the walk ===== -/
theorem mx_c_eq {c : Nat} {q : vw_C} (h : vwCl[c]? = some q) : c < 13 ∧ q = mx_c c := by
  refine ⟨(List.getElem?_eq_some_iff.mp h).1, ?_⟩
  unfold mx_c
  rw [List.getD_eq_getElem?_getD, h]
  rfl
theorem mx_arr {s : State} {args : Array Value} {ty : FieldType} (h : (Cond.arrayClass ty).before args s = true) : ∃ cA : ClassId, ArrOfT s cA ty ∧ s.vm.findClass ("[" ++ ty.toString) = some cA := by
  obtain ⟨cA, kA, comp, h1, h2, h3⟩ := Cond.arrayClass_spec h
  exact ⟨cA, fun n z => ⟨fun k h => (by cases h), kA, h2, comp, h3⟩, h1⟩
def mx_ad (h b : Nat) (aK aV : Nat → Nat) (f g : Nat) : Nat → Nat := fun i => if i < 1000000 then h + i else if i = 1000000 then b else if i = 1000013 then f else if i = 1000014 then g else if i % 2 = 1 then aK ((i - 1000001) / 2) else aV ((i - 1000002) / 2)
theorem mx_ad_K {h b f g : Nat} {aK aV : Nat → Nat} {i : Nat} (hi : i < 6) : mx_ad h b aK aV f g (1000001 + 2 * i) = aK i := by
  unfold mx_ad
  rw [if_neg (by omega), if_neg (by omega), if_neg (by omega), if_neg (by omega), if_pos (by omega)]
  congr 1
  omega
theorem mx_ad_V {h b f g : Nat} {aK aV : Nat → Nat} {i : Nat} (hi : i < 6) : mx_ad h b aK aV f g (1000002 + 2 * i) = aV i := by
  unfold mx_ad
  rw [if_neg (by omega), if_neg (by omega), if_neg (by omega), if_neg (by omega), if_neg (by omega)]
  congr 1
  omega
theorem mx_S_to {N : Nat} {len : List Nat} {byt : List (List Int32)} {aK aV bK bV : Nat → Nat} {A : Nat → Prop} {U : State} {H : Heap} (h : vk_S N len byt aK aV A U H) (hk : ∀ i, i < N → bK i = aK i) (hv : ∀ i, i < N → bV i = aV i) : vk_S N len byt bK bV A U H :=
  ⟨fun i hi => by rw [hk i hi, hv i hi]; exact h.1 i hi, fun i j hi hj e => h.2 i j hi hj (by rw [← hk i hi, ← hk j hj]; exact e)⟩
def mx_tm (i : Nat) : Term := .string "PatternDesk$Tokens" (([66, 76, 82, 84, 86, 88] : List Nat).getD i 0)
theorem mx_X_of {s : State} {b L : Nat} {xs : Nat → Int32} (hts : ∀ w ∈ lw_tbl, w.before #[Value.ref b] s = true) (hX : va_X b L xs s s.heap) (hgv : (Jvm.Cond.and given_1 narrow_1).before #[Value.ref b] s = true) : ∃ (aK aV : Nat → Nat) (f g : Nat), ∀ (cA cC : Nat → ClassId) (iS : Nat → Nat → Nat), mx_X (mx_ad s.heap.size b aK aV f g, cA, cC, iS, s.heap.size, b, L, xs) s s.heap := by
  have hs := flat_of_before _ hgv
  have hA : ∀ a : Nat, a < s.heap.size → ¬ (fun q : Nat => s.heap.size ≤ q) a := fun a h q => absurd q (Nat.not_le.mpr h)
  have ht : ∀ c w, (mx_part (c / 1000))[c % 1000]? = some w → w.before #[Value.ref b] s = true := fun c w h => hts w (mx_part_in _ _ (List.mem_of_getElem? h))
  have g1 : ∀ i, i < 6 → (Cond.exactly (mx_tm i) "java/lang/String").before #[Value.ref b] s = true := fun i hi => hs _ (by revert i; decide +kernel)
  have g2 : ∀ i, i < 6 → (Cond.eq (.field (mx_tm i) "java/lang/String" "coder" "B") (.int 0)).before #[Value.ref b] s = true := fun i hi => hs _ (by revert i; decide +kernel)
  have g3 : ∀ i, i < 6 → (Cond.arrayOf (.field (mx_tm i) "java/lang/String" "value" "[B") .byte).before #[Value.ref b] s = true := fun i hi => hs _ (by revert i; decide +kernel)
  have g4 : ∀ i, i < 6 → (Cond.eq (.length (.field (mx_tm i) "java/lang/String" "value" "[B")) (.int (Int32.ofNat (mx_sln.getD i 0)))).before #[Value.ref b] s = true := fun i hi => hs _ (by revert i; decide +kernel)
  have g5 : ∀ i, i < 6 → ∀ j, j < mx_sln.getD i 0 → (Cond.eq (.elem (.field (mx_tm i) "java/lang/String" "value" "[B") (.int (Int32.ofNat j))) (.int ((mx_sby.getD i []).getD j 0))).before #[Value.ref b] s = true := fun i hi j hj => hs _ (by revert i j; decide +kernel)
  have g6 : ∀ i, i < 6 → ∀ j, j < 6 → i < j → (Cond.not (Cond.eq (mx_tm i) (mx_tm j))).before #[Value.ref b] s = true := fun i hi j hj c => hs _ (by revert i hi j hj c; decide +kernel)
  obtain ⟨aK, aV, hS, hev⟩ := vk_Sof (args := #[Value.ref b]) (s := s) (N := 6) (tm := mx_tm) (len := mx_sln) (byt := mx_sby) (A := fun q : Nat => s.heap.size ≤ q) (by decide) g1 g2 g3 g4 g5 (fun i j hi hj hij => by
    rcases Nat.lt_or_gt_of_ne hij with c | c
    · exact Or.inl (g6 i hi j hj c)
    · exact Or.inr (g6 j hj i hi c)) hA
  have hZ1 : va_Z "java/lang/String" "COMPACT_STRINGS" "Z" (.int 1) (fun q : Nat => s.heap.size ≤ q) s s.heap := va_Zof (ht 2203 _ rfl) (ht 1016 _ rfl) (va_eqi (hs _ (by decide +kernel))) hA
  have hZ2 : va_Zq "jdk/internal/util/Preconditions" "SIOOBE_FORMATTER" "Ljava/util/function/BiFunction;" (fun q : Nat => s.heap.size ≤ q) s s.heap := va_Zqof (ht 3002 _ rfl) (ht 1019 _ rfl) (hs _ (by decide +kernel)) hA
  have hq : ∃ f g : Nat, va_Z "jdk/internal/util/Preconditions" "SIOOBE_FORMATTER" "Ljava/util/function/BiFunction;" (if g = 0 then .null else .ref f) (fun q : Nat => s.heap.size ≤ q) s s.heap := by
    rcases hZ2 with h | ⟨t, h⟩
    · exact ⟨0, 0, h⟩
    · exact ⟨t, 1, h⟩
  obtain ⟨f, g, hfg⟩ := hq
  have hR : ∀ (i : Nat), i < 6 → ∀ (own : String) (k : Nat) (tx : String), (Cond.stringRef own k tx).before #[Value.ref b] s = true → (Term.string own k).eval #[Value.ref b] s none [] s = some (.ref (aK i)) → vk_R own k tx (mx_ad s.heap.size b aK aV f g (1000001 + 2 * i)) s := fun i hi own k tx h1 h2 => vk_R.of h1 (by rw [mx_ad_K hi]; exact h2)
  refine ⟨aK, aV, f, g, fun cA cC iS => ⟨hX, mx_S_to hS (fun i hi => mx_ad_K hi) (fun i hi => mx_ad_V hi), ?_, hZ1, hfg, ?_⟩⟩
  · refine List.forall_mem_cons.mpr ⟨hR 0 (by decide) _ _ _ (ht 2189 _ rfl) (hev 0 (by decide)), ?_⟩
    refine List.forall_mem_cons.mpr ⟨hR 1 (by decide) _ _ _ (ht 3046 _ rfl) (hev 1 (by decide)), ?_⟩
    refine List.forall_mem_cons.mpr ⟨hR 2 (by decide) _ _ _ (ht 3072 _ rfl) (hev 2 (by decide)), ?_⟩
    refine List.forall_mem_cons.mpr ⟨hR 3 (by decide) _ _ _ (ht 3073 _ rfl) (hev 3 (by decide)), ?_⟩
    refine List.forall_mem_cons.mpr ⟨hR 4 (by decide) _ _ _ (ht 3074 _ rfl) (hev 4 (by decide)), ?_⟩
    refine List.forall_mem_cons.mpr ⟨hR 5 (by decide) _ _ _ (ht 3075 _ rfl) (hev 5 (by decide)), ?_⟩
    refine List.forall_mem_cons.mpr ⟨hR 1 (by decide) _ _ _ (ht 6239 _ rfl) (va_eqR (hs (Cond.eq (.string "PatternDesk$Tokens" 76) (.string "PatternDeskModel" 221)) (by decide +kernel)) (hev 1 (by decide))), ?_⟩
    refine List.forall_mem_cons.mpr ⟨hR 2 (by decide) _ _ _ (ht 7006 _ rfl) (va_eqR (hs (Cond.eq (.string "PatternDesk$Tokens" 82) (.string "PatternDeskModel" 227)) (by decide +kernel)) (hev 2 (by decide))), ?_⟩
    refine List.forall_mem_cons.mpr ⟨hR 3 (by decide) _ _ _ (ht 7007 _ rfl) (va_eqR (hs (Cond.eq (.string "PatternDesk$Tokens" 84) (.string "PatternDeskModel" 229)) (by decide +kernel)) (hev 3 (by decide))), ?_⟩
    refine List.forall_mem_cons.mpr ⟨hR 4 (by decide) _ _ _ (ht 7008 _ rfl) (va_eqR (hs (Cond.eq (.string "PatternDesk$Tokens" 86) (.string "PatternDeskModel" 231)) (by decide +kernel)) (hev 4 (by decide))), ?_⟩
    refine List.forall_mem_cons.mpr ⟨hR 5 (by decide) _ _ _ (ht 7009 _ rfl) (va_eqR (hs (Cond.eq (.string "PatternDesk$Tokens" 88) (.string "PatternDeskModel" 233)) (by decide +kernel)) (hev 5 (by decide))), ?_⟩
    exact fun _ h => absurd h List.not_mem_nil
  · refine List.forall_mem_cons.mpr ⟨va_Nw.of rfl (ht 3233 _ rfl), ?_⟩
    refine List.forall_mem_cons.mpr ⟨va_Nw.of rfl (ht 4019 _ rfl), ?_⟩
    exact fun _ h => absurd h List.not_mem_nil
theorem mx_law {p : Program} {e : Env} {s : State} {m : MethodId} {below : List Frame} {meth : Method} {c : Code} (l : Launch) {b L : Nat} {xs : Nat → Int32} (hL : L ≤ 3072) (C0 : lw_At p s m meth c b L xs) {n : Nat} {hp' : List va_E} {c' s' : Nat} (h : mx_run L xs mx_pg n 2048 230 0 [(0, .ref 1000000)] [] [] 0 0 = some (some (.int 1), hp', c', s')) (hc : c' ≤ 600000) (hs : s' ≤ 7302250) :
    W p l e room_1 s m #[Value.ref b] below meth c s.heap [] 0 0 (lw_Z below #[Value.ref b] s) (entryFrame m ([Value.ref b] : List Value).toArray 4) := by
  obtain ⟨hx, hb, hr, hml, hown, hts, hX, hbl, hlocks, hgv⟩ := C0
  have ht : ∀ w ∈ mx_tb, w.before #[Value.ref b] s = true := fun w hw => hts w (List.mem_filter.mp hw).1
  obtain ⟨a0, h01, h02⟩ := mx_arr (ht (.arrayClass .int) (mx_mem (c := 1055) rfl (by decide +kernel)))
  obtain ⟨a1, h11, h12⟩ := mx_arr (ht (.arrayClass .boolean) (mx_mem (c := 6212) rfl (by decide +kernel)))
  obtain ⟨a2, h21, h22⟩ := mx_arr (ht (.arrayClass .byte) (mx_mem (c := 4058) rfl (by decide +kernel)))
  have hk0 : ∀ ci : Nat, ∃ q : ClassId × (Nat → Nat), ci < 13 → u_Kn s (mx_c ci).1 (mx_c ci).2.1 (mx_c ci).2.2 q.1 q.2 := by
    intro ci
    by_cases hci : ci < 13
    · obtain ⟨cC, iS, hkn⟩ := u_known ht (mx_in_tb ci hci) (ht _ (mx_inst ci hci).1)
      exact ⟨(cC, iS), fun _ => hkn⟩
    · exact ⟨(0, fun _ => 0), fun q => absurd q hci⟩
  obtain ⟨fk, hfk⟩ := Classical.axiomOfChoice hk0
  obtain ⟨aK, aV, f9, g9, hXX⟩ := mx_X_of hts hX hgv
  let E : mx_Ev := (mx_ad s.heap.size b aK aV f9 g9, fun t => if t = 0 then a0 else if t = 1 then a1 else a2, fun ci => (fk ci).1, fun ci => (fk ci).2, s.heap.size, b, L, xs)
  have hE : mx_ok E := ⟨fun i hi => if_pos hi, hbl, rfl, hL⟩
  have hK : mx_K E s := by
    refine ⟨fun ci q hq => ?_, fun k q hq => ?_⟩
    · obtain ⟨h1, rfl⟩ := mx_c_eq hq
      exact hfk ci h1
    · match k, hq with
      | 0, hq => cases hq; exact ⟨h01, h02⟩
      | 1, hq => cases hq; exact ⟨h11, h12⟩
      | 2, hq => cases hq; exact ⟨h21, h22⟩
      | k + 3, hq => simp [mx_T] at hq
  have hW := (mx_sound (l := l) (E := E) (sL := L) (sx := xs) rfl rfl hE mx_pg_ok n 2048 230 0 _ [] [] 0 0 _ hp' c' s' eL_law rfl h).2.2 room_1 600000 7302250 (fun v _ => v = some (.int 1)) hc hs (Nat.le_refl _) (Nat.le_refl _) (Nat.le_refl _) (Nat.le_of_ble_eq_true rfl) rfl
  have hl := lv_entry ([.ref b]) (n := 4) (Nat.le_of_ble_eq_true rfl)
  rw [lg_entry_eq]
  have hg := hW p e s m #[Value.ref b] below meth c s.heap [] _ ⟨hE, hx, hb, hml, hr, hlocks, fun q => absurd q (by decide), hown, ht, hK, Nat.le_refl _, hXX _ _ _⟩ ⟨fun k q hq => by simp [mx_w] at hq, rfl, Nat.zero_le _⟩ va_S.rf hl
  intro T hT X
  obtain ⟨t, a, o, b1, b2, ⟨⟨v, hp, ho, hv, -⟩, -⟩, Lc, hF, hLc⟩ := hg T hT X
  subst hv
  refine ⟨t, a, o, b1, b2, ho, ⟨_, ho⟩, hF.2.1, ?_⟩
  exact hF.2.2.weaken (fun y hy hlt => absurd hlt (Nat.not_lt.mpr (hLc y hy))) (Nat.le_refl _) (Nat.le_refl _)
end
