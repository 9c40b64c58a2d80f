/-! ===== the law's loop ===== -/
/-- the same bytes in both tapes -/
def rf_TE (s : sx_S) : Prop := ∀ k : Nat, (k : Int) < s.1 66 1 → s.2.1 1 k = s.2.1 67 k
/-- the same is told of the text in both -/
def rf_CN (s : sx_S) : Prop := s.1 0 2 = s.1 66 37 ∧ (s.1 0 2 ≠ 0 → s.1 19 2 = s.1 66 42 ∧ s.1 22 2 = s.1 66 45 ∧ s.1 18 10 = s.1 66 47)
def rf_NK (s t : sx_S) : Prop := (t.1 0 2 = s.1 0 2 ∧ t.1 18 10 = s.1 18 10 ∧ t.1 19 2 = s.1 19 2 ∧ t.1 22 2 = s.1 22 2) ∧ t.1 66 37 = s.1 66 37 ∧ t.1 66 42 = s.1 66 42 ∧ t.1 66 45 = s.1 66 45 ∧ t.1 66 47 = s.1 66 47
theorem rf_NK_0 (s : sx_S) : rf_NK s s := ⟨⟨rfl, rfl, rfl, rfl⟩, rfl, rfl, rfl, rfl⟩
theorem rf_NK_t {s t u : sx_S} (h2 : rf_NK t u) (h1 : rf_NK s t) : rf_NK s u := by
  obtain ⟨⟨a1, a2, a3, a4⟩, a5, a6, a7, a8⟩ := h1
  obtain ⟨⟨b1, b2, b3, b4⟩, b5, b6, b7, b8⟩ := h2
  exact ⟨⟨by omega, by omega, by omega, by omega⟩, by omega, by omega, by omega, by omega⟩
theorem rf_CN_k {s t : sx_S} (h : rf_CN s) (k : rf_NK s t) : rf_CN t := by
  obtain ⟨⟨a1, a2, a3, a4⟩, a5, a6, a7, a8⟩ := k
  obtain ⟨h1, h2⟩ := h
  refine ⟨by omega, fun q => ?_⟩
  have := h2 (by omega)
  omega
theorem rf_NK_d {V : List (Nat × Nat)} {s t : sx_S} (c2 : cx_F V s t) (h18 : cx_outb V 18 = true) (h19 : cx_outb V 19 = true) (h22 : cx_outb V 22 = true) (h66 : cx_outb V 66 = true) (c4 : t.1 0 2 = s.1 0 2) : rf_NK s t := ⟨⟨c4, congrFun (c2.same 18 h18).1 10, congrFun (c2.same 19 h19).1 2, congrFun (c2.same 22 h22).1 2⟩, congrFun (c2.same 66 h66).1 37, congrFun (c2.same 66 h66).1 42, congrFun (c2.same 66 h66).1 45, congrFun (c2.same 66 h66).1 47⟩
def rf_LV (sL ms pc : Nat) (ls : sx_L) (s : sx_S) : Prop := (∃ i : Int, ls = [(0, .inr (.inl 1000000)), (1, .inr (.inl 0)), (2, .inr (.inl 66)), (3, .inl i)] ∧ (0 ≤ i ∧ i ≤ 3078) ∧ (rf_BC s ∧ s.1 66 1 = s.1 0 1 ∧ rf_TE s ∧ rf_CN s) ∧ ((pc = 18 ∧ (s.2.2.2 : Int) + 10 * s.1 66 1 ≤ 34 * i ∧ (ms : Int) = 3 * (4000 - i)) ∨ (pc ∈ [88, 151, 174, 197, 220, 233, 246, 269, 302, 335] ∧ i + 6 ≤ (sL : Int) ∧ (s.2.2.2 : Int) + 10 * s.1 66 1 ≤ 34 * i ∧ (ms : Int) = 3 * (4000 - i) - 1) ∨ (pc = 378 ∧ i + 6 ≤ (sL : Int) ∧ (s.2.2.2 : Int) + 10 * s.1 66 1 ≤ 34 * (i + 6) ∧ (ms : Int) = 3 * (4000 - i) - 2)))
/-- a call that leaves what is fed as it was -/
def rf_LK (s t : sx_S) : Prop := rf_BC t ∧ t.2.2 = s.2.2 ∧ t.1 66 1 = s.1 66 1 ∧ t.1 0 1 = s.1 0 1 ∧ t.2.1 1 = s.2.1 1 ∧ t.2.1 67 = s.2.1 67 ∧ rf_NK s t
theorem rf_LK_t {s t u : sx_S} (h2 : rf_LK t u) (h1 : rf_LK s t) : rf_LK s u := ⟨h2.1, h2.2.1.trans h1.2.1, h2.2.2.1.trans h1.2.2.1, h2.2.2.2.1.trans h1.2.2.2.1, h2.2.2.2.2.1.trans h1.2.2.2.2.1, h2.2.2.2.2.2.1.trans h1.2.2.2.2.2.1, rf_NK_t h2.2.2.2.2.2.2 h1.2.2.2.2.2.2⟩
theorem rf_law_d {V : List (Nat × Nat)} {s t : sx_S} (c1 : cx_I t) (c2 : cx_F V s t) (hV : cx_le V [(0, 65)] = true) (hV1 : cx_outb V 1 = true) (h18 : cx_outb V 18 = true) (h19 : cx_outb V 19 = true) (h22 : cx_outb V 22 = true) (h66 : cx_outb V 66 = true) (c4 : t.1 0 1 = s.1 0 1 ∧ t.1 0 2 = s.1 0 2) (h : rf_BC s) : rf_LK s t := by
  have hF1 : cx_F [(0, 65)] s t := cx_F_step c2 hV (cx_F_refl _ _)
  exact ⟨rf_BC_desk c1 c2 hV h, (c2 0).2, by rw [(hF1.same 66 rfl).1], c4.1, (c2.same 1 hV1).2, (hF1.same 67 rfl).2, rf_NK_d c2 h18 h19 h22 h66 c4.2⟩
theorem rf_law_p {s t : sx_S} (h : rf_BC s) (p : t = s ∨ (s.1 66 78 ≠ 0 ∧ rf_PP s t)) : rf_LK s t := by
  refine ⟨rf_BC_P h p, ?_⟩
  rcases p with rfl | ⟨_, _, p2, p3⟩
  · exact ⟨rfl, rfl, rfl, rfl, rfl, rf_NK_0 _⟩
  · exact ⟨(p2 0).2, p3 1 rfl, by rw [(p2.same 0 rfl).1], (p2.same 1 rfl).2, (p2.same 67 rfl).2, ⟨⟨by rw [(p2.same 0 rfl).1], by rw [(p2.same 18 rfl).1], by rw [(p2.same 19 rfl).1], by rw [(p2.same 22 rfl).1]⟩, p3 37 rfl, p3 42 rfl, p3 45 rfl, p3 47 rfl⟩⟩
theorem rf_law_s {s t : sx_S} (h : rf_BC s) (p : t = s ∨ (s.1 66 37 ≠ 0 ∧ rf_SO s t)) : rf_LK s t := by
  refine ⟨rf_BC_SO h p, ?_⟩
  rcases p with rfl | ⟨_, ⟨_, p2, p3⟩, _⟩
  · exact ⟨rfl, rfl, rfl, rfl, rfl, rf_NK_0 _⟩
  · exact ⟨(p2 0).2, p3 1 rfl, by rw [(p2.same 0 rfl).1], (p2.same 1 rfl).2, (p2.same 67 rfl).2, ⟨⟨by rw [(p2.same 0 rfl).1], by rw [(p2.same 18 rfl).1], by rw [(p2.same 19 rfl).1], by rw [(p2.same 22 rfl).1]⟩, p3 37 rfl, p3 42 rfl, p3 45 rfl, p3 47 rfl⟩⟩
theorem rf_g_ex {s : sx_S} (h : rf_BC s) : ∃ g, s.1 66 78 ≠ 0 → rf_HS s g := by
  by_cases c : s.1 66 78 ≠ 0
  · obtain ⟨g, hg⟩ := h.2.2 c
    exact ⟨g, fun _ => hg⟩
  · exact ⟨rf_g0 s, fun q => absurd q c⟩
set_option maxRecDepth 8000 in
theorem rf_law {sL : Nat} {sx : Nat → Int32} (hsL : sL ≤ 3072) (s0 : sx_S) (h0 : rf_BC s0) (h1 : s0.1 66 1 = 0) (h2 : s0.1 0 1 = 0) (h3 : s0.2.2.2 = 0) (h4 : rf_CN s0) : sx_E sL sx 2048 230 18 [(0, .inr (.inl 1000000)), (1, .inr (.inl 0)), (2, .inr (.inl 66)), (3, .inl 0)] [] s0 (fun z _ => z = 1) := by
  refine sx_loops (wr := true) (d := 2046) (n := 400) (stop := [(18, [0, 1, 2, 3]), (88, [0, 1, 2, 3]), (151, [0, 1, 2, 3]), (174, [0, 1, 2, 3]), (197, [0, 1, 2, 3]), (220, [0, 1, 2, 3]), (233, [0, 1, 2, 3]), (246, [0, 1, 2, 3]), (269, [0, 1, 2, 3]), (302, [0, 1, 2, 3]), (335, [0, 1, 2, 3]), (378, [0, 1, 2, 3])]) (rf_LV sL) hsL (e := eL_law) rfl ?_ 12000 18 _ s0 ⟨0, rfl, by omega, ⟨h0, by omega, fun k hk => by omega, h4⟩, Or.inl ⟨rfl, by omega, by omega⟩⟩
  rintro ms pc ls s ⟨i, rfl, hi0, ⟨hB, hfe, hTE, hCN⟩, h⟩
  have r1 := hB.1.fld 66 1 (by decide) rfl
  rcases h with ⟨rfl, ho, hm⟩ | ⟨hpc, hi, ho, hm⟩ | ⟨rfl, hi, ho, hm⟩
  · refine w_law_18 hsL hi0 rfl (fun hi p hp => ?_)
    have hp2 : p ∈ [88, 151, 174, 197, 220, 233, 246, 269, 302, 335] ∨ p = 378 := by
      simp only [List.mem_cons, List.not_mem_nil, or_false] at hp ⊢
      omega
    rcases hp2 with hp2 | hp2
    · exact ⟨ms - 1, by omega, i, rfl, hi0, ⟨hB, hfe, hTE, hCN⟩, Or.inr (Or.inl ⟨hp2, hi, ho, by omega⟩)⟩
    · exact ⟨ms - 2, by omega, i, rfl, hi0, ⟨hB, hfe, hTE, hCN⟩, Or.inr (Or.inr ⟨hp2, hi, by omega, by omega⟩)⟩
  · have fin0 : ∀ t2 : sx_S, rf_BC t2 → t2.1 66 1 = t2.1 0 1 → rf_TE t2 → rf_CN t2 → (t2.2.2.2 : Int) + 10 * t2.1 66 1 ≤ 34 * (i + 6) → ∃ m', m' < ms ∧ (rf_LV sL) m' 378 [(0, .inr (.inl 1000000)), (1, .inr (.inl 0)), (2, .inr (.inl 66)), (3, .inl i)] t2 := fun t2 b1 b2 bT bC b3 => ⟨ms - 1, by omega, i, rfl, hi0, ⟨b1, b2, bT, bC⟩, Or.inr (Or.inr ⟨rfl, hi, b3, by omega⟩)⟩
    have hi : 0 ≤ i ∧ i + 6 ≤ (sL : Int) := ⟨hi0.1, hi⟩
    have fin : ∀ t2 : sx_S, rf_LK s t2 → ∃ m', m' < ms ∧ (rf_LV sL) m' 378 [(0, .inr (.inl 1000000)), (1, .inr (.inl 0)), (2, .inr (.inl 66)), (3, .inl i)] t2 := fun t2 hk => by
      obtain ⟨k1, k2, k3, k4, k5, k6, k7⟩ := hk
      refine fin0 t2 k1 (by omega) (fun k hk => by rw [k5, k6]; exact hTE k (by omega)) (rf_CN_k hCN k7) ?_
      rw [k2, k3]
      omega
    simp only [List.mem_cons, List.not_mem_nil, or_false] at hpc
    rcases hpc with rfl | rfl | rfl | rfl | rfl | rfl | rfl | rfl | rfl | rfl
    · refine w_law_fd (PD := fun t => (rf_BC t ∧ t.2.2 = s.2.2 ∧ t.1 66 1 = s.1 66 1 ∧ t.2.1 67 = s.2.1 67 ∧ rf_NK s t) ∧ ((240 < s.1 0 1 + 20 ∧ t = s) ∨ (s.1 0 1 + 20 ≤ 240 ∧ dz_TP 1 0 (dz_FB (sx (i + 1).toNat).toInt (sx (i + 2).toNat).toInt (sx (i + 3).toNat).toInt (sx (i + 4).toNat).toInt (sx (i + 5).toNat).toInt) s 20 t))) (PM := fun t t2 => (rf_BC t2 ∧ t2.2.2 = t.2.2 ∧ t2.1 0 1 = t.1 0 1 ∧ t2.2.1 1 = t.2.1 1 ∧ rf_NK t t2) ∧ ((240 < t.1 66 1 + 20 ∧ t2 = t) ∨ (t.1 66 1 + 20 ≤ 240 ∧ dz_TP 67 66 (dz_FB (sx (i + 1).toNat).toInt (sx (i + 2).toNat).toInt (sx (i + 3).toNat).toInt (sx (i + 4).toNat).toInt (sx (i + 5).toNat).toInt) t 20 t2))) hi hsL (fun a b c e f ea eb ec ee ef K' hK' => ?_) (fun t hd a b c e f ea eb ec ee ef K' hK' => ?_) (fun t t2 d1 d2 => ?_)
      · subst ea eb ec ee ef
        exact c_dz_feed hsL 2047 (by omega) _ _ _ _ _ s K' hB.1 (rf_i32 _) (rf_i32 _) (rf_i32 _) (rf_i32 _) (rf_i32 _) (fun q => hK' _ s ⟨⟨hB, rfl, rfl, rfl, rf_NK_0 _⟩, Or.inl ⟨q, rfl⟩⟩) (fun q t c2 c3 => hK' _ t ⟨⟨rf_BC_desk (c3 trivial).1 c2 rfl hB, (c2 0).2, by rw [(c2.same 66 rfl).1], (c2.same 67 rfl).2, rf_NK_d c2 rfl rfl rfl rfl ((c3 trivial).2.2.2.2 2 (by decide))⟩, Or.inr ⟨q, c3⟩⟩)
      · subst ea eb ec ee ef
        exact c_q_feed hsL 2047 (by omega) _ _ _ _ _ t K' hd.1.1.1 (rf_i32 _) (rf_i32 _) (rf_i32 _) (rf_i32 _) (rf_i32 _) (fun q => hK' _ t ⟨⟨hd.1.1, rfl, rfl, rfl, rf_NK_0 _⟩, Or.inl ⟨q, rfl⟩⟩) (fun q t2 c2 c4 c3 => hK' _ t2 ⟨⟨rf_BC_k (c3 trivial).1 (cx_F_step c2 rfl (cx_F_refl _ _)) c4 hd.1.1, (c2 0).2, by rw [(c2.same 0 rfl).1], (c2.same 1 rfl).2, ⟨⟨by rw [(c2.same 0 rfl).1], by rw [(c2.same 18 rfl).1], by rw [(c2.same 19 rfl).1], by rw [(c2.same 22 rfl).1]⟩, c4 37 rfl, c4 42 rfl, c4 45 rfl, c4 47 rfl⟩⟩, Or.inr ⟨q, c3⟩⟩)
      · obtain ⟨⟨_, e1, d3, d67, dk⟩, d4⟩ := d1
        obtain ⟨⟨b1, e2, d6, d11, dl⟩, d5⟩ := d2
        have hCN2 := rf_CN_k hCN (rf_NK_t dl dk)
        rcases d4 with ⟨f1, f2⟩ | ⟨f1, f2⟩
        · subst f2
          rcases d5 with ⟨g1, g2⟩ | ⟨g1, _⟩
          · subst g2
            refine fin0 t2 b1 hfe hTE hCN2 ?_
            omega
          · omega
        · rcases d5 with ⟨g1, _⟩ | ⟨g1, g2⟩
          · omega
          · obtain ⟨_, v1, v2, v3, _⟩ := f2 trivial
            obtain ⟨_, w1, w2, w3, _⟩ := g2 trivial
            have v1' : t.1 0 1 = s.1 0 1 + 20 := v1
            have w1' : t2.1 66 1 = t.1 66 1 + 20 := w1
            refine fin0 t2 b1 (by omega) (fun k hk => ?_) hCN2 ?_
            · rw [d11]
              by_cases q : (k : Int) < s.1 0 1
              · rw [v2 k q, w2 k (by omega), d67]
                exact hTE k (by omega)
              · obtain ⟨j, hj⟩ : ∃ j, k = (s.1 0 1).toNat + j := ⟨k - (s.1 0 1).toNat, by omega⟩
                have ek : (s.1 0 1).toNat = (t.1 66 1).toNat := by omega
                have a1 := v3 j (by omega)
                have a2 := w3 j (by omega)
                rw [← ek] at a2
                rw [hj, a1, a2]
            · rw [e2, e1]
              omega
    · refine w_law_load (PD := fun t => ∃ z, (((sx (i + 1).toNat).toInt < 0 ∨ s.1 0 1 < (sx (i + 1).toNat).toInt) ∧ t = s) ∨ ((0 ≤ (sx (i + 1).toNat).toInt ∧ (sx (i + 1).toNat).toInt ≤ s.1 0 1) ∧ (rf_BC t ∧ t.2.2 = s.2.2 ∧ t.1 66 1 = s.1 66 1 ∧ t.2.1 67 = s.2.1 67) ∧ t.1 0 1 = 0 ∧ px_A5 (s.2.1 1) (sx (i + 1).toNat).toInt z (t.1 0 2) (t.1 19 2) (t.1 22 2) (t.1 18 10))) (PM := fun t t2 => ∃ z2, (rf_BC t2 ∧ t2.1 0 1 = t.1 0 1 ∧ t2.1 0 2 = t.1 0 2 ∧ t2.1 19 2 = t.1 19 2 ∧ t2.1 22 2 = t.1 22 2 ∧ t2.1 18 10 = t.1 18 10) ∧ ((((sx (i + 1).toNat).toInt < 0 ∨ t.1 66 1 < (sx (i + 1).toNat).toInt) ∧ t2 = t) ∨ ((0 ≤ (sx (i + 1).toNat).toInt ∧ (sx (i + 1).toNat).toInt ≤ t.1 66 1) ∧ t2.1 66 1 = 0 ∧ (t2.2.2.2 : Int) ≤ (t.2.2.2 : Int) + 9 * (sx (i + 1).toNat).toInt ∧ px_A5 (t.2.1 67) (sx (i + 1).toNat).toInt z2 (t2.1 66 37) (t2.1 66 42) (t2.1 66 45) (t2.1 66 47)))) hi hsL (fun a ea ha K' hK' => ?_) (fun t hd a ea ha K' hK' => ?_) (fun t t2 d1 d2 => ?_)
      · subst ea
        exact c_D_load hsL 2047 (by omega) _ s K' hB.1 ha (fun q => hK' _ s ⟨0, Or.inl ⟨q, rfl⟩⟩) (fun q1 q2 z t c1 c2 c3 c4 => hK' z t ⟨z, Or.inr ⟨⟨q1, q2⟩, ⟨rf_BC_desk c1 c2 rfl hB, (c2 0).2, by rw [(c2.same 66 rfl).1], (c2.same 67 rfl).2⟩, c3, c4⟩⟩)
      · subst ea
        obtain ⟨_, hd⟩ := hd
        have hbc : rf_BC t ∧ t.2.2 = s.2.2 := by
          rcases hd with ⟨_, q⟩ | ⟨_, q, _⟩
          · subst q
            exact ⟨hB, rfl⟩
          · exact ⟨q.1, q.2.1⟩
        have hown : t.2.2.2 ≤ 490000 := by
          rw [hbc.2]
          omega
        refine c_q_load hsL 2047 (by omega) _ t K' hbc.1.1 ha hown (fun z2 t2 c1 c2 c3 ca => hK' z2 t2 ⟨z2, ?_⟩)
        have k0 := (c2 0 (by omega)).1
        have k18 := (c2 18 (by omega)).1
        have k19 := (c2 19 (by omega)).1
        have k22 := (c2 22 (by omega)).1
        rcases c3 with ⟨c4, c5⟩ | ⟨c4, c5, c6, c7, c8⟩
        · subst c5
          exact ⟨⟨hbc.1, rfl, rfl, rfl, rfl, rfl⟩, Or.inl ⟨c4, rfl⟩⟩
        · rcases ca with ⟨ca, _⟩ | ⟨_, ca⟩
          · omega
          · exact ⟨⟨⟨c1, c8, fun c => absurd c6 c⟩, by rw [k0], by rw [k0], by rw [k19], by rw [k22], by rw [k18]⟩, Or.inr ⟨c4, c5, c7.2, ca⟩⟩
      · obtain ⟨z, d1⟩ := d1
        obtain ⟨z2, ⟨b1, d6, n1, n2, n3, n4⟩, d2⟩ := d2
        rcases d1 with ⟨q1, q3⟩ | ⟨q1, ⟨_, e1, q3, q67⟩, q5, q4⟩
        · subst q3
          rcases d2 with ⟨_, g⟩ | ⟨g, _⟩
          · subst g
            refine fin0 t2 b1 hfe hTE hCN ?_
            omega
          · omega
        · rcases d2 with ⟨g, _⟩ | ⟨_, g1, g2, g3⟩
          · omega
          · rw [q67] at g3
            have h5 := px_A5_cg (c' := s.2.1 67) (fun k hk => hTE k (by omega)) q1.1 q4
            obtain ⟨_, a2, a3⟩ := px_A5_eq h5 g3
            refine fin0 t2 b1 (by omega) (fun k hk => by omega) ⟨by omega, fun q => ?_⟩ ?_
            · obtain ⟨x1, x2, x3⟩ := a3 (by omega)
              exact ⟨by omega, by omega, by omega⟩
            · rw [e1] at g2
              omega
    · exact w_law_174 (PD := fun _ t => rf_LK s t) (PM := fun t t2 => rf_LK t t2) hi hsL (fun a ha K' hK' => c_dtold hsL 2047 (by omega) a s K' hB.1 ha (fun z _ => hK' z s ⟨hB, rfl, rfl, rfl, rfl, rfl, rf_NK_0 _⟩)) (fun z t hd a ha K' hK' => c_r_told hsL 2047 (by omega) a t K' hd.1.1 ha (fun z _ => hK' z t ⟨hd.1, rfl, rfl, rfl, rfl, rfl, rf_NK_0 _⟩)) (fun z t t2 h1 h2 => fin t2 (rf_LK_t h2 h1))
    · refine w_law_ct (PD := fun z t => t = s ∧ (s.1 0 2 = 0 → z = -1) ∧ (s.1 0 2 ≠ 0 → (sx (i + 1).toNat).toInt = 0 → z = s.1 19 2) ∧ (s.1 0 2 ≠ 0 → (sx (i + 1).toNat).toInt = 1 → z = s.1 22 2) ∧ (s.1 0 2 ≠ 0 → (sx (i + 1).toNat).toInt = 2 → z = s.1 18 10) ∧ (s.1 0 2 ≠ 0 → (sx (i + 1).toNat).toInt ≠ 0 → (sx (i + 1).toNat).toInt ≠ 1 → (sx (i + 1).toNat).toInt ≠ 2 → z = -1) ∧ (-2147483648 ≤ z ∧ z ≤ 2147483647)) (PM := fun _ t z t2 => t2 = t ∧ (t.1 66 37 = 0 → z = -1) ∧ (t.1 66 37 ≠ 0 → (sx (i + 1).toNat).toInt = 0 → z = t.1 66 42) ∧ (t.1 66 37 ≠ 0 → (sx (i + 1).toNat).toInt = 1 → z = t.1 66 45) ∧ (t.1 66 37 ≠ 0 → (sx (i + 1).toNat).toInt = 2 → z = t.1 66 47) ∧ (t.1 66 37 ≠ 0 → (sx (i + 1).toNat).toInt ≠ 0 → (sx (i + 1).toNat).toInt ≠ 1 → (sx (i + 1).toNat).toInt ≠ 2 → z = -1) ∧ (-2147483648 ≤ z ∧ z ≤ 2147483647)) hi hsL (fun a ea ha K' hK' => ?_) (fun z t hd a ea ha K' hK' => ?_) (fun z t z2 t2 d1 d2 => ?_) (fun z t z2 t2 d1 d2 => ?_)
      · subst ea
        exact c_dz_count hsL 2047 (by omega) _ s K' hB.1 ha (fun z h1 h2 h3 h4 h5 h6 => hK' z s ⟨rfl, h1, h2, h3, h4, h5, h6⟩)
      · subst ea
        obtain ⟨rfl, _⟩ := hd
        exact c_q_count hsL 2047 (by omega) _ t K' hB.1 ha (fun z h1 h2 h3 h4 h5 h6 => hK' z t ⟨rfl, h1, h2, h3, h4, h5, h6⟩)
      · obtain ⟨rfl, a1, a2, a3, a4, a5, a6⟩ := d1
        obtain ⟨rfl, b1, b2, b3, b4, b5, b6⟩ := d2
        obtain ⟨c1, c2⟩ := hCN
        refine ⟨?_, a6⟩
        by_cases q : t2.1 0 2 = 0
        · rw [a1 q, b1 (by omega)]
        · obtain ⟨c3, c4, c5⟩ := c2 q
          have q' : t2.1 66 37 ≠ 0 := by omega
          by_cases x0 : (sx (i + 1).toNat).toInt = 0
          · rw [a2 q x0, b2 q' x0, c3]
          · by_cases x1 : (sx (i + 1).toNat).toInt = 1
            · rw [a3 q x1, b3 q' x1, c4]
            · by_cases x2 : (sx (i + 1).toNat).toInt = 2
              · rw [a4 q x2, b4 q' x2, c5]
              · rw [a5 q x0 x1 x2, b5 q' x0 x1 x2]
      · obtain ⟨rfl, _⟩ := d1
        obtain ⟨rfl, _⟩ := d2
        exact fin t2 ⟨hB, rfl, rfl, rfl, rfl, rfl, rf_NK_0 _⟩
    · exact w_law_220 (PD := fun _ t => rf_LK s t) (PM := fun t t2 => rf_LK t t2) hi hsL (fun K' hK' => c_dsolve hsL 2047 (by omega) s K' hB.1 (fun z t c1 c2 _ c4 => hK' z t (rf_law_d c1 c2 rfl rfl rfl rfl rfl rfl c4 hB))) (fun z t hd K' hK' => c_r_solve hsL 2047 (by omega) t K' hd.1.1 hd.1.2.1 (fun z t2 hp => hK' z t2 (rf_law_s hd.1 hp))) (fun z t t2 h1 h2 => fin t2 (rf_LK_t h2 h1))
    · exact w_law_233 (PD := fun _ t => rf_LK s t) (PM := fun t t2 => rf_LK t t2) hi hsL (fun   K' hK' => c_dfresh hsL 2047 (by omega)  s K' hB.1  (fun z _ => hK' z s ⟨hB, rfl, rfl, rfl, rfl, rfl, rf_NK_0 _⟩)) (fun z t hd   K' hK' => c_r_fresh hsL 2047 (by omega)  t K' hd.1.1  (fun z _ => hK' z t ⟨hd.1, rfl, rfl, rfl, rfl, rfl, rf_NK_0 _⟩)) (fun z t t2 h1 h2 => fin t2 (rf_LK_t h2 h1))
    · exact w_law_246 (PD := fun _ t => rf_LK s t) (PM := fun t t2 => rf_LK t t2) hi hsL (fun a ha K' hK' => c_dsize hsL 2047 (by omega) a s K' hB.1 ha (fun z t c1 c2 _ c4 => hK' z t (rf_law_d c1 c2 rfl rfl rfl rfl rfl rfl c4 hB))) (fun z t hd a ha K' hK' => (rf_g_ex hd.1).elim (fun g hg => c_r_size hsL 2047 (by omega) a t g K' hd.1.1 ha hg (fun z t2 _ hp => hK' z t2 (rf_law_p hd.1 hp)))) (fun z t t2 h1 h2 => fin t2 (rf_LK_t h2 h1))
    · exact w_law_269 (PD := fun _ t => rf_LK s t) (PM := fun t t2 => rf_LK t t2) hi hsL (fun a b ha hb K' hK' => c_dletter hsL 2047 (by omega) a b s K' hB.1 ha hb (fun z t c1 c2 _ c4 => hK' z t (rf_law_d c1 c2 rfl rfl rfl rfl rfl rfl c4 hB))) (fun z t hd a b ha hb K' hK' => (rf_g_ex hd.1).elim (fun g hg => c_r_letter hsL 2047 (by omega) a b t g K' hd.1.1 ha hb hg (fun z t2 _ hp => hK' z t2 (rf_law_p hd.1 hp)))) (fun z t t2 h1 h2 => fin t2 (rf_LK_t h2 h1))
    · exact w_law_302 (PD := fun _ t => rf_LK s t) (PM := fun t t2 => rf_LK t t2) hi hsL (fun a b ha hb K' hK' => c_dside hsL 2047 (by omega) a b s K' hB.1 ha hb (fun z t c1 c2 _ c4 => hK' z t (rf_law_d c1 c2 rfl rfl rfl rfl rfl rfl c4 hB))) (fun z t hd a b ha hb K' hK' => (rf_g_ex hd.1).elim (fun g hg => c_r_side hsL 2047 (by omega) a b t g K' hd.1.1 ha hb hg (fun z t2 _ hp => hK' z t2 (rf_law_p hd.1 hp)))) (fun z t t2 h1 h2 => fin t2 (rf_LK_t h2 h1))
    · exact w_law_335 (PD := fun _ t => rf_LK s t) (PM := fun t t2 => rf_LK t t2) hi hsL (fun a b c ha hb hc K' hK' => c_dsideLetter hsL 2047 (by omega) a b c s K' hB.1 ha hb hc (fun z t c1 c2 _ c4 => hK' z t (rf_law_d c1 c2 rfl rfl rfl rfl rfl rfl c4 hB))) (fun z t hd a b c ha hb hc K' hK' => (rf_g_ex hd.1).elim (fun g hg => c_r_sideLetter hsL 2047 (by omega) a b c t g K' hd.1.1 ha hb hc hg (fun z t2 _ hp => hK' z t2 (rf_law_p hd.1 hp)))) (fun z t t2 h1 h2 => fin t2 (rf_LK_t h2 h1))
  · refine w_law_378 (by omega) (fun y hy => ⟨ms - 16, by omega, y, rfl, by omega, ⟨hB, hfe, hTE, hCN⟩, Or.inl ⟨rfl, by omega, by omega⟩⟩)
