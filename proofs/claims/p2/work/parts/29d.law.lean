/-! ===== the law's loop ===== -/
def rf_LV (sL ms pc : Nat) (ls : sx_L) (s : sx_S) : Prop := (∃ i : Int, ls = [(0, .inr (.inl 1000000)), (1, .inr (.inl 0)), (2, .inr (.inl 66)), (3, .inl i)] ∧ (0 ≤ i ∧ i ≤ 3078) ∧ (rf_BC s ∧ s.1 66 1 = s.1 0 1) ∧ ((pc = 18 ∧ (s.2.2.2 : Int) + 10 * s.1 66 1 ≤ 34 * i ∧ (ms : Int) = 3 * (4000 - i)) ∨ (pc ∈ [88, 151, 174, 197, 220, 233, 246, 269, 302, 335] ∧ i + 6 ≤ (sL : Int) ∧ (s.2.2.2 : Int) + 10 * s.1 66 1 ≤ 34 * i ∧ (ms : Int) = 3 * (4000 - i) - 1) ∨ (pc = 378 ∧ i + 6 ≤ (sL : Int) ∧ (s.2.2.2 : Int) + 10 * s.1 66 1 ≤ 34 * (i + 6) ∧ (ms : Int) = 3 * (4000 - i) - 2)))
/-- a call that leaves what is fed as it was -/
def rf_LK (s t : sx_S) : Prop := rf_BC t ∧ t.2.2 = s.2.2 ∧ t.1 66 1 = s.1 66 1 ∧ t.1 0 1 = s.1 0 1
theorem rf_LK_t {s t u : sx_S} (h2 : rf_LK t u) (h1 : rf_LK s t) : rf_LK s u := ⟨h2.1, h2.2.1.trans h1.2.1, h2.2.2.1.trans h1.2.2.1, h2.2.2.2.trans h1.2.2.2⟩
theorem rf_law_d {V : List (Nat × Nat)} {s t : sx_S} (c1 : cx_I t) (c2 : cx_F V s t) (hV : cx_le V [(0, 65)] = true) (c4 : t.1 0 1 = s.1 0 1) (h : rf_BC s) : rf_LK s t := by
  have hF1 : cx_F [(0, 65)] s t := cx_F_step c2 hV (cx_F_refl _ _)
  exact ⟨rf_BC_desk c1 c2 hV h, (c2 0).2, by rw [(hF1.same 66 rfl).1], c4⟩
theorem rf_law_p {s t : sx_S} (h : rf_BC s) (p : t = s ∨ (s.1 66 78 ≠ 0 ∧ rf_PP s t)) : rf_LK s t := by
  refine ⟨rf_BC_P h p, ?_⟩
  rcases p with rfl | ⟨_, _, p2, p3⟩
  · exact ⟨rfl, rfl, rfl⟩
  · exact ⟨(p2 0).2, p3 1 rfl, by rw [(p2.same 0 rfl).1]⟩
theorem rf_law_s {s t : sx_S} (h : rf_BC s) (p : t = s ∨ (s.1 66 37 ≠ 0 ∧ rf_SO s t)) : rf_LK s t := by
  refine ⟨rf_BC_SO h p, ?_⟩
  rcases p with rfl | ⟨_, ⟨_, p2, p3⟩, _⟩
  · exact ⟨rfl, rfl, rfl⟩
  · exact ⟨(p2 0).2, p3 1 rfl, by rw [(p2.same 0 rfl).1]⟩
theorem rf_g_ex {s : sx_S} (h : rf_BC s) : ∃ g, s.1 66 78 ≠ 0 → rf_HS s g := by
  by_cases c : s.1 66 78 ≠ 0
  · obtain ⟨g, hg⟩ := h.2.2 c
    exact ⟨g, fun _ => hg⟩
  · exact ⟨rf_g0 s, fun q => absurd q c⟩
set_option maxRecDepth 8000 in
theorem w_law_load {CALL : sx_Ca} {sL : Nat} {sx : Nat → Int32} {Q : Nat → sx_L → sx_S → Prop} {R : Int → sx_S → Prop} {s : sx_S} {i : Int} {PD : sx_S → Prop} {PM : sx_S → sx_S → Prop} (q : 0 ≤ i ∧ i + 6 ≤ (sL : Int)) (hsL : sL ≤ 3072) (hD : ∀ a : Int, a = (sx (i + 1).toNat).toInt → (-2147483648 ≤ a ∧ a ≤ 2147483647) → ∀ K : Int → sx_S → Prop, (∀ z t, PD t → K z t) → CALL 138 [.inr (.inl 0), .inl a] s K) (hM : ∀ t, PD t → ∀ a : Int, a = (sx (i + 1).toNat).toInt → (-2147483648 ≤ a ∧ a ≤ 2147483647) → ∀ K : Int → sx_S → Prop, (∀ z t2, PM t t2 → K z t2) → CALL 175 [.inr (.inl 66), .inl a] t K) (hQ : ∀ t t2, PD t → PM t t2 → Q 378 [(0, .inr (.inl 1000000)), (1, .inr (.inl 0)), (2, .inr (.inl 66)), (3, .inl i)] t2) : sx_wp true sL sx eL_law CALL [(18, [0, 1, 2, 3]), (88, [0, 1, 2, 3]), (151, [0, 1, 2, 3]), (174, [0, 1, 2, 3]), (197, [0, 1, 2, 3]), (220, [0, 1, 2, 3]), (233, [0, 1, 2, 3]), (246, [0, 1, 2, 3]), (269, [0, 1, 2, 3]), (302, [0, 1, 2, 3]), (335, [0, 1, 2, 3]), (378, [0, 1, 2, 3])] Q R 400 151 [(0, .inr (.inl 1000000)), (1, .inr (.inl 0)), (2, .inr (.inl 66)), (3, .inl i)] [] s := by
  have e1 : sx_w true (i + 1) = i + 1 := rf_wid (by omega) (by omega)
  repeat' (first | (with_reducible intro _) | (refine And.intro ?_ ?_) | (refine hQ _ _ (by assumption) (by assumption)) | (refine hM _ (by assumption) _ ?_ ?_ _ ?_) | (refine hD _ ?_ ?_ _ ?_))
  all_goals (try dsimp only)
  all_goals (first | trivial | assumption | omega | (exact rf_i32 _) | (exact (rf_i32 _).1) | (exact (rf_i32 _).2) | rfl | (subst_vars; rfl) | (rw [e1]) | (dsimp only; rw [e1]) | (subst_vars; dsimp only at *; rw [e1]) | (dsimp only at *; omega) | (simp only [sx_w_t] at *; omega) | (subst_vars; omega) | skip)
set_option maxRecDepth 8000 in
theorem rf_law {sL : Nat} {sx : Nat → Int32} (hsL : sL ≤ 3072) (s0 : sx_S) (h0 : rf_BC s0) (h1 : s0.1 66 1 = 0) (h2 : s0.1 0 1 = 0) (h3 : s0.2.2.2 = 0) : sx_E sL sx 2048 230 18 [(0, .inr (.inl 1000000)), (1, .inr (.inl 0)), (2, .inr (.inl 66)), (3, .inl 0)] [] s0 (fun z _ => z = 1) := by
  refine sx_loops (wr := true) (d := 2046) (n := 400) (stop := [(18, [0, 1, 2, 3]), (88, [0, 1, 2, 3]), (151, [0, 1, 2, 3]), (174, [0, 1, 2, 3]), (197, [0, 1, 2, 3]), (220, [0, 1, 2, 3]), (233, [0, 1, 2, 3]), (246, [0, 1, 2, 3]), (269, [0, 1, 2, 3]), (302, [0, 1, 2, 3]), (335, [0, 1, 2, 3]), (378, [0, 1, 2, 3])]) (rf_LV sL) hsL (e := eL_law) rfl ?_ 12000 18 _ s0 ⟨0, rfl, by omega, ⟨h0, by omega⟩, Or.inl ⟨rfl, by omega, by omega⟩⟩
  rintro ms pc ls s ⟨i, rfl, hi0, ⟨hB, hfe⟩, h⟩
  have r1 := hB.1.fld 66 1 (by decide) rfl
  rcases h with ⟨rfl, ho, hm⟩ | ⟨hpc, hi, ho, hm⟩ | ⟨rfl, hi, ho, hm⟩
  · refine w_law_18 hsL hi0 rfl (fun hi p hp => ?_)
    have hp2 : p ∈ [88, 151, 174, 197, 220, 233, 246, 269, 302, 335] ∨ p = 378 := by
      simp only [List.mem_cons, List.not_mem_nil, or_false] at hp ⊢
      omega
    rcases hp2 with hp2 | hp2
    · exact ⟨ms - 1, by omega, i, rfl, hi0, ⟨hB, hfe⟩, Or.inr (Or.inl ⟨hp2, hi, ho, by omega⟩)⟩
    · exact ⟨ms - 2, by omega, i, rfl, hi0, ⟨hB, hfe⟩, Or.inr (Or.inr ⟨hp2, hi, by omega, by omega⟩)⟩
  · have fin0 : ∀ t2 : sx_S, rf_BC t2 → t2.1 66 1 = t2.1 0 1 → (t2.2.2.2 : Int) + 10 * t2.1 66 1 ≤ 34 * (i + 6) → ∃ m', m' < ms ∧ (rf_LV sL) m' 378 [(0, .inr (.inl 1000000)), (1, .inr (.inl 0)), (2, .inr (.inl 66)), (3, .inl i)] t2 := fun t2 b1 b2 b3 => ⟨ms - 1, by omega, i, rfl, hi0, ⟨b1, b2⟩, Or.inr (Or.inr ⟨rfl, hi, b3, by omega⟩)⟩
    have hi : 0 ≤ i ∧ i + 6 ≤ (sL : Int) := ⟨hi0.1, hi⟩
    have fin : ∀ t2 : sx_S, rf_LK s t2 → ∃ m', m' < ms ∧ (rf_LV sL) m' 378 [(0, .inr (.inl 1000000)), (1, .inr (.inl 0)), (2, .inr (.inl 66)), (3, .inl i)] t2 := fun t2 hk => by
      obtain ⟨k1, k2, k3, k4⟩ := hk
      refine fin0 t2 k1 (by omega) ?_
      rw [k2, k3]
      omega
    simp only [List.mem_cons, List.not_mem_nil, or_false] at hpc
    rcases hpc with rfl | rfl | rfl | rfl | rfl | rfl | rfl | rfl | rfl | rfl
    · refine w_law_88 (PD := fun z t => (rf_BC t ∧ t.2.2 = s.2.2 ∧ t.1 66 1 = s.1 66 1) ∧ ((s.1 0 1 + 20 ≤ 240 ∧ z = s.1 0 1 + 20 ∧ t.1 0 1 = s.1 0 1 + 20) ∨ (240 < s.1 0 1 + 20 ∧ z = -1 ∧ t.1 0 1 = s.1 0 1))) (PM := fun _ t z t2 => (rf_BC t2 ∧ t2.2.2 = t.2.2 ∧ t2.1 0 1 = t.1 0 1) ∧ ((t.1 66 1 + 20 ≤ 240 ∧ z = t.1 66 1 + 20 ∧ t2.1 66 1 = t.1 66 1 + 20) ∨ (240 < t.1 66 1 + 20 ∧ z = -1 ∧ t2.1 66 1 = t.1 66 1))) hi hsL (fun a b c e f ha hb hc he hf K' hK' => c_dfeed hsL 2047 (by omega) a b c e f s K' hB.1 ha hb hc he hf (fun z t c1 c2 c3 => hK' z t ⟨⟨rf_BC_desk c1 c2 rfl hB, (c2 0).2, by rw [(c2.same 66 rfl).1]⟩, c3⟩)) (fun z t hd a b c e f ha hb hc he hf K' hK' => c_r_feed hsL 2047 (by omega) a b c e f t K' hd.1.1.1 ha hb hc he hf (fun z t2 c1 c2 c3 c4 => hK' z t2 ⟨⟨rf_BC_k c1 (cx_F_step c2 rfl (cx_F_refl _ _)) c4 hd.1.1, (c2 0).2, by rw [(c2.same 0 rfl).1]⟩, c3⟩)) (fun z t z2 t2 d1 d2 => ?_) (fun z t z2 t2 d1 d2 => ?_)
      · obtain ⟨⟨_, _, d3⟩, d4⟩ := d1
        obtain ⟨_, d5⟩ := d2
        omega
      · obtain ⟨⟨_, e1, d3⟩, d4⟩ := d1
        obtain ⟨⟨b1, e2, d6⟩, d5⟩ := d2
        refine fin0 t2 b1 (by omega) ?_
        rw [e2, e1]
        omega
    · refine w_law_load (PD := fun t => (rf_BC t ∧ t.2.2 = s.2.2 ∧ t.1 66 1 = s.1 66 1) ∧ ((((sx (i + 1).toNat).toInt < 0 ∨ s.1 0 1 < (sx (i + 1).toNat).toInt) ∧ t.1 0 1 = s.1 0 1) ∨ (0 ≤ (sx (i + 1).toNat).toInt ∧ (sx (i + 1).toNat).toInt ≤ s.1 0 1 ∧ t.1 0 1 = 0))) (PM := fun t t2 => (rf_BC t2 ∧ t2.1 0 1 = t.1 0 1) ∧ ((((sx (i + 1).toNat).toInt < 0 ∨ t.1 66 1 < (sx (i + 1).toNat).toInt) ∧ t2 = t) ∨ ((0 ≤ (sx (i + 1).toNat).toInt ∧ (sx (i + 1).toNat).toInt ≤ t.1 66 1) ∧ t2.1 66 1 = 0 ∧ (t2.2.2.2 : Int) ≤ (t.2.2.2 : Int) + 9 * (sx (i + 1).toNat).toInt))) hi hsL (fun a ea ha K' hK' => ?_) (fun t hd a ea ha K' hK' => ?_) (fun t t2 d1 d2 => ?_)
      · subst ea
        exact c_dload hsL 2047 (by omega) _ s K' hB.1 ha (fun z t c1 c2 _ c4 => hK' z t ⟨⟨rf_BC_desk c1 c2 rfl hB, (c2 0).2, by rw [(c2.same 66 rfl).1]⟩, c4⟩)
      · subst ea
        obtain ⟨⟨b1, b2, b3⟩, b4⟩ := hd
        have hown : t.2.2.2 ≤ 490000 := by
          rw [b2]
          omega
        refine c_r_load hsL 2047 (by omega) _ t K' b1.1 ha hown (fun z t2 c1 c2 c3 => hK' z t2 ?_)
        rcases c3 with ⟨c4, c5⟩ | ⟨c4, c5, c6, c7, c8⟩
        · subst c5
          exact ⟨⟨b1, rfl⟩, Or.inl ⟨c4, rfl⟩⟩
        · exact ⟨⟨⟨c1, c8, fun c => absurd c6 c⟩, by rw [(c2 0 (by omega)).1]⟩, Or.inr ⟨c4, c5, c7.2⟩⟩
      · obtain ⟨⟨_, e1, d3⟩, d4⟩ := d1
        obtain ⟨⟨b1, d6⟩, d5⟩ := d2
        rcases d5 with ⟨d7, d8⟩ | ⟨d7, d8, d9⟩
        · subst d8
          refine fin0 t2 b1 (by omega) ?_
          rw [e1]
          omega
        · refine fin0 t2 b1 (by omega) ?_
          rw [e1] at d9
          omega
    · exact w_law_174 (PD := fun _ t => rf_LK s t) (PM := fun t t2 => rf_LK t t2) hi hsL (fun a ha K' hK' => c_dtold hsL 2047 (by omega) a s K' hB.1 ha (fun z _ => hK' z s ⟨hB, rfl, rfl, rfl⟩)) (fun z t hd a ha K' hK' => c_r_told hsL 2047 (by omega) a t K' hd.1.1 ha (fun z _ => hK' z t ⟨hd.1, rfl, rfl, rfl⟩)) (fun z t t2 h1 h2 => fin t2 (rf_LK_t h2 h1))
    · exact w_law_197 (PD := fun _ t => rf_LK s t) (PM := fun t t2 => rf_LK t t2) hi hsL (fun a ha K' hK' => c_dcount hsL 2047 (by omega) a s K' hB.1 ha (fun z _ => hK' z s ⟨hB, rfl, rfl, rfl⟩)) (fun z t hd a ha K' hK' => c_r_count hsL 2047 (by omega) a t K' hd.1.1 ha (fun z _ => hK' z t ⟨hd.1, rfl, rfl, rfl⟩)) (fun z t t2 h1 h2 => fin t2 (rf_LK_t h2 h1))
    · exact w_law_220 (PD := fun _ t => rf_LK s t) (PM := fun t t2 => rf_LK t t2) hi hsL (fun K' hK' => c_dsolve hsL 2047 (by omega) s K' hB.1 (fun z t c1 c2 _ c4 => hK' z t (rf_law_d c1 c2 rfl c4 hB))) (fun z t hd K' hK' => c_r_solve hsL 2047 (by omega) t K' hd.1.1 hd.1.2.1 (fun z t2 hp => hK' z t2 (rf_law_s hd.1 hp))) (fun z t t2 h1 h2 => fin t2 (rf_LK_t h2 h1))
    · exact w_law_233 (PD := fun _ t => rf_LK s t) (PM := fun t t2 => rf_LK t t2) hi hsL (fun   K' hK' => c_dfresh hsL 2047 (by omega)  s K' hB.1  (fun z _ => hK' z s ⟨hB, rfl, rfl, rfl⟩)) (fun z t hd   K' hK' => c_r_fresh hsL 2047 (by omega)  t K' hd.1.1  (fun z _ => hK' z t ⟨hd.1, rfl, rfl, rfl⟩)) (fun z t t2 h1 h2 => fin t2 (rf_LK_t h2 h1))
    · exact w_law_246 (PD := fun _ t => rf_LK s t) (PM := fun t t2 => rf_LK t t2) hi hsL (fun a ha K' hK' => c_dsize hsL 2047 (by omega) a s K' hB.1 ha (fun z t c1 c2 _ c4 => hK' z t (rf_law_d c1 c2 rfl c4 hB))) (fun z t hd a ha K' hK' => (rf_g_ex hd.1).elim (fun g hg => c_r_size hsL 2047 (by omega) a t g K' hd.1.1 ha hg (fun z t2 _ hp => hK' z t2 (rf_law_p hd.1 hp)))) (fun z t t2 h1 h2 => fin t2 (rf_LK_t h2 h1))
    · exact w_law_269 (PD := fun _ t => rf_LK s t) (PM := fun t t2 => rf_LK t t2) hi hsL (fun a b ha hb K' hK' => c_dletter hsL 2047 (by omega) a b s K' hB.1 ha hb (fun z t c1 c2 _ c4 => hK' z t (rf_law_d c1 c2 rfl c4 hB))) (fun z t hd a b ha hb K' hK' => (rf_g_ex hd.1).elim (fun g hg => c_r_letter hsL 2047 (by omega) a b t g K' hd.1.1 ha hb hg (fun z t2 _ hp => hK' z t2 (rf_law_p hd.1 hp)))) (fun z t t2 h1 h2 => fin t2 (rf_LK_t h2 h1))
    · exact w_law_302 (PD := fun _ t => rf_LK s t) (PM := fun t t2 => rf_LK t t2) hi hsL (fun a b ha hb K' hK' => c_dside hsL 2047 (by omega) a b s K' hB.1 ha hb (fun z t c1 c2 _ c4 => hK' z t (rf_law_d c1 c2 rfl c4 hB))) (fun z t hd a b ha hb K' hK' => (rf_g_ex hd.1).elim (fun g hg => c_r_side hsL 2047 (by omega) a b t g K' hd.1.1 ha hb hg (fun z t2 _ hp => hK' z t2 (rf_law_p hd.1 hp)))) (fun z t t2 h1 h2 => fin t2 (rf_LK_t h2 h1))
    · exact w_law_335 (PD := fun _ t => rf_LK s t) (PM := fun t t2 => rf_LK t t2) hi hsL (fun a b c ha hb hc K' hK' => c_dsideLetter hsL 2047 (by omega) a b c s K' hB.1 ha hb hc (fun z t c1 c2 _ c4 => hK' z t (rf_law_d c1 c2 rfl c4 hB))) (fun z t hd a b c ha hb hc K' hK' => (rf_g_ex hd.1).elim (fun g hg => c_r_sideLetter hsL 2047 (by omega) a b c t g K' hd.1.1 ha hb hc hg (fun z t2 _ hp => hK' z t2 (rf_law_p hd.1 hp)))) (fun z t t2 h1 h2 => fin t2 (rf_LK_t h2 h1))
  · refine w_law_378 (by omega) (fun y hy => ⟨ms - 16, by omega, y, rfl, by omega, ⟨hB, hfe⟩, Or.inl ⟨rfl, by omega, by omega⟩⟩)
