/-! ===== the desk's terms: asVariable, by depth ===== -/
theorem st_dz_asv {sL : Nat} {sx : Nat → Int32} (hsL : sL ≤ 3072) (g : Nat) (hg : g ≤ 5) {d : Nat} (hd : 3 ≤ d) (h_rec : ∀ g' : Nat, g = g' + 1 → ∀ (N : rf_N) (a0 a1 : Int) (s : sx_S) (R : Int → sx_S → Prop), cx_I s → a1 = 5 - ((g' : Nat) : Int) → dz_nd s N a0 → dz_ar (s.2.1 16) N → (∀ z : Int, (-2147483648 ≤ z ∧ z ≤ 2147483647) → (z = -1 ∧ ∀ v, ¬ (dz_av N).1 g' [] v) ∨ (0 ≤ z ∧ (dz_av N).1 g' [] z) → R z s) → sx_C sL sx (d + 1) 98 [.inr (.inl 11), .inl a0, .inl a1] s R) : ∀ (N : rf_N) (a0 a1 : Int) (s : sx_S) (R : Int → sx_S → Prop), cx_I s → a1 = 5 - ((g : Nat) : Int) → dz_nd s N a0 → dz_ar (s.2.1 16) N → (∀ z : Int, (-2147483648 ≤ z ∧ z ≤ 2147483647) → (z = -1 ∧ ∀ v, ¬ (dz_av N).1 g [] v) ∨ (0 ≤ z ∧ (dz_av N).1 g [] z) → R z s) → sx_C sL sx (d + 2) 98 [.inr (.inl 11), .inl a0, .inl a1] s R := by
  intro N a0 a1 s R hI pd hN hA hK
  have h0 := hI.fld 11 6 (by decide) rfl
  refine sx_methL (wr := true) (n := 400) (n' := 400) (stop := [(8, [0, 1, 2, 3, 4, 5]), (69, [0, 2, 3, 4, 5, 6])]) (fun nn pc ls u => u = s ∧ ((pc = 8 ∧ ∃ (x3 x5 : Int) (M : rf_N), ls = [(0, .inr (.inl 11)), (1, .inl a0), (2, .inl a1), (3, .inl x3), (4, .inl x5), (5, .inl x5)] ∧ dz_nd s M x3 ∧ dz_ar (s.2.1 16) M ∧ (0 ≤ x5 ∧ x5 ≤ 4) ∧ rf_dn M x5.toNat N ∧ (∀ v, (dz_av N).1 g [] v ↔ (dz_av M).1 g (rf_rf x5.toNat N) v) ∧ nn = (100 - x5).toNat) ∨ (pc = 69 ∧ ∃ (x3 x4 x5 x6 : Int) (j : Nat) (k : Int × Int) (f b M : rf_N) (g' : Nat), ls = [(0, .inr (.inl 11)), (2, .inl a1), (3, .inl x3), (4, .inl x4), (5, .inl x5), (6, .inl x6)] ∧ g = g' + 1 ∧ dz_nd s (.inner j k () f b) x3 ∧ dz_ar (s.2.1 16) (.inner j k () f b) ∧ k.1 = 2 ∧ (rf_len f : Int) = x4 ∧ (0 ≤ x6 ∧ x6 ≤ x4 ∧ x4 ≤ 4) ∧ dz_nd s M x5 ∧ dz_ar (s.2.1 16) M ∧ rf_dn (.inner j k () f b) (x4 - x6).toNat M ∧ (∀ v, (dz_av N).1 g [] v ↔ (k.2 = v ∧ (dz_av (dz_dr x6.toNat f)).2 g' (rf_rf (x4 - x6).toNat M))) ∧ nn = (x4 - x6).toNat))) hsL (e := eX7_asVariable) rfl ?_ ?_
  · exact w_av ⟨_, rfl, Or.inl ⟨rfl, a0, 0, N, rfl, hN, hA, by omega, by cases N <;> rfl, fun v => Iff.rfl, rfl⟩⟩
  · rintro nn pc ls u ⟨rfl, ⟨rfl, x3, x5, M, rfl, i1, i2, i3, i4, i5, rfl⟩ | ⟨rfl, x3, x4, x5, x6, j, k, f, b, M, g', rfl, eg, i1, i2, i3, i4, i5, i6, i7, i8, i9, rfl⟩⟩
    · cases M with
      | leaf =>
        have e3 : x3 = -1 := i1
        subst e3
        exact w_av_8n (c_dz_kind hsL (d + 1) (by omega)) hI (by omega) i3 (hK _ (by omega) (Or.inl ⟨rfl, fun v h => (i5 v).mp h⟩))
      | inner j k v0 f b =>
        have i1' := i1
        obtain ⟨⟨e0, e1⟩, ⟨e2, e3⟩, e4, e5⟩ := i1'
        obtain ⟨⟨b1, b2, b3⟩, b4, b5⟩ := i2
        have ej : x3.toNat = j := by omega
        have hl := rf_rf_len i4
        refine w_av_8 (c_dz_kind hsL (d + 1) (by omega)) (c_dz_body hsL (d + 1) (by omega)) (c_dz_arity hsL (d + 1) (by omega)) hI (by omega) (by omega) i3 ?_ ?_ ?_
        · intro hx hk
          rw [ej, e2] at hk
          refine ⟨_, ?_, rfl, Or.inl ⟨rfl, _, x5 + 1, f, rfl, by rw [ej]; exact e4, b4, by omega, ?_, ?_, rfl⟩⟩
          · omega
          · rw [show (x5 + 1).toNat = x5.toNat + 1 by omega]
            exact rf_dn_snoc hk i4
          · intro v
            rw [i5 v, show (x5 + 1).toNat = x5.toNat + 1 by omega, rf_rf_snoc i4]
            constructor
            · rintro (⟨_, _, q⟩ | ⟨q, _⟩)
              · exact q
              · omega
            · exact fun q => Or.inl ⟨hk, by omega, q⟩
        · intro h1 h2
          rw [ej, e2] at h1 h2
          refine hK _ (by omega) (Or.inl ⟨rfl, fun v hv => ?_⟩)
          rcases (i5 v).mp hv with ⟨q1, q2, _⟩ | ⟨q1, _, g', q2, q3⟩
          · have := h1 q1
            omega
          · rcases h2 with h2 | h2 | h2
            · omega
            · exact h2 q1
            · have := b3 (by omega)
              have q4 := dz_av_len q3
              omega
        · intro hk ha h16
          rw [ej] at hk h16
          rw [e2] at hk
          obtain ⟨g', rfl⟩ : ∃ g', g = g' + 1 := ⟨g - 1, by omega⟩
          have := b3 (by omega)
          refine ⟨_, ?_, rfl, Or.inr ⟨rfl, x3, x5, a0, 0, j, k, f, b, N, g', rfl, rfl, i1, ⟨⟨b1, b2, b3⟩, b4, b5⟩, hk, by omega, by omega, hN, hA, ?_, ?_, rfl⟩⟩
          · omega
          · rw [Int.sub_zero]
            exact i4
          · intro v
            rw [i5 v, Int.sub_zero]
            constructor
            · rintro (⟨q, _⟩ | ⟨_, q1, g'', q2, q3⟩)
              · omega
              · obtain rfl : g' = g'' := by omega
                exact ⟨q1, q3⟩
            · rintro ⟨q1, q3⟩
              exact Or.inr ⟨hk, q1, g', rfl, q3⟩
    · subst eg
      have i1' := i1
      obtain ⟨⟨e0, e1⟩, ⟨e2, e3⟩, e4, e5⟩ := i1'
      obtain ⟨⟨b1, b2, b3⟩, b4, b5⟩ := i2
      have ej : x3.toNat = j := by omega
      have e4' : rf_nd (u.2.1 12) (u.2.1 13) (u.2.1 14) (u.2.1 15) (u.1 11 6) f (u.2.1 14 x3.toNat) := by rw [ej]; exact e4
      have ld := dz_dr_len x6.toNat f
      by_cases hx : x6 < x4
      · obtain ⟨dj, hdj⟩ : ∃ q, (x4 - x6).toNat = q + 1 := ⟨(x4 - x6).toNat - 1, by omega⟩
        rw [hdj] at i8 i9
        cases M with
        | leaf => exact i8.elim
        | inner mj mk mv mf mx =>
          obtain ⟨⟨g0, g1⟩, ⟨g2, g3⟩, g4, g5⟩ := i6
          obtain ⟨⟨c1, c2, c3⟩, c4, c5⟩ := i7
          obtain ⟨k0, i8'⟩ := i8
          have emj : x5.toNat = mj := by omega
          generalize hr : dz_dr x6.toNat f = r at ld i9
          cases r with
          | leaf =>
            have : rf_len .leaf = 0 := rfl
            omega
          | inner rj rk rv rf_ rx =>
            have har := dz_ar_dr (n := x6.toNat) b4
            rw [hr] at har
            have hnx : dz_dr (x6 + 1).toNat f = rx := by
              rw [show (x6 + 1).toNat = x6.toNat + 1 by omega, dz_dr_s, hr]
              rfl
            refine w_av_69 (W := fun w => dz_nd u (.inner rj rk rv rf_ rx) w) (Z := fun z => (z = -1 ∧ ∀ v, ¬ (dz_av (.inner rj rk rv rf_ rx)).1 g' [] v) ∨ (0 ≤ z ∧ (dz_av (.inner rj rk rv rf_ rx)).1 g' [] z)) (c_dz_head hsL (d + 1) (by omega)) (c_dz_body hsL (d + 1) (by omega)) hI (by omega) (by omega) (by omega) (by omega) (fun _ K hK' => c_dz_arg hsL (d + 1) (by omega) x3 x6 f u K hI (by omega) (by omega) e4' (fun z z1 z2 => hK' z (by rw [hr] at z2; exact z2) (by omega))) (fun _ w hw K hK' => h_rec g' rfl _ w (a1 + 1) u K hI (by omega) hw har (fun z hz0 hz => hK' z hz hz0)) ?_ ?_ (fun h => absurd h (by omega))
            · intro _ z hz hne
              rw [emj, g3] at hne
              refine hK _ (by omega) (Or.inl ⟨rfl, fun v hv => ?_⟩)
              obtain ⟨_, u1, us', q3, q4, q5⟩ := (i9 v).mp hv
              have q6 : mk.2 :: rf_rf dj mf = u1 :: us' := q3
              injection q6 with q7 q8
              subst q7
              rcases hz with ⟨_, hz⟩ | ⟨_, hz⟩
              · exact hz _ q4
              · exact hne (dz_av_fun hz q4)
            · intro _ z hz he
              rw [emj, g3] at he
              have hz' : (dz_av (.inner rj rk rv rf_ rx)).1 g' [] mk.2 := by
                rcases hz with ⟨q, _⟩ | ⟨_, hz⟩
                · omega
                · rw [← he]
                  exact hz
              refine ⟨_, ?_, rfl, Or.inr ⟨rfl, x3, x4, _, x6 + 1, j, k, f, b, mf, g', rfl, rfl, i1, ⟨⟨b1, b2, b3⟩, b4, b5⟩, i3, i4, by omega, by rw [emj]; exact g4, c4, ?_, ?_, rfl⟩⟩
              · omega
              · rw [show (x4 - (x6 + 1)).toNat = dj by omega]
                exact i8'
              · intro v
                rw [i9 v, hnx, show (x4 - (x6 + 1)).toNat = dj by omega]
                constructor
                · rintro ⟨q0, u1, us', q3, q4, q5⟩
                  have q6 : mk.2 :: rf_rf dj mf = u1 :: us' := q3
                  injection q6 with q7 q8
                  rw [q8]
                  exact ⟨q0, q5⟩
                · rintro ⟨q0, q5⟩
                  exact ⟨q0, mk.2, _, rfl, hz', q5⟩
      · have ex : x6 = x4 := by omega
        refine w_av_69 (W := fun _ => True) (Z := fun _ => True) (c_dz_head hsL (d + 1) (by omega)) (c_dz_body hsL (d + 1) (by omega)) hI (by omega) (by omega) (by omega) (by omega) (fun h => absurd h hx) (fun h => absurd h hx) (fun h => absurd h hx) (fun h => absurd h hx) (fun _ => ?_)
        rw [ej, e3]
        refine hK _ (by have := hI.arr 13 (by decide) rfl j; rw [e3] at this; exact this) (Or.inr ⟨b2, (i9 _).mpr ⟨rfl, ?_⟩⟩)
        have hz : dz_dr x6.toNat f = .leaf := by
          generalize dz_dr x6.toNat f = r at ld
          cases r with
          | leaf => rfl
          | inner _ _ _ _ rx =>
            have : rf_len rx + 1 = rf_len f - x6.toNat := ld
            omega
        rw [hz, show (x4 - x6).toNat = 0 by omega]
        show rf_rf 0 M = []
        cases M <;> rfl

theorem c_dz_asv {sL : Nat} {sx : Nat → Int32} (hsL : sL ≤ 3072) : ∀ g : Nat, g ≤ 5 → ∀ d, 5 + g ≤ d → ∀ (N : rf_N) (a0 a1 : Int) (s : sx_S) (R : Int → sx_S → Prop), cx_I s → a1 = 5 - ((g : Nat) : Int) → dz_nd s N a0 → dz_ar (s.2.1 16) N → (∀ z : Int, (-2147483648 ≤ z ∧ z ≤ 2147483647) → (z = -1 ∧ ∀ v, ¬ (dz_av N).1 g [] v) ∨ (0 ≤ z ∧ (dz_av N).1 g [] z) → R z s) → sx_C sL sx d 98 [.inr (.inl 11), .inl a0, .inl a1] s R := by
  intro g
  induction g with
  | zero =>
    intro hg d hd
    obtain ⟨d, rfl⟩ : ∃ e, d = e + 2 := ⟨d - 2, by omega⟩
    exact st_dz_asv hsL 0 hg (by omega) (fun g' h => absurd h (by omega))
  | succ g ih =>
    intro hg d hd
    obtain ⟨d, rfl⟩ : ∃ e, d = e + 2 := ⟨d - 2, by omega⟩
    exact st_dz_asv hsL (g + 1) hg (by omega) (fun g' h => by
      obtain rfl : g = g' := by omega
      exact ih (by omega) (d + 1) (by omega))
