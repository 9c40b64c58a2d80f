/-! ===== the desk's answers: narrow, all of it ===== -/
theorem c_dv_nar {sL : Nat} {sx : Nat → Int32} (hsL : sL ≤ 3072) (d : Nat) (hd : 3 ≤ d) : ∀ (a0 a1 x3 : Int) (F : rf_N) (s : sx_S) (K : Int → sx_S → Prop), cx_I s → (0 ≤ a0 ∧ a0 < s.1 11 6) → (0 ≤ a1 ∧ a1 < 32) → (s.2.1 13 a0.toNat = x3 ∧ 0 ≤ x3 ∧ x3 < 32) → dz_nd s F (s.2.1 14 a0.toNat) → s.2.1 16 a0.toNat = (rf_len F : Int) → rf_len F ≤ 4 → s.1 33 6 < 32 → s.1 11 6 + 1 + (rf_len F : Int) ≤ 1024 → (∀ v ∈ dz_hs F, 0 ≤ v) → (∀ t Fn, cx_I t → cx_F [(11, 17), (33, 37)] s t → dv_nr a1 x3 (dz_hs F) s t Fn → K 0 t) → sx_C sL sx d 9 [.inr (.inl 33), .inl a0, .inl a1] s K := by
  intro a0 a1 x3 F s K hI p0 p1 q3 hF h16 hl hr hN hv hK
  have h0 := hI.fld 11 6 (by decide) rfl
  have h33 := hI.fld 33 6 (by decide) rfl
  have hsl := dz_hs_len F
  obtain ⟨d, rfl⟩ : ∃ e, d = e + 2 := ⟨d - 2, by omega⟩
  refine sx_methL (wr := true) (n := 400) (n' := 400) (stop := [(53, [0, 1, 2, 3, 4, 5])]) (fun nn pc ls u => pc = 53 ∧ ∃ (x5 : Nat) (Fn : rf_N), ls = [(0, .inr (.inl 33)), (1, .inl a0), (2, .inl a1), (3, .inl x3), (4, .inl (s.1 11 6)), (5, .inl (x5 : Int))] ∧ cx_I u ∧ cx_F [(11, 17), (33, 37)] s u ∧ dv_nr a1 x3 ((dz_hs F).take x5) s u Fn ∧ x5 ≤ rf_len F ∧ nn = rf_len F - x5) hsL (e := eX0_narrow) rfl ?_ ?_
  · refine w_dv_nar (c_dz_head hsL (d + 1) (by omega)) (c_dz_node hsL (d + 1) (by omega)) (c_dv_bind hsL (d + 1) (by omega)) hI p0 (by omega) q3 hr (by omega) (fun t t1 t2 t3 t4 => ?_)
    refine ⟨_, rfl, 0, .leaf, rfl, t4, ?_, dv_nr_0 hI q3.2.1 t2 t3, Nat.zero_le _, rfl⟩
    exact cx_F_uf rfl (cx_F_ua rfl (cx_F_ua rfl (cx_F_step t2 rfl (cx_F_refl _ _))))
  · rintro nn pc ls u ⟨rfl, x5, Fn, rfl, i1, i2, i3, i4, rfl⟩
    obtain ⟨⟨c1, c2⟩, c3, c4, c5, ⟨c6, c7⟩, c8, c9, c10, c11⟩ := i3 trivial
    have lk := dv_kp_len (k := a1) (l := (dz_hs F).take x5) (i := 0)
    have lt : ((dz_hs F).take x5).length = x5 := by
      rw [List.length_take]
      omega
    have hu6 := i1.fld 11 6 (by decide) rfl
    obtain ⟨z1, z2, z3, z4, z5⟩ := (c5 trivial).2 a0.toNat (by omega)
    have hFu : dz_nd u F (u.2.1 14 a0.toNat) := by
      rw [z3]
      exact dz_nd_fr hF c5 (fun j hj => rf_nd_lt hF j hj)
    obtain ⟨P1, P2, _⟩ := c7 trivial
    by_cases hx : x5 < rf_len F
    · obtain ⟨w, hw⟩ := dv_drx x5 hFu
      obtain ⟨w1, w2⟩ := dv_nth hx hw
      obtain ⟨v, ev⟩ : ∃ v, (dz_hs F)[x5]? = some v := ⟨_, List.getElem?_eq_getElem (by omega)⟩
      have w3 : u.2.1 13 w.toNat = v := by rw [w2, List.getD_eq_getElem?_getD, ev]; rfl
      have hv0 := hv v (List.mem_of_getElem? ev)
      have tk : (dz_hs F).take (x5 + 1) = (dz_hs F).take x5 ++ [v] := by
        rw [List.take_succ, ev]
        rfl
      have eN : ∀ t1, dz_N1 2 (u.2.1 13 w.toNat) (-1) u t1 → dz_T (s.1 11 6) t1 (rf_n (s.1 11 6).toNat 3 (s.1 33 6) Fn .leaf) (s.1 11 6) ∧ dz_T (s.1 11 6) t1 (rf_n (u.1 11 6).toNat 2 v .leaf .leaf) (u.1 11 6) := fun t1 hn => by
        refine ⟨dz_T_fr c3 (dz_fr_N1 hn) (dz_T_lt c3), dz_T_lo (lo := u.1 11 6) ?_ (by omega)⟩
        rw [w3] at hn
        exact dz_T_new hn hu6.1 (by omega) hv0
      refine w_dv_nar53 (w := w) (n := (rf_len F : Int)) (G := fun t1 t2 => cx_I t2 ∧ cx_F [(11, 17)] u t1 ∧ cx_F [(11, 17)] t1 t2 ∧ (t2.1 = t1.1 ∧ t2.2.1 17 = t1.2.1 17) ∧ dz_T (s.1 11 6) t2 (rf_n (s.1 11 6).toNat 3 (s.1 33 6) (rf_snoc Fn (rf_n (u.1 11 6).toNat 2 v .leaf .leaf)) .leaf) (s.1 11 6) ∧ dz_fr (fun j => j ∉ rf_idx (rf_n (s.1 11 6).toNat 3 (s.1 33 6) Fn .leaf)) t1 t2) (c_dz_arity hsL (d + 1) (by omega)) (c_dz_head hsL (d + 1) (by omega)) (c_dz_node hsL (d + 1) (by omega)) (c_dv_addP hsL (d + 1) (by omega)) (fun _ K hK => ?_) (fun t1 u1 u2 u3 _ K hK => ?_) (fun t1 t2 hG => ⟨hG.1, ?_⟩) i1 (by omega) p1 q3.2 (by omega) (by omega) (by rw [z5]; exact h16) (fun _ => w1) (fun _ => by omega) (fun h => absurd h (by omega)) (fun _ hb => ?_) (fun _ hb t1 t2 u1 u2 u3 hG hI2 => ?_)
      · refine c_dz_arg hsL (d + 1) (by omega) _ _ F _ _ i1 (by omega) (by omega) hFu (fun z _ z2 => ?_)
        rw [show ((x5 : Int)).toNat = x5 by omega] at z2
        rw [dv_nd1 z2 hw]
        exact hK
      · obtain ⟨T1, T2⟩ := eN t1 u3
        have hn1 := (u3 trivial).1
        refine c_dz_append hsL (d + 1) (by omega) (s.1 11 6) _ _ 3 (s.1 33 6) Fn (rf_n (u.1 11 6).toNat 2 v .leaf .leaf) t1 _ u1 (by decide) T1 T2 (fun h => by cases h) (fun j hj hj' => ?_) ?_ (fun t2 a1 a2 a3 a4 a5 => hK t2 ⟨a1, u2, a2, a3, a4, a5⟩)
        · have := dz_T_lt c3 j hj
          have hj2 : j = (u.1 11 6).toNat := by simpa [rf_idx] using hj'
          omega
        · have e1 := dz_hs_len Fn
          rw [c4, List.length_map] at e1
          omega
      · rw [(hG.2.2.1.same 35 rfl).2, (hG.2.1.same 35 rfl).2, P1]
        omega
      · have hb' : dv_tb a1 x5 = false := (dv_bit p1.1 p1.2 (by omega)).mp hb
        refine ⟨rf_len F - (x5 + 1), by omega, rfl, x5 + 1, Fn, rfl, i1, i2, ?_, by omega, rfl⟩
        rw [tk]
        exact dv_nr_no (by rw [lt]; exact hb') i3
      · have hb' : dv_tb a1 x5 = true := by
          cases hq : dv_tb a1 x5 with
          | true => rfl
          | false => exact absurd ((dv_bit p1.1 p1.2 (by omega)).mpr hq) hb
        obtain ⟨g1, g2, g3, g4, g5, g6⟩ := hG
        rw [w3] at u3 hI2 ⊢
        have key := dv_nr_yes hI i1 q3.2 (by rw [lt]; omega) (by rw [lt]; exact hb') i3 g2 u3 g3 g4 g5 g6
        rw [lt] at key
        refine ⟨rf_len F - (x5 + 1), by omega, rfl, x5 + 1, rf_snoc Fn (rf_n (u.1 11 6).toNat 2 v .leaf .leaf), rfl, hI2, ?_, ?_, by omega, rfl⟩
        · exact cx_F_ua rfl (cx_F_ua rfl (cx_F_ua rfl (cx_F_step g3 rfl (cx_F_step g2 rfl i2))))
        · rw [tk]
          exact key
    · have hx' : x5 = rf_len F := by omega
      have he : (dz_hs F).take x5 = dz_hs F := by
        rw [hx', ← hsl]
        exact List.take_length
      refine w_dv_nar53 (w := 0) (n := (rf_len F : Int)) (G := fun _ _ => False) (c_dz_arity hsL (d + 1) (by omega)) (c_dz_head hsL (d + 1) (by omega)) (c_dz_node hsL (d + 1) (by omega)) (c_dv_addP hsL (d + 1) (by omega)) (fun h => absurd h (by omega)) (fun _ _ _ _ h => absurd h (by omega)) (fun _ _ h => h.elim) i1 (by omega) p1 q3.2 (by omega) (by omega) (by rw [z5]; exact h16) (fun h => absurd h (by omega)) (fun h => absurd h (by omega)) (fun _ => ?_) (fun h => absurd h (by omega)) (fun h => absurd h (by omega))
      rw [he] at i3
      exact hK u Fn i1 i2 i3
