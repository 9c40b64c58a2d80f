/-! ===== the desk's complete, exactly ===== -/
/-- what complete leaves -/
def dz_cp (lo : Int) (x : qx_T) (k h : Int) (f : rf_N) (s t : sx_S) (z : Int) (W : rf_N) : Prop := True → W ≠ .leaf ∧ dz_T lo t W z ∧ dz_fr (fun j => (j : Int) < lo) s t ∧ (t.1 11 6 + 2 ≤ s.1 11 6 + 2 * (qx_at x : Int) ∧ s.1 11 8 ≤ t.1 11 8 ∧ t.1 11 8 + 1 ≤ s.1 11 8 + (qx_at x : Int)) ∧ (∀ j : Nat, (j : Int) < s.1 11 8 → t.2.1 17 j = s.2.1 17 j) ∧ dz_sem W k h f (qx_at x)
def dz_i15 (x : qx_T) (s : sx_S) (Ts : List qx_T) (y : qx_T) (x5 x6 : Int) (u : sx_S) : Prop := True → x = dz_as Ts y ∧ dx_is u y x6 ∧ ((Ts.length : Int) = x5 ∧ x5 ≤ 4) ∧ u.1 11 6 = s.1 11 6 ∧ u.1 11 8 = s.1 11 8 + x5 ∧ dz_fr (fun _ => True) s u ∧ (∀ j : Nat, (j : Int) < s.1 11 8 → u.2.1 17 j = s.2.1 17 j) ∧ (∀ (i : Nat) T, Ts[i]? = some T → dx_is u T (u.2.1 17 (s.1 11 8 + (i : Int)).toNat))
/-- with x7 of the ARGs put in -/
def dz_i70 (lo : Int) (x : qx_T) (a0 k h : Int) (f : rf_N) (s : sx_S) (Ts : List qx_T) (y : qx_T) (G : rf_N) (x5 x7 N : Int) (u : sx_S) : Prop := True → x = dz_as Ts y ∧ ((Ts.length : Int) = x5 ∧ x5 ≤ 4 ∧ 0 ≤ x7 ∧ x7 ≤ x5 ∧ (rf_len G : Int) = x7) ∧ dz_T lo u (rf_n a0.toNat k h (rf_snoc f G) .leaf) a0 ∧ dz_fr (fun j => (j : Int) < lo) s u ∧ (s.1 11 6 + x7 ≤ N ∧ N + x7 + 2 * (dz_sm (Ts.drop x7.toNat) : Int) ≤ s.1 11 6 + 2 * (dz_sm Ts : Int)) ∧ (s.1 11 8 + x5 ≤ u.1 11 8 ∧ u.1 11 8 + x7 + (dz_sm (Ts.drop x7.toNat) : Int) ≤ s.1 11 8 + x5 + (dz_sm Ts : Int)) ∧ (∀ j : Nat, (j : Int) < s.1 11 8 → u.2.1 17 j = s.2.1 17 j) ∧ (∀ (i : Nat) T, Ts[i]? = some T → dx_is u T (u.2.1 17 (s.1 11 8 + (i : Int)).toNat)) ∧ (k ≠ 3 → ∀ g, qx_at x ≤ g + 1 → (dz_av G).2 g (dz_bs (s.1 11 8) x7.toNat))
def dz_i158 (lo : Int) (x : qx_T) (a0 k h : Int) (f : rf_N) (s : sx_S) (L : Nat) (G W : rf_N) (x7 x8 : Int) (u : sx_S) : Prop := True → ((L : Int) ≤ 4 ∧ L + 1 ≤ qx_at x ∧ rf_len G = L) ∧ (-1 ≤ x8 ∧ x8 < (L : Int)) ∧ W ≠ .leaf ∧ dz_T lo u W x7 ∧ dz_fr (fun j => (j : Int) < lo) s u ∧ rf_dn (rf_n a0.toNat k h (rf_snoc f G) .leaf) (L - 1 - x8).toNat W ∧ rf_rf (L - 1 - x8).toNat W = (dz_bs (s.1 11 8) L).drop (x8 + 1).toNat ∧ (u.1 11 6 + x8 + 3 ≤ s.1 11 6 + 2 * (qx_at x : Int) ∧ s.1 11 8 ≤ u.1 11 8 ∧ u.1 11 8 + 1 ≤ s.1 11 8 + (qx_at x : Int)) ∧ (∀ j : Nat, (j : Int) < s.1 11 8 → u.2.1 17 j = s.2.1 17 j) ∧ (k ≠ 3 → ∀ g, qx_at x ≤ g + 1 → (dz_av G).2 g (dz_bs (s.1 11 8) L))
theorem dz_is_F {s t : sx_S} {x : qx_T} {z : Int} (hF : cx_F [(11, 17)] s t) (h : dx_is s x z) : dx_is t x z := by
  have h' : qx_ty (s.2.1 9) (s.2.1 10) (s.1 8 2) x z := h
  show qx_ty (t.2.1 9) (t.2.1 10) (t.1 8 2) x z
  rw [(hF.same 9 rfl).2, (hF.same 10 rfl).2, (hF.same 8 rfl).1]
  exact h'
theorem dz_T_a0 {lo a0 k h : Int} {f : rf_N} {s : sx_S} (h : dz_T lo s (rf_n a0.toNat k h f .leaf) a0) : 0 ≤ a0 ∧ a0 < s.1 11 6 ∧ lo ≤ a0 ∧ s.2.1 12 a0.toNat = k := by
  obtain ⟨⟨⟨h1, h2⟩, ⟨h3, _⟩, _⟩, _, _, h4, _⟩ := h trivial
  have := h4 _ List.mem_cons_self
  exact ⟨by omega, by omega, by omega, h3⟩
theorem dz_get {α : Type} {l : List α} {j : Nat} (h : j < l.length) : ∃ a, l[j]? = some a := ⟨_, List.getElem?_eq_getElem h⟩
/-- one ARG more -/
theorem dz_i70_s {lo : Int} {x : qx_T} {a0 k h : Int} {f : rf_N} {s u t : sx_S} {Ts : List qx_T} {y T : qx_T} {G W : rf_N} {x5 x7 N : Int} (hi : dz_i70 lo x a0 k h f s Ts y G x5 x7 N u) (hx : x7 < x5) (hT : Ts[x7.toNat]? = some T) (hF : cx_F [(11, 17)] u t) (h0 : 0 ≤ s.1 11 8) (hW : W ≠ .leaf) (hn : rf_nx W) (hTr : dz_T lo t (rf_n a0.toNat k h (rf_snoc (rf_snoc f G) W) .leaf) a0) (hfr : dz_fr (fun j => (j : Int) < lo) u t) (hN1 : N + 1 ≤ t.1 11 6) (hN2 : t.1 11 6 + 1 ≤ N + 2 * (qx_at T : Int)) (hV1 : u.1 11 8 ≤ t.1 11 8) (hV2 : t.1 11 8 + 1 ≤ u.1 11 8 + (qx_at T : Int)) (h17 : ∀ j : Nat, (j : Int) < u.1 11 8 → t.2.1 17 j = u.2.1 17 j) (hs : k ≠ 3 → ∀ g, qx_at T ≤ g → (dz_av W).1 g [] (s.1 11 8 + x7)) : dz_i70 lo x a0 k h f s Ts y (rf_snoc G W) x5 (x7 + 1) (t.1 11 6) t := fun _ => by
  obtain ⟨i1, ⟨i2, i3, i4, i5, i6⟩, i7, i8, ⟨i9, i10⟩, ⟨i11, i12⟩, i13, i14, i15⟩ := hi trivial
  have e7 : (x7 + 1).toNat = x7.toNat + 1 := by omega
  have hd := dz_sm_drop hT
  have hat := dz_as_at y Ts
  have hmem := dz_sm_mem hT
  have hy := qx_at_pos y
  refine ⟨i1, ⟨i2, i3, by omega, by omega, ?_⟩, by rw [← rf_snoc_assoc]; exact hTr, dz_fr_t hfr i8 (fun _ q => q), ⟨by omega, by rw [e7]; omega⟩, ⟨by omega, by rw [e7]; omega⟩, fun j hj => (h17 j (by omega)).trans (i13 j hj), fun i T' hT' => ?_, fun hk g hg => ?_⟩
  · rw [rf_len_snoc, rf_nx_len hn hW]
    omega
  · have hl : i < Ts.length := (List.getElem?_eq_some_iff.mp hT').1
    rw [h17 _ (by omega)]
    exact dz_is_F hF (i14 i T' hT')
  · rw [e7, dz_bs_s, show (x7.toNat : Int) = x7 by omega]
    rw [i1, hat] at hg
    exact dz_av_app.mpr ⟨_, _, rfl, i15 hk g (by rw [i1, hat]; exact hg), dz_av_one hn (hs hk g (by omega))⟩

theorem st_dz_cp {sL : Nat} {sx : Nat → Int32} (hsL : sL ≤ 3072) (m : Nat) (hm5 : m ≤ 5) {d : Nat} (hd : 3 ≤ d) (h_rec : ∀ m' : Nat, m = m' + 1 → ∀ (lo : Int) (x : qx_T) (a0 a1 a2 k h : Int) (f : rf_N) (s : sx_S) (R : Int → sx_S → Prop), cx_I s → k ≠ 0 → dz_T lo s (rf_n a0.toNat k h f .leaf) a0 → dx_is s x a1 → 2 ≤ s.1 8 2 → qx_at x ≤ m' → 0 ≤ a2 → a2 + ((m' : Nat) : Int) ≤ 5 → (rf_len f : Int) + 1 ≤ s.1 11 6 → s.1 11 6 + 2 * (qx_at x : Int) ≤ 1026 → s.1 11 8 + (qx_at x : Int) ≤ 513 → (∀ z t W, cx_I t → cx_F [(11, 17)] s t → dz_cp lo x k h f s t z W → R z t) → sx_C sL sx (d + 1) 97 [.inr (.inl 11), .inl a0, .inl a1, .inl a2] s R) : ∀ (lo : Int) (x : qx_T) (a0 a1 a2 k h : Int) (f : rf_N) (s : sx_S) (R : Int → sx_S → Prop), cx_I s → k ≠ 0 → dz_T lo s (rf_n a0.toNat k h f .leaf) a0 → dx_is s x a1 → 2 ≤ s.1 8 2 → qx_at x ≤ m → 0 ≤ a2 → a2 + ((m : Nat) : Int) ≤ 5 → (rf_len f : Int) + 1 ≤ s.1 11 6 → s.1 11 6 + 2 * (qx_at x : Int) ≤ 1026 → s.1 11 8 + (qx_at x : Int) ≤ 513 → (∀ z t W, cx_I t → cx_F [(11, 17)] s t → dz_cp lo x k h f s t z W → R z t) → sx_C sL sx (d + 2) 97 [.inr (.inl 11), .inl a0, .inl a1, .inl a2] s R := by
  intro lo x a0 a1 a2 k h f s R hI hk hT hx h2 hm ha2 ham hlen hnd hvr hK
  have h0 := hI.fld 11 6 (by decide) rfl
  have h8 := hI.fld 11 8 (by decide) rfl
  have hxp := qx_at_pos x
  obtain ⟨z1, z2, z3, z4⟩ := dz_T_a0 hT
  refine sx_methL (wr := true) (n := 400) (n' := 400) (stop := [(15, [0, 1, 3, 4, 5, 6, 7]), (70, [0, 1, 3, 4, 5, 7]), (110, [0, 1, 3, 4, 5, 7, 8, 9]), (158, [0, 4, 7, 8])]) (fun nn pc ls u => cx_I u ∧ cx_F [(11, 17)] s u ∧ ((pc = 15 ∧ ∃ (x5 x6 : Int) (Ts : List qx_T) (y : qx_T), ls = [(0, .inr (.inl 11)), (1, .inl a0), (3, .inl a2), (4, .inl (s.1 11 8)), (5, .inl x5), (6, .inl x6), (7, .inl x5)] ∧ dz_i15 x s Ts y x5 x6 u ∧ nn = (1000 - x5).toNat) ∨ (pc = 70 ∧ ∃ (x5 x7 : Int) (Ts : List qx_T) (y : qx_T) (G : rf_N), ls = [(0, .inr (.inl 11)), (1, .inl a0), (3, .inl a2), (4, .inl (s.1 11 8)), (5, .inl x5), (7, .inl x7)] ∧ dz_i70 lo x a0 k h f s Ts y G x5 x7 (u.1 11 6) u ∧ nn = (500 - 2 * x7).toNat) ∨ (pc = 110 ∧ ∃ (x5 x7 x8 x9 : Int) (Ts : List qx_T) (y : qx_T) (G : rf_N), ls = [(0, .inr (.inl 11)), (1, .inl a0), (3, .inl a2), (4, .inl (s.1 11 8)), (5, .inl x5), (7, .inl x7), (8, .inl x8), (9, .inl x9)] ∧ x7 < x5 ∧ dz_i70 lo x a0 k h f s Ts y G x5 x7 x8 u ∧ dz_T x8 u (rf_n x8.toNat 2 (s.1 11 8 + x7) .leaf .leaf) x8 ∧ u.1 11 6 = x8 + 1 ∧ (∀ j ∈ rf_idx (rf_n a0.toNat k h (rf_snoc f G) .leaf), (j : Int) < x8) ∧ (x9 = 1 ∧ k ≠ 3 ∧ a2 < 4 ∨ x9 = 0 ∧ k = 3) ∧ nn = (499 - 2 * x7).toNat) ∨ (pc = 158 ∧ ∃ (x7 x8 : Int) (L : Nat) (G W : rf_N), ls = [(0, .inr (.inl 11)), (4, .inl (s.1 11 8)), (7, .inl x7), (8, .inl x8)] ∧ dz_i158 lo x a0 k h f s L G W x7 x8 u ∧ nn = (x8 + 1).toNat))) hsL (e := eX7_complete) rfl ?_ ?_
  · exact w_cp hI ⟨_, hI, cx_F_refl _ _, Or.inl ⟨rfl, 0, a1, [], x, rfl, fun _ => ⟨rfl, hx, ⟨rfl, by omega⟩, rfl, by omega, dz_fr_refl _ _, fun _ _ => rfl, fun i T q => absurd q (by simp)⟩, rfl⟩⟩
  · rintro nn pc ls u ⟨uI, uF, ⟨rfl, x5, x6, Ts, y, rfl, i15, rfl⟩ | ⟨rfl, x5, x7, Ts, y, G, rfl, i70, rfl⟩ | ⟨rfl, x5, x7, x8, x9, Ts, y, G, rfl, hlt, i70, hP, hN, hdis, h9, rfl⟩ | ⟨rfl, x7, x8, L, G, W, rfl, i158, rfl⟩⟩
    · obtain ⟨i1, i2, ⟨i3, i4⟩, i5, i6, i7, i8, i9⟩ := i15 trivial
      have u8 : u.1 8 2 = s.1 8 2 := congrFun (uF.same 8 rfl).1 2
      have hr := dx_rng i2 (by omega)
      have hr8 := uI.fld 8 2 (by decide) rfl
      have hat := dz_as_at y Ts
      rw [← i1] at hat
      have hsl := dz_sm_len Ts
      have hy := qx_at_pos y
      refine w_cp_15 (c_dz_isA hsL (d + 1) (by omega)) (c_dz_from hsL (d + 1) (by omega)) (c_dz_to hsL (d + 1) (by omega)) (c_dz_variable2 hsL (d + 1) (by omega)) uI ?_ (by omega) (by omega) ?_ ?_
      · by_cases q : x6 < 2
        · omega
        · obtain ⟨T, w, e, _, _⟩ := dz_arr i2 (by omega) (by omega)
          have e2 : qx_at y = qx_at T + qx_at w := by rw [e]; rfl
          have := qx_at_pos T
          have := qx_at_pos w
          omega
      · intro _
        refine ⟨(500 - 2 * (0 : Int)).toNat, by omega, uI, uF, Or.inr (Or.inl ⟨rfl, x5, 0, Ts, y, .leaf, rfl, fun _ => ⟨i1, ⟨i3, by omega, by omega, by omega, rfl⟩, ?_, dz_fr_w i7 (fun _ _ => trivial), ⟨by omega, ?_⟩, ⟨by omega, ?_⟩, i8, i9, fun _ g _ => rfl⟩, rfl⟩)⟩
        · rw [rf_snoc_leaf]
          exact dz_T_fr hT i7 (fun _ _ => trivial)
        · show _ + 2 * ((dz_sm Ts : Nat) : Int) ≤ _
          omega
        · show _ + ((dz_sm Ts : Nat) : Int) ≤ _
          omega
      · intro q1 q2 q3 t t1 t2 t3 w hw
        obtain ⟨T, w', e, e1, e2⟩ := dz_arr i2 q2 q3
        obtain ⟨v1, v2, v3, v4, v5⟩ := t3 trivial
        have tF := cx_F_step t2 rfl uF
        refine ⟨(1000 - (x5 + 1)).toNat, by omega, t1, tF, Or.inl ⟨rfl, x5 + 1, w, Ts ++ [T], w', rfl, fun _ => ⟨?_, ?_, ⟨?_, by omega⟩, by omega, by omega, dz_fr_t (dz_fr_V1 t3) i7 (fun _ q => q), fun j hj => (v5 j (by omega)).trans (i8 j hj), fun i T' hT' => ?_⟩, rfl⟩⟩
        · rw [i1, e, dz_as_snoc]
        · rw [hw, (t2.same 10 rfl).2]
          exact dz_is_F t2 e2
        · rw [List.length_append, List.length_singleton]
          omega
        · rcases Nat.lt_or_ge i Ts.length with q | q
          · rw [List.getElem?_append_left q] at hT'
            rw [v5 _ (by omega)]
            exact dz_is_F t2 (i9 i T' hT')
          · have hl : i < (Ts ++ [T]).length := (List.getElem?_eq_some_iff.mp hT').1
            rw [List.length_append, List.length_singleton] at hl
            have ei : i = Ts.length := by omega
            subst ei
            have eT : T' = T := by simpa using hT'.symm
            rw [eT, show (s.1 11 8 + (Ts.length : Int)).toNat = (u.1 11 8).toNat by omega, v4]
            exact dz_is_F t2 e1
    · obtain ⟨i1, ⟨i2, i3, i4, i5, i6⟩, i7, i8, ⟨i9, i10⟩, ⟨i11, i12⟩, i13, i14, i15⟩ := i70 trivial
      obtain ⟨y1, y2, y3, y4⟩ := dz_T_a0 i7
      have hat := dz_as_at y Ts
      rw [← i1] at hat
      have hsl := dz_sm_len Ts
      have hy := qx_at_pos y
      have hlt := dz_T_lt i7
      refine w_cp_70 (c_dz_kind hsL (d + 1) (by omega)) (c_dz_node2 hsL (d + 1) (by omega)) uI ⟨y1, y2⟩ (by omega) (by omega) (by omega) (by omega) ?_ ?_ ?_ ?_
      · intro q
        obtain ⟨T, hTT⟩ := dz_get (l := Ts) (j := x7.toNat) (by omega)
        have := dz_sm_drop hTT
        have := qx_at_pos T
        omega
      · intro q
        subst q
        refine ⟨_, ?_, uI, uF, Or.inr (Or.inr (Or.inr ⟨rfl, a0, x7 - 1, Ts.length, G, rf_n a0.toNat k h (rf_snoc f G) .leaf, rfl, fun _ => ⟨⟨by omega, by omega, by omega⟩, ⟨by omega, by omega⟩, nofun, i7, i8, ?_, ?_, ⟨by omega, by omega, by omega⟩, i13, ?_⟩, rfl⟩))⟩
        · omega
        · rw [show ((Ts.length : Int) - 1 - (x7 - 1)).toNat = 0 by omega]
          rfl
        · rw [show ((Ts.length : Int) - 1 - (x7 - 1)).toNat = 0 by omega, List.drop_eq_nil_of_le (by rw [dz_bs_len]; omega)]
          rfl
        · rw [show Ts.length = x7.toNat by omega]
          exact i15
      · intro q q3 q4 t t1 t2 t3
        obtain ⟨n1, n2, n3, n4, n5⟩ := t3 trivial
        refine ⟨(499 - 2 * x7).toNat, by omega, t1, cx_F_step t2 rfl uF, Or.inr (Or.inr (Or.inl ⟨rfl, x5, x7, u.1 11 6, 1, Ts, y, G, rfl, q, fun _ => ⟨i1, ⟨i2, i3, i4, i5, i6⟩, dz_T_fr i7 (dz_fr_N1 t3) hlt, dz_fr_t (dz_fr_N1 t3) i8 (fun j hj => by omega), ⟨i9, i10⟩, ⟨by omega, by omega⟩, fun j hj => (congrFun n3 j).trans (i13 j hj), fun i T' hT' => ?_, i15⟩, dz_T_new t3 (by omega) (by omega) (by omega), n1, hlt, Or.inl ⟨rfl, by omega, q4⟩, rfl⟩))⟩
        rw [n3]
        exact dz_is_F t2 (i14 i T' hT')
      · intro q q3 t t1 t2 t3
        obtain ⟨n1, n2, n3, n4, n5⟩ := t3 trivial
        have k3 : k = 3 := by omega
        refine ⟨(499 - 2 * x7).toNat, by omega, t1, cx_F_step t2 rfl uF, Or.inr (Or.inr (Or.inl ⟨rfl, x5, x7, u.1 11 6, 0, Ts, y, G, rfl, q, fun _ => ⟨i1, ⟨i2, i3, i4, i5, i6⟩, dz_T_fr i7 (dz_fr_N1 t3) hlt, dz_fr_t (dz_fr_N1 t3) i8 (fun j hj => by omega), ⟨i9, i10⟩, ⟨by omega, by omega⟩, fun j hj => (congrFun n3 j).trans (i13 j hj), fun i T' hT' => ?_, i15⟩, dz_T_new t3 (by omega) (by omega) (by omega), n1, hlt, Or.inr ⟨rfl, k3⟩, rfl⟩))⟩
        rw [n3]
        exact dz_is_F t2 (i14 i T' hT')
    · obtain ⟨i1, ⟨i2, i3, i4, i5, i6⟩, i7, i8, ⟨i9, i10⟩, ⟨i11, i12⟩, i13, i14, i15⟩ := i70 trivial
      obtain ⟨y1, y2, y3, y4⟩ := dz_T_a0 i7
      have hat := dz_as_at y Ts
      rw [← i1] at hat
      have hy := qx_at_pos y
      obtain ⟨T, hTT⟩ := dz_get (l := Ts) (j := x7.toNat) (by omega)
      have hdr := dz_sm_drop hTT
      have hTm := dz_sm_mem hTT
      have hdl := dz_sm_len (Ts.drop (x7.toNat + 1))
      rw [List.length_drop] at hdl
      have hTp := qx_at_pos T
      have ub := uI.fld 11 6 (by decide) rfl
      have hTi := i14 _ T hTT
      rw [show ((x7.toNat : Nat) : Int) = x7 by omega] at hTi
      have u8 : u.1 8 2 = s.1 8 2 := congrFun (uF.same 8 rfl).1 2
      have hl1 : (rf_len (rf_snoc f G) : Int) + 1 ≤ x8 := by rw [rf_len_snoc]; omega
      rcases h9 with ⟨rfl, k3, a4⟩ | ⟨rfl, k3⟩
      · obtain ⟨m', rfl⟩ : ∃ m', m = m' + 1 := ⟨m - 1, by omega⟩
        refine w_cp_110a (Zc := fun w t => cx_I t ∧ cx_F [(11, 17)] u t ∧ ∃ W, dz_cp x8 T 2 (s.1 11 8 + x7) .leaf u t w W) (Za := fun t => cx_I t ∧ cx_F [(11, 17)] s t ∧ ∃ G', dz_i70 lo x a0 k h f s Ts y G' x5 (x7 + 1) (t.1 11 6) t) (c_dz_vt hsL (d + 1) (by omega)) uI (by omega) (by omega) (by omega) ?_ ?_ ?_
        · intro K hK'
          exact h_rec m' rfl x8 T x8 _ (a2 + 1) 2 (s.1 11 8 + x7) .leaf u K uI (by omega) hP hTi (by omega) (by omega) (by omega) (by omega) (by show (0 : Int) + 1 ≤ _; omega) (by omega) (by omega) (fun z t W t1 t2 t3 => hK' z t ⟨t1, t2, W, t3⟩)
        · rintro w t ⟨t1, t2, W, t3⟩ K hK'
          obtain ⟨c1, c2, c3, ⟨c4, c5, c6⟩, c7, c8⟩ := t3 trivial
          have hge := (c2 trivial).2.2.2.1
          have htu : u.1 11 6 ≤ t.1 11 6 := (c3 trivial).1
          have hT2 := dz_T_fr i7 c3 hdis
          refine c_dz_append hsL (d + 1) (by omega) lo a0 w k h (rf_snoc f G) W t K t1 hk hT2 (dz_T_lo c2 (by omega)) c1 (fun j hj hj' => ?_) (by omega) (fun v v1 v2 ⟨v3, v4⟩ v5 v6 => ?_)
          · have e1 := hdis j hj
            have e2 := hge j hj'
            omega
          · refine hK' v ⟨v1, cx_F_step v2 rfl (cx_F_step t2 rfl uF), _, dz_i70_s i70 hlt hTT (cx_F_step v2 rfl t2) (by omega) c1 (c2 trivial).2.2.2.2 v5 (dz_fr_t v6 (dz_fr_w c3 (fun j hj => by omega)) (fun j hj hj' => ?_)) (by rw [v3]; omega) (by rw [v3]; omega) (by rw [v3]; omega) (by rw [v3]; omega) (fun j hj => by rw [v4]; exact c7 j hj) (fun _ g hg => ?_)⟩
            · have := (hT2 trivial).2.2.2.1 j hj'
              omega
            · obtain ⟨g', rfl⟩ : ∃ g', g = g' + 1 := ⟨g - 1, by omega⟩
              exact (c8 trivial).2 g' [] rfl (by omega) (by show 0 + _ ≤ 5; omega) rfl
        · rintro t ⟨t1, t2, G', t3⟩
          exact ⟨(500 - 2 * (x7 + 1)).toNat, by omega, t1, t2, Or.inr (Or.inl ⟨rfl, x5, x7 + 1, Ts, y, G', rfl, t3, rfl⟩)⟩
      · refine w_cp_110b (Za := fun t => cx_I t ∧ cx_F [(11, 17)] s t ∧ ∃ G', dz_i70 lo x a0 k h f s Ts y G' x5 (x7 + 1) (t.1 11 6) t) (by omega) ?_ ?_
        · intro K hK'
          have hge := (hP trivial).2.2.2.1
          refine c_dz_append hsL (d + 1) (by omega) lo a0 x8 k h (rf_snoc f G) _ u K uI hk i7 (dz_T_lo hP (by omega)) nofun (fun j hj hj' => ?_) (by omega) (fun v v1 v2 ⟨v3, v4⟩ v5 v6 => ?_)
          · have e1 := hdis j hj
            have e2 := hge j hj'
            omega
          · refine hK' v ⟨v1, cx_F_step v2 rfl uF, _, dz_i70_s (W := rf_n x8.toNat 2 (s.1 11 8 + x7) .leaf .leaf) i70 hlt hTT v2 (by omega) nofun rfl v5 (dz_fr_w v6 (fun j hj hj' => ?_)) (by rw [v3]; omega) (by rw [v3]; omega) (by rw [v3]; omega) (by rw [v3]; omega) (fun j hj => by rw [v4]) (fun q => absurd k3 q)⟩
            have := (i7 trivial).2.2.2.1 j hj'
            omega
        · rintro t ⟨t1, t2, G', t3⟩
          exact ⟨(500 - 2 * (x7 + 1)).toNat, by omega, t1, t2, Or.inr (Or.inl ⟨rfl, x5, x7 + 1, Ts, y, G', rfl, t3, rfl⟩)⟩
    · obtain ⟨⟨j1, j2, j3⟩, ⟨j4, j5⟩, j6, j7, j8, j9, j10, ⟨j11, j12, j13⟩, j14, j15⟩ := i158 trivial
      have ub := uI.fld 11 6 (by decide) rfl
      have hw : 0 ≤ x7 ∧ x7 < u.1 11 6 ∧ lo ≤ x7 := by
        cases W with
        | leaf => exact absurd rfl j6
        | inner wj wk wu wf wx =>
          obtain ⟨⟨⟨q1, q2⟩, _⟩, _, _, q3, _⟩ := j7 trivial
          have := q3 _ List.mem_cons_self
          omega
      refine w_cp_158 (c_dz_lambda hsL (d + 1) (by omega)) uI (by omega) (by omega) (by omega) (by omega) ?_ ?_
      · intro e
        subst e
        refine hK _ _ W uI uF (fun _ => ⟨j6, j7, j8, ⟨by omega, j12, j13⟩, j14, ?_⟩)
        rw [show ((L : Int) - 1 - -1).toNat = L by omega] at j9 j10
        exact dz_sem_mk hk j9 j10 j3 j2 j15
      · intro hx8 t t1 t2 t3
        obtain ⟨n1, n2, n3, n4, n5⟩ := t3 trivial
        refine ⟨_, ?_, t1, cx_F_step t2 rfl uF, Or.inr (Or.inr (Or.inr ⟨rfl, _, x8 - 1, L, G, rf_n (u.1 11 6).toNat 0 (s.1 11 8 + x8) W .leaf, rfl, fun _ => ⟨⟨j1, j2, j3⟩, ⟨by omega, by omega⟩, nofun, dz_T_lam t3 (by omega) (by omega) (by omega) j7, dz_fr_t (dz_fr_N1 t3) j8 (fun j hj => by omega), ?_, ?_, ⟨by omega, by omega, by omega⟩, fun j hj => (congrFun n3 j).trans (j14 j hj), j15⟩, rfl⟩))⟩
        · omega
        · rw [show ((L : Int) - 1 - (x8 - 1)).toNat = ((L : Int) - 1 - x8).toNat + 1 by omega]
          exact ⟨rfl, j9⟩
        · rw [show ((L : Int) - 1 - (x8 - 1)).toNat = ((L : Int) - 1 - x8).toNat + 1 by omega]
          show (s.1 11 8 + x8) :: rf_rf _ W = _
          rw [j10, show (x8 - 1 + 1).toNat = x8.toNat by omega, dz_bs_drop _ (show x8.toNat < L by omega), show (x8 + 1).toNat = x8.toNat + 1 by omega, show ((x8.toNat : Nat) : Int) = x8 by omega]
theorem c_dz_cp {sL : Nat} {sx : Nat → Int32} (hsL : sL ≤ 3072) : ∀ m : Nat, m ≤ 5 → ∀ d, 5 + m ≤ d → ∀ (lo : Int) (x : qx_T) (a0 a1 a2 k h : Int) (f : rf_N) (s : sx_S) (R : Int → sx_S → Prop), cx_I s → k ≠ 0 → dz_T lo s (rf_n a0.toNat k h f .leaf) a0 → dx_is s x a1 → 2 ≤ s.1 8 2 → qx_at x ≤ m → 0 ≤ a2 → a2 + ((m : Nat) : Int) ≤ 5 → (rf_len f : Int) + 1 ≤ s.1 11 6 → s.1 11 6 + 2 * (qx_at x : Int) ≤ 1026 → s.1 11 8 + (qx_at x : Int) ≤ 513 → (∀ z t W, cx_I t → cx_F [(11, 17)] s t → dz_cp lo x k h f s t z W → R z t) → sx_C sL sx d 97 [.inr (.inl 11), .inl a0, .inl a1, .inl a2] s R := by
  intro m
  induction m with
  | zero =>
    intro hm d hd
    obtain ⟨d, rfl⟩ : ∃ e, d = e + 2 := ⟨d - 2, by omega⟩
    exact st_dz_cp hsL 0 hm (by omega) (fun m' h => absurd h (by omega))
  | succ m ih =>
    intro hm d hd
    obtain ⟨d, rfl⟩ : ∃ e, d = e + 2 := ⟨d - 2, by omega⟩
    exact st_dz_cp hsL (m + 1) hm (by omega) (fun m' h => by
      obtain rfl : m = m' := by omega
      exact ih (by omega) (d + 1) (by omega))
