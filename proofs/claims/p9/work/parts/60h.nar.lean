section
/-! ===== the desk's answers: narrow, all of it ===== -/
theorem c_dv_nar {sL : Nat} {sx : Nat → Int32} (hsL : sL ≤ 3072) (d : Nat) (hd : 3 ≤ d) : ∀ (a0 a1 x3 : Int) (F : rf_N) (s : sx_S) (K : Int → sx_S → Prop), cx_I s → (0 ≤ a0 ∧ a0 < s.1 11 6) → (0 ≤ a1 ∧ a1 < 32) → (s.2.1 13 a0.toNat = x3 ∧ 0 ≤ x3 ∧ x3 < 32) → dz_nd s F (s.2.1 14 a0.toNat) → s.2.1 16 a0.toNat = (rf_len F : Int) → rf_len F ≤ 4 → s.1 33 6 < 32 → s.1 11 6 + 1 + (rf_len F : Int) ≤ 1024 → (∀ v ∈ dz_hs F, 0 ≤ v) → (∀ t Fn, cx_I t → cx_F [(11, 17), (33, 37)] s t → dv_nr a1 x3 (dz_hs F) s t Fn → K 0 t) → sx_C sL sx d 9 [.inr (.inl 33), .inl a0, .inl a1] s K := by
  intro a0 a1 x3 F s K hI p0 p1 q3 hF h16 hl hr hN hv hK
  have h0 := hI.fld 11 6 (by decide) rfl
  have h33 := hI.fld 33 6 (by decide) rfl
  have hsl := dz_hs_len F
  obtain ⟨d, rfl⟩ : ∃ e, d = e + 2 := ⟨d - 2, by omega⟩
  refine sx_methL (wr := true) (n := 400) (n' := 400) (stop := [(53, [0, 1, 2, 3, 4, 5])]) (fun nn pc ls u => pc = 53 ∧ ∃ (x5 : Nat) (Fn : rf_N), ls = [(0, .inr (.inl 33)), (1, .inl a0), (2, .inl a1), (3, .inl x3), (4, .inl (s.1 11 6)), (5, .inl (x5 : Int))] ∧ cx_I u ∧ cx_F [(11, 17), (33, 37)] s u ∧ dv_nr a1 x3 ((dz_hs F).take x5) s u Fn ∧ x5 ≤ rf_len F ∧ nn = rf_len F - x5) hsL (e := eX0_narrow) rfl ?_ ?_
  · refine w_dv_nar (c_dz_head hsL (d + 1) (by omega)) (c_dz_node hsL (d + 1) (by omega)) (c_dv_bind hsL (d + 1) (by omega)) hI p0 (by omega) q3 hr (by omega) (fun t t1 t2 t3 t4 => ?_)
    refine ⟨_, rfl, 0, .leaf, rfl, t4, ?_, dv_nr_0 hI q3.2.1 t2 t3, Nat.zero_le _, rfl⟩
    exact cx_F_uf rfl (cx_F_ua rfl (cx_F_ua rfl (cx_F_step t2 rfl (cx_F_refl _ _))))
  · rintro nn pc ls u ⟨rfl, x5, Fn, rfl, i1, i2, i3, i4, rfl⟩
    obtain ⟨⟨c1, c2⟩, c3, c4, c5, ⟨c6, c7⟩, c8, c9, c10, c11⟩ := i3 trivial
    have lk := dv_kp_len (k := a1) (l := (dz_hs F).take x5) (i := 0)
    have lt : ((dz_hs F).take x5).length = x5 := by
      rw [List.length_take]
      omega
    have hu6 := i1.fld 11 6 (by decide) rfl
    obtain ⟨z1, z2, z3, z4, z5⟩ := (c5 trivial).2 a0.toNat (by omega)
    have hFu : dz_nd u F (u.2.1 14 a0.toNat) := by
      rw [z3]
      exact dz_nd_fr hF c5 (fun j hj => rf_nd_lt hF j hj)
    obtain ⟨P1, P2, _⟩ := c7 trivial
    by_cases hx : x5 < rf_len F
    · obtain ⟨w, hw⟩ := dv_drx x5 hFu
      obtain ⟨w1, w2⟩ := dv_nth hx hw
      obtain ⟨v, ev⟩ : ∃ v, (dz_hs F)[x5]? = some v := ⟨_, List.getElem?_eq_getElem (by omega)⟩
      have w3 : u.2.1 13 w.toNat = v := by rw [w2, List.getD_eq_getElem?_getD, ev]; rfl
      have hv0 := hv v (List.mem_of_getElem? ev)
      have tk : (dz_hs F).take (x5 + 1) = (dz_hs F).take x5 ++ [v] := by
        rw [List.take_succ, ev]
        rfl
      have eN : ∀ t1, dz_N1 2 (u.2.1 13 w.toNat) (-1) u t1 → dz_T (s.1 11 6) t1 (rf_n (s.1 11 6).toNat 3 (s.1 33 6) Fn .leaf) (s.1 11 6) ∧ dz_T (s.1 11 6) t1 (rf_n (u.1 11 6).toNat 2 v .leaf .leaf) (u.1 11 6) := fun t1 hn => by
        refine ⟨dz_T_fr c3 (dz_fr_N1 hn) (dz_T_lt c3), dz_T_lo (lo := u.1 11 6) ?_ (by omega)⟩
        rw [w3] at hn
        exact dz_T_new hn hu6.1 (by omega) hv0
      refine w_dv_nar53 (w := w) (n := (rf_len F : Int)) (G := fun t1 t2 => cx_I t2 ∧ cx_F [(11, 17)] u t1 ∧ cx_F [(11, 17)] t1 t2 ∧ (t2.1 = t1.1 ∧ t2.2.1 17 = t1.2.1 17) ∧ dz_T (s.1 11 6) t2 (rf_n (s.1 11 6).toNat 3 (s.1 33 6) (rf_snoc Fn (rf_n (u.1 11 6).toNat 2 v .leaf .leaf)) .leaf) (s.1 11 6) ∧ dz_fr (fun j => j ∉ rf_idx (rf_n (s.1 11 6).toNat 3 (s.1 33 6) Fn .leaf)) t1 t2) (c_dz_arity hsL (d + 1) (by omega)) (c_dz_head hsL (d + 1) (by omega)) (c_dz_node hsL (d + 1) (by omega)) (c_dv_addP hsL (d + 1) (by omega)) (fun _ K hK => ?_) (fun t1 u1 u2 u3 _ K hK => ?_) (fun t1 t2 hG => ⟨hG.1, ?_⟩) i1 (by omega) p1 q3.2 (by omega) (by omega) (by rw [z5]; exact h16) (fun _ => w1) (fun _ => by omega) (fun h => absurd h (by omega)) (fun _ hb => ?_) (fun _ hb t1 t2 u1 u2 u3 hG hI2 => ?_)
      · refine c_dz_arg hsL (d + 1) (by omega) _ _ F _ _ i1 (by omega) (by omega) hFu (fun z _ z2 => ?_)
        rw [show ((x5 : Int)).toNat = x5 by omega] at z2
        rw [dv_nd1 z2 hw]
        exact hK
      · obtain ⟨T1, T2⟩ := eN t1 u3
        have hn1 := (u3 trivial).1
        refine c_dz_append hsL (d + 1) (by omega) (s.1 11 6) _ _ 3 (s.1 33 6) Fn (rf_n (u.1 11 6).toNat 2 v .leaf .leaf) t1 _ u1 (by decide) T1 T2 (fun h => by cases h) (fun j hj hj' => ?_) ?_ (fun t2 a1 a2 a3 a4 a5 => hK t2 ⟨a1, u2, a2, a3, a4, a5⟩)
        · have := dz_T_lt c3 j hj
          have hj2 : j = (u.1 11 6).toNat := by simpa [rf_idx] using hj'
          omega
        · have e1 := dz_hs_len Fn
          rw [c4, List.length_map] at e1
          omega
      · rw [(hG.2.2.1.same 35 rfl).2, (hG.2.1.same 35 rfl).2, P1]
        omega
      · have hb' : dv_tb a1 x5 = false := (dv_bit p1.1 p1.2 (by omega)).mp hb
        refine ⟨rf_len F - (x5 + 1), by omega, rfl, x5 + 1, Fn, rfl, i1, i2, ?_, by omega, rfl⟩
        rw [tk]
        exact dv_nr_no (by rw [lt]; exact hb') i3
      · have hb' : dv_tb a1 x5 = true := by
          cases hq : dv_tb a1 x5 with
          | true => rfl
          | false => exact absurd ((dv_bit p1.1 p1.2 (by omega)).mpr hq) hb
        obtain ⟨g1, g2, g3, g4, g5, g6⟩ := hG
        rw [w3] at u3 hI2 ⊢
        have key := dv_nr_yes hI i1 q3.2 (by rw [lt]; omega) (by rw [lt]; exact hb') i3 g2 u3 g3 g4 g5 g6
        rw [lt] at key
        refine ⟨rf_len F - (x5 + 1), by omega, rfl, x5 + 1, rf_snoc Fn (rf_n (u.1 11 6).toNat 2 v .leaf .leaf), rfl, hI2, ?_, ?_, by omega, rfl⟩
        · exact cx_F_ua rfl (cx_F_ua rfl (cx_F_ua rfl (cx_F_step g3 rfl (cx_F_step g2 rfl i2))))
        · rw [tk]
          exact key
    · have hx' : x5 = rf_len F := by omega
      have he : (dz_hs F).take x5 = dz_hs F := by
        rw [hx', ← hsl]
        exact List.take_length
      refine w_dv_nar53 (w := 0) (n := (rf_len F : Int)) (G := fun _ _ => False) (c_dz_arity hsL (d + 1) (by omega)) (c_dz_head hsL (d + 1) (by omega)) (c_dz_node hsL (d + 1) (by omega)) (c_dv_addP hsL (d + 1) (by omega)) (fun h => absurd h (by omega)) (fun _ _ _ _ h => absurd h (by omega)) (fun _ _ h => h.elim) i1 (by omega) p1 q3.2 (by omega) (by omega) (by rw [z5]; exact h16) (fun h => absurd h (by omega)) (fun h => absurd h (by omega)) (fun _ => ?_) (fun h => absurd h (by omega)) (fun h => absurd h (by omega))
      rw [he] at i3
      exact hK u Fn i1 i2 i3
end
section
/-! ===== the desk's solver: sets of ARGs ===== -/
theorem w_dv_isu {CALL : sx_Ca} {sL : Nat} {sx : Nat → Int32} {Q : Nat → sx_L → sx_S → Prop} {R : Int → sx_S → Prop} (h_kind : ∀ (a0 : Int) (s : sx_S) (K : Int → sx_S → Prop), cx_I s → (-2147483648 ≤ a0 ∧ a0 ≤ 2147483647) → (∀ z : Int, (0 ≤ a0 → a0 < s.1 11 6 → z = s.2.1 12 a0.toNat) → (a0 < 0 → z = -1) → K z s) → CALL 91 [.inr (.inl 11), .inl a0] s K) {s : sx_S} {a0 : Int} (hI : cx_I s) (p0 : 0 ≤ a0 ∧ a0 < s.1 11 6) (hK1 : s.2.1 12 a0.toNat = 3 → R 1 s) (hK0 : s.2.1 12 a0.toNat ≠ 3 → R 0 s) : sx_wp true sL sx eX6_isUnknown CALL [] Q R 400 0 (sx_argsF 0 [.inr (.inl 38), .inl a0]) [] s := by
  have h0 := hI.fld 11 6 (by decide) rfl
  have h12 := hI.arr 12 (by decide) rfl a0.toNat
  repeat' (first | (with_reducible (rintro _ rfl)) | (with_reducible intro _) | (refine And.intro ?_ ?_) | (refine h_kind _ _ _ hI (by omega) (fun v v1 v2 => ?_); obtain rfl := v1 p0.1 p0.2))
  all_goals (try dsimp only at *)
  all_goals (first | trivial | assumption | omega | (exfalso; omega) | (exact hK1 (by omega)) | (exact hK0 (by omega)) | skip)
theorem c_dv_isu {sL : Nat} {sx : Nat → Int32} (hsL : sL ≤ 3072) (d : Nat) (hd : 3 ≤ d) : ∀ (a0 : Int) (s : sx_S) (K : Int → sx_S → Prop), cx_I s → (0 ≤ a0 ∧ a0 < s.1 11 6) → (s.2.1 12 a0.toNat = 3 → K 1 s) → (s.2.1 12 a0.toNat ≠ 3 → K 0 s) → sx_C sL sx d 74 [.inr (.inl 38), .inl a0] s K := by
  intro a0 s K hI p0 hK1 hK0
  obtain ⟨d, rfl⟩ : ∃ e, d = e + 2 := ⟨d - 2, by omega⟩
  exact sx_meth (wr := true) (n := 400) hsL (e := eX6_isUnknown) rfl (w_dv_isu (Q := fun _ _ _ => False) (c_dz_kind hsL (d + 1) (by omega)) hI p0 hK1 hK0)
theorem dv_pow4 {n : Nat} (h : n ≤ 4) : (2 : Nat) ^ n ≤ 16 ∧ 1 ≤ (2 : Nat) ^ n := by
  have : n = 0 ∨ n = 1 ∨ n = 2 ∨ n = 3 ∨ n = 4 := by omega
  rcases this with rfl | rfl | rfl | rfl | rfl <;> decide
theorem w_dv_ala {CALL : sx_Ca} {sL : Nat} {sx : Nat → Int32} {Q : Nat → sx_L → sx_S → Prop} {R : Int → sx_S → Prop} (h_arity : ∀ (a0 : Int) (s : sx_S) (K : Int → sx_S → Prop), cx_I s → (-2147483648 ≤ a0 ∧ a0 ≤ 2147483647) → (∀ z : Int, (0 ≤ a0 → a0 < s.1 11 6 → z = s.2.1 16 a0.toNat) → (a0 < 0 → z = 0) → K z s) → CALL 94 [.inr (.inl 11), .inl a0] s K) {s : sx_S} {a0 : Int} {n : Nat} (hI : cx_I s) (p0 : 0 ≤ a0 ∧ a0 < s.1 11 6) (e16 : s.2.1 16 a0.toNat = (n : Int)) (hn : n ≤ 4) (hK : R (((2 ^ n : Nat) : Int) - 1) s) : sx_wp true sL sx eX6_allArguments CALL [] Q R 400 0 (sx_argsF 0 [.inr (.inl 38), .inl a0]) [] s := by
  have h0 := hI.fld 11 6 (by decide) rfl
  have hp := dv_pow4 hn
  have zz1 : sx_w true (dv_shl 1 (n : Int) - 1) = ((2 ^ n : Nat) : Int) - 1 := by
    rw [dv_shl1 (by omega), px_wid (by omega) (by omega)]
  repeat' (first | (with_reducible (rintro _ rfl)) | (with_reducible intro _) | (refine And.intro ?_ ?_) | (refine h_arity _ _ _ hI (by omega) (fun v v1 v2 => ?_); obtain rfl : v = (n : Int) := (v1 p0.1 p0.2).trans e16))
  all_goals (try dsimp only at *)
  all_goals (first | trivial | assumption | omega | (exfalso; omega) | (show R _ _; rw [← zz1] at hK; exact hK) | (rw [← zz1] at hK; exact hK) | skip)
theorem c_dv_ala {sL : Nat} {sx : Nat → Int32} (hsL : sL ≤ 3072) (d : Nat) (hd : 3 ≤ d) : ∀ (a0 : Int) (n : Nat) (s : sx_S) (K : Int → sx_S → Prop), cx_I s → (0 ≤ a0 ∧ a0 < s.1 11 6) → s.2.1 16 a0.toNat = (n : Int) → n ≤ 4 → K (((2 ^ n : Nat) : Int) - 1) s → sx_C sL sx d 75 [.inr (.inl 38), .inl a0] s K := by
  intro a0 n s K hI p0 e16 hn hK
  obtain ⟨d, rfl⟩ : ∃ e, d = e + 2 := ⟨d - 2, by omega⟩
  exact sx_meth (wr := true) (n := 400) hsL (e := eX6_allArguments) rfl (w_dv_ala (Q := fun _ _ _ => False) (c_dz_arity hsL (d + 1) (by omega)) hI p0 e16 hn hK)
theorem w_dv_eqa {CALL : sx_Ca} {sL : Nat} {sx : Nat → Int32} {Q : Nat → sx_L → sx_S → Prop} {R : Int → sx_S → Prop} {s : sx_S} (hQ : Q 4 [(0, .inr (.inl 38)), (1, .inl 0), (2, .inl 0)] s) : sx_wp true sL sx eX6_equalArguments CALL [(4, [0, 1, 2])] Q R 400 0 (sx_argsF 0 [.inr (.inl 38)]) [] s := hQ
theorem w_dv_eqa4 {CALL : sx_Ca} {sL : Nat} {sx : Nat → Int32} {Q : Nat → sx_L → sx_S → Prop} {R : Int → sx_S → Prop} (h_arity : ∀ (a0 : Int) (s : sx_S) (K : Int → sx_S → Prop), cx_I s → (-2147483648 ≤ a0 ∧ a0 ≤ 2147483647) → (∀ z : Int, (0 ≤ a0 → a0 < s.1 11 6 → z = s.2.1 16 a0.toNat) → (a0 < 0 → z = 0) → K z s) → CALL 94 [.inr (.inl 11), .inl a0] s K) (h_head : ∀ (a0 : Int) (s : sx_S) (K : Int → sx_S → Prop), cx_I s → (-2147483648 ≤ a0 ∧ a0 ≤ 2147483647) → (∀ z : Int, (0 ≤ a0 → a0 < s.1 11 6 → z = s.2.1 13 a0.toNat) → (a0 < 0 → z = -1) → K z s) → CALL 92 [.inr (.inl 11), .inl a0] s K) {s : sx_S} {x1 x2 w w' lv lv' n : Int} (h_arg1 : x2 < n → ∀ K : Int → sx_S → Prop, K w s → CALL 95 [.inr (.inl 11), .inl (s.1 38 8), .inl x2] s K) (h_arg2 : x2 < n → ∀ K : Int → sx_S → Prop, K w' s → CALL 95 [.inr (.inl 11), .inl (s.1 38 10), .inl x2] s K) (h_of1 : x2 < n → ∀ K : Int → sx_S → Prop, K lv s → CALL 47 [.inr (.inl 29), .inl (s.1 38 9), .inl (s.2.1 13 w.toNat)] s K) (h_of2 : x2 < n → ∀ K : Int → sx_S → Prop, K lv' s → CALL 47 [.inr (.inl 29), .inl (s.1 38 11), .inl (s.2.1 13 w'.toNat)] s K) (hI : cx_I s) (p0 : 0 ≤ (s.1 38 8) ∧ (s.1 38 8) < s.1 11 6) (q1 : -2147483648 ≤ x1 ∧ x1 ≤ 2147483647) (q2 : 0 ≤ x2 ∧ x2 ≤ n ∧ n ≤ 4) (en : s.2.1 16 (s.1 38 8).toNat = n) (qw : x2 < n → (0 ≤ w ∧ w < s.1 11 6) ∧ (0 ≤ w' ∧ w' < s.1 11 6)) (rl : -2147483648 ≤ lv ∧ lv ≤ 2147483647) (rl' : -2147483648 ≤ lv' ∧ lv' ≤ 2147483647) (hK : x2 = n → R x1 s) (hQ1 : x2 < n → lv = lv' → Q 4 [(0, .inr (.inl 38)), (1, .inl (dv_or x1 (dv_shl 1 x2))), (2, .inl (x2 + 1))] s) (hQ2 : x2 < n → lv ≠ lv' → Q 4 [(0, .inr (.inl 38)), (1, .inl (dv_or x1 0)), (2, .inl (x2 + 1))] s) : sx_wp true sL sx eX6_equalArguments CALL [(4, [0, 1, 2])] Q R 400 4 [(0, .inr (.inl 38)), (1, .inl x1), (2, .inl x2)] [] s := by
  have h0 := hI.fld 11 6 (by decide) rfl
  have h13 := hI.arr 13 (by decide) rfl w.toNat
  have h13' := hI.arr 13 (by decide) rfl w'.toNat
  have zzy : sx_w true (x2 + 1) = x2 + 1 := px_wid (by omega) (by omega)
  repeat' (first | (with_reducible (rintro _ rfl)) | (with_reducible intro _) | (refine And.intro ?_ ?_) | (refine h_arity _ _ _ hI (by omega) (fun v v1 v2 => ?_); obtain rfl : v = n := (v1 p0.1 p0.2).trans en) | (refine h_arg1 (by omega) _ ?_) | (refine h_arg2 (by omega) _ ?_) | (refine h_head w _ _ hI (by have := qw (by omega); omega) (fun v v1 v2 => ?_); obtain rfl : v = s.2.1 13 w.toNat := v1 (qw (by omega)).1.1 (qw (by omega)).1.2) | (refine h_head w' _ _ hI (by have := qw (by omega); omega) (fun v v1 v2 => ?_); obtain rfl : v = s.2.1 13 w'.toNat := v1 (qw (by omega)).2.1 (qw (by omega)).2.2) | (refine h_of1 (by omega) _ ?_) | (refine h_of2 (by omega) _ ?_))
  all_goals (try dsimp only at *)
  all_goals (first | trivial | assumption | omega | (exfalso; omega) | (exact hK (by omega)) | (have zz9 := hQ1 (by omega) (by omega); rw [← zzy] at zz9; exact zz9) | (have zz9 := hQ2 (by omega) (by omega); rw [← zzy] at zz9; exact zz9) | skip)

theorem c_dv_eqa {sL : Nat} {sx : Nat → Int32} (hsL : sL ≤ 3072) (d : Nat) (hd : 3 ≤ d) : ∀ (F F' : rf_N) (c c' : List (Int × Int)) (hi hi' : Int) (s : sx_S) (K : Int → sx_S → Prop), cx_I s → (0 ≤ (s.1 38 8) ∧ (s.1 38 8) < s.1 11 6) → (0 ≤ (s.1 38 10) ∧ (s.1 38 10) < s.1 11 6) → dz_nd s F (s.2.1 14 (s.1 38 8).toNat) → dz_nd s F' (s.2.1 14 (s.1 38 10).toNat) → s.2.1 16 (s.1 38 8).toNat = (rf_len F : Int) → rf_len F ≤ 4 → rf_len F' = rf_len F → dv_c s c hi (s.1 38 9) → hi ≤ s.1 29 3 → dv_c s c' hi' (s.1 38 11) → hi' ≤ s.1 29 3 → (∀ z : Int, 0 ≤ z → z < ((2 ^ rf_len F : Nat) : Int) → (∀ i : Nat, i < rf_len F → dv_tb z i = decide (dv_lk c ((dz_hs F).getD i (-1)) = dv_lk c' ((dz_hs F').getD i (-1)))) → K z s) → sx_C sL sx d 76 [.inr (.inl 38)] s K := by
  intro F F' c c' hi hi' s K hI p0 p0' hF hF' h16 hl hl' hc hh hc' hh' hK
  have h0 := hI.fld 11 6 (by decide) rfl
  obtain ⟨d, rfl⟩ : ∃ e, d = e + 2 := ⟨d - 2, by omega⟩
  refine sx_methL (wr := true) (n := 400) (n' := 400) (stop := [(4, [0, 1, 2])]) (fun nn pc ls u => pc = 4 ∧ u = s ∧ ∃ (x1 : Int) (x2 : Nat), ls = [(0, .inr (.inl 38)), (1, .inl x1), (2, .inl (x2 : Int))] ∧ (0 ≤ x1 ∧ x1 < ((2 ^ x2 : Nat) : Int)) ∧ (∀ i : Nat, i < x2 → dv_tb x1 i = decide (dv_lk c ((dz_hs F).getD i (-1)) = dv_lk c' ((dz_hs F').getD i (-1)))) ∧ x2 ≤ rf_len F ∧ nn = rf_len F - x2) hsL (e := eX6_equalArguments) rfl ?_ ?_
  · exact w_dv_eqa ⟨_, rfl, rfl, 0, 0, rfl, ⟨by omega, by decide⟩, fun i hi => absurd hi (by omega), by omega, rfl⟩
  · rintro nn pc ls u ⟨rfl, rfl, x1, x2, rfl, i1, i2, i3, rfl⟩
    have hp := dv_pow4 (n := x2) (by omega)
    by_cases hx : x2 < rf_len F
    · obtain ⟨w, hw⟩ := dv_drx x2 hF
      obtain ⟨w1, w2⟩ := dv_nth hx hw
      obtain ⟨w', hw'⟩ := dv_drx x2 hF'
      obtain ⟨w1', w2'⟩ := dv_nth (by omega) hw'
      have r13 := hI.arr 13 (by decide) rfl w.toNat
      have r13' := hI.arr 13 (by decide) rfl w'.toNat
      obtain ⟨a1, a2, a3⟩ := dv_add i1.1 (by omega) i1.2
      have stp : ∀ y : Int, (0 ≤ y ∧ y < ((2 ^ (x2 + 1) : Nat) : Int)) → (∀ i : Nat, i < x2 + 1 → dv_tb y i = decide (dv_lk c ((dz_hs F).getD i (-1)) = dv_lk c' ((dz_hs F').getD i (-1)))) → ∃ m', m' < rf_len F - x2 ∧ (4 = 4 ∧ u = u ∧ ∃ (x1 : Int) (x3 : Nat), ([(0, .inr (.inl 38)), (1, .inl y), (2, .inl ((x2 : Int) + 1))] : sx_L) = [(0, .inr (.inl 38)), (1, .inl x1), (2, .inl (x3 : Int))] ∧ (0 ≤ x1 ∧ x1 < ((2 ^ x3 : Nat) : Int)) ∧ (∀ i : Nat, i < x3 → dv_tb x1 i = decide (dv_lk c ((dz_hs F).getD i (-1)) = dv_lk c' ((dz_hs F').getD i (-1)))) ∧ x3 ≤ rf_len F ∧ m' = rf_len F - x3) := fun y y1 y2 => ⟨rf_len F - (x2 + 1), by omega, rfl, rfl, y, x2 + 1, rfl, y1, y2, by omega, rfl⟩
      refine w_dv_eqa4 (w := w) (w' := w') (lv := dv_lk c ((dz_hs F).getD x2 (-1))) (lv' := dv_lk c' ((dz_hs F').getD x2 (-1))) (n := (rf_len F : Int)) (c_dz_arity hsL (d + 1) (by omega)) (c_dz_head hsL (d + 1) (by omega)) (fun _ K hK => ?_) (fun _ K hK => ?_) (fun _ K hK => ?_) (fun _ K hK => ?_) hI p0 (by omega) (by omega) h16 (fun _ => ⟨w1, w1'⟩) (dv_lk_rng hI hc _) (dv_lk_rng hI hc' _) (fun h => absurd h (by omega)) (fun _ he => ?_) (fun _ he => ?_)
      · refine c_dz_arg hsL (d + 1) (by omega) _ _ F _ _ hI p0 (by omega) hF (fun z _ z2 => ?_)
        rw [show ((x2 : Int)).toNat = x2 by omega] at z2
        rw [dv_nd1 z2 hw]
        exact hK
      · refine c_dz_arg hsL (d + 1) (by omega) _ _ F' _ _ hI p0' (by omega) hF' (fun z _ z2 => ?_)
        rw [show ((x2 : Int)).toNat = x2 by omega] at z2
        rw [dv_nd1 z2 hw']
        exact hK
      · rw [w2] at r13 ⊢
        exact c_dv_of hsL (d + 1) (by omega) _ _ hi c _ _ hI r13 hc hh hK
      · rw [w2'] at r13' ⊢
        exact c_dv_of hsL (d + 1) (by omega) _ _ hi' c' _ _ hI r13' hc' hh' hK
      · rw [a1]
        refine stp _ ⟨by omega, a2⟩ (fun i hi'' => ?_)
        rw [a3 i (by omega)]
        by_cases hq : i = x2
        · rw [hq, decide_eq_true he]
          simp
        · rw [i2 i (by omega)]
          simp [hq]
      · rw [dv_or0 i1.1 (by omega)]
        have p' : (2 : Nat) ^ (x2 + 1) = 2 * 2 ^ x2 := Nat.pow_succ'
        refine stp _ ⟨i1.1, by omega⟩ (fun i hi'' => ?_)
        by_cases hq : i = x2
        · rw [hq, decide_eq_false he]
          exact dv_tb_hi i1.2 (Nat.le_refl _)
        · exact i2 i (by omega)
    · have hx' : x2 = rf_len F := by omega
      refine w_dv_eqa4 (w := 0) (w' := 0) (lv := 0) (lv' := 0) (n := (rf_len F : Int)) (c_dz_arity hsL (d + 1) (by omega)) (c_dz_head hsL (d + 1) (by omega)) (fun h => absurd h (by omega)) (fun h => absurd h (by omega)) (fun h => absurd h (by omega)) (fun h => absurd h (by omega)) hI p0 (by omega) (by omega) h16 (fun h => absurd h (by omega)) (by omega) (by omega) (fun _ => ?_) (fun h => absurd h (by omega)) (fun h => absurd h (by omega))
      rw [hx'] at i1 i2
      exact hK x1 i1.1 i1.2 i2
/-- allowed: bound inside, or one of the own -/
def dv_al (s : sx_S) (v : Int) : Prop := s.1 38 12 ≤ v ∨ (0 ≤ v ∧ ∃ j : Nat, j < 4 ∧ s.2.1 54 j = v)
theorem dv_or1 {b : Int} (h : b = 0 ∨ b = 1) : dv_or b 1 = 1 ∧ dv_or b 0 = b := by
  rcases h with rfl | rfl <;> decide
theorem w_dv_isa {CALL : sx_Ca} {sL : Nat} {sx : Nat → Int32} {Q : Nat → sx_L → sx_S → Prop} {R : Int → sx_S → Prop} {s : sx_S} {a0 : Int} (hI : cx_I s) (p0 : -2147483648 ≤ a0 ∧ a0 ≤ 2147483647) (hQ1 : s.1 38 12 ≤ a0 → Q 16 [(0, .inr (.inl 38)), (1, .inl a0), (2, .inl 1), (3, .inl 0)] s) (hQ0 : a0 < s.1 38 12 → Q 16 [(0, .inr (.inl 38)), (1, .inl a0), (2, .inl 0), (3, .inl 0)] s) : sx_wp true sL sx eX6_isAllowed CALL [(16, [0, 1, 2, 3])] Q R 400 0 (sx_argsF 0 [.inr (.inl 38), .inl a0]) [] s := by
  have h12 := hI.fld 38 12 (by decide) rfl
  repeat' (first | (with_reducible (rintro _ rfl)) | (with_reducible intro _) | (refine And.intro ?_ ?_))
  all_goals (try dsimp only at *)
  all_goals (first | trivial | assumption | omega | (exfalso; omega) | (exact hQ1 (by omega)) | (exact hQ0 (by omega)) | skip)
theorem w_dv_isa16 {CALL : sx_Ca} {sL : Nat} {sx : Nat → Int32} {Q : Nat → sx_L → sx_S → Prop} {R : Int → sx_S → Prop} {s : sx_S} {a0 x2 x3 : Int} (hI : cx_I s) (p0 : -2147483648 ≤ a0 ∧ a0 ≤ 2147483647) (q2 : x2 = 0 ∨ x2 = 1) (q3 : 0 ≤ x3 ∧ x3 ≤ 4) (hK : x3 = 4 → R x2 s) (hQ1 : x3 < 4 → 0 ≤ a0 → s.2.1 54 x3.toNat = a0 → Q 16 [(0, .inr (.inl 38)), (1, .inl a0), (2, .inl (dv_or x2 1)), (3, .inl (x3 + 1))] s) (hQ0 : x3 < 4 → (a0 < 0 ∨ s.2.1 54 x3.toNat ≠ a0) → Q 16 [(0, .inr (.inl 38)), (1, .inl a0), (2, .inl (dv_or x2 0)), (3, .inl (x3 + 1))] s) : sx_wp true sL sx eX6_isAllowed CALL [(16, [0, 1, 2, 3])] Q R 400 16 [(0, .inr (.inl 38)), (1, .inl a0), (2, .inl x2), (3, .inl x3)] [] s := by
  have h54 := hI.arr 54 (by decide) rfl x3.toNat
  have zzy : sx_w true (x3 + 1) = x3 + 1 := px_wid (by omega) (by omega)
  repeat' (first | (with_reducible (rintro _ rfl)) | (with_reducible intro _) | (refine And.intro ?_ ?_))
  all_goals (try dsimp only at *)
  all_goals (first | trivial | assumption | omega | (exfalso; omega) | (exact hK (by omega)) | (have zz9 := hQ1 (by omega) (by omega) (by omega); rw [← zzy] at zz9; exact zz9) | (have zz9 := hQ0 (by omega) (by omega); rw [← zzy] at zz9; exact zz9) | skip)
theorem c_dv_isa {sL : Nat} {sx : Nat → Int32} (hsL : sL ≤ 3072) (d : Nat) (hd : 2 ≤ d) : ∀ (a0 : Int) (s : sx_S) (K : Int → sx_S → Prop), cx_I s → (-2147483648 ≤ a0 ∧ a0 ≤ 2147483647) → (dv_al s a0 → K 1 s) → (¬ dv_al s a0 → K 0 s) → sx_C sL sx d 83 [.inr (.inl 38), .inl a0] s K := by
  intro a0 s K hI p0 hK1 hK0
  obtain ⟨d, rfl⟩ : ∃ e, d = e + 2 := ⟨d - 2, by omega⟩
  refine sx_methL (wr := true) (n := 400) (n' := 400) (stop := [(16, [0, 1, 2, 3])]) (fun nn pc ls u => pc = 16 ∧ u = s ∧ ∃ (x2 : Int) (x3 : Nat), ls = [(0, .inr (.inl 38)), (1, .inl a0), (2, .inl x2), (3, .inl (x3 : Int))] ∧ (x2 = 0 ∨ x2 = 1) ∧ (x2 = 1 ↔ s.1 38 12 ≤ a0 ∨ (0 ≤ a0 ∧ ∃ j : Nat, j < x3 ∧ s.2.1 54 j = a0)) ∧ x3 ≤ 4 ∧ nn = 4 - x3) hsL (e := eX6_isAllowed) rfl ?_ ?_
  · refine w_dv_isa hI p0 (fun h => ⟨_, rfl, rfl, 1, 0, rfl, Or.inr rfl, ⟨fun _ => Or.inl h, fun _ => rfl⟩, by omega, rfl⟩) (fun h => ⟨_, rfl, rfl, 0, 0, rfl, Or.inl rfl, ⟨fun q => absurd q (by decide), fun q => ?_⟩, by omega, rfl⟩)
    rcases q with q | ⟨_, j, hj, _⟩
    · omega
    · omega
  · rintro nn pc ls u ⟨rfl, rfl, x2, x3, rfl, i1, i2, i3, rfl⟩
    obtain ⟨o1, o2⟩ := dv_or1 i1
    refine w_dv_isa16 hI p0 i1 (by omega) (fun h => ?_) (fun h h1 h2 => ?_) (fun h h1 => ?_)
    · have e4 : x3 = 4 := by omega
      rw [e4] at i2
      rcases i1 with q | q
      · rw [q]
        exact hK0 (fun ha => by
          have := i2.mpr ha
          omega)
      · rw [q]
        exact hK1 (i2.mp q)
    · rw [o1]
      exact ⟨4 - (x3 + 1), by omega, rfl, rfl, 1, x3 + 1, rfl, Or.inr rfl, ⟨fun _ => Or.inr ⟨h1, x3, by omega, h2⟩, fun _ => rfl⟩, by omega, rfl⟩
    · rw [o2]
      refine ⟨4 - (x3 + 1), by omega, rfl, rfl, x2, x3 + 1, rfl, i1, ⟨fun q => ?_, fun q => i2.mpr ?_⟩, by omega, rfl⟩
      · rcases i2.mp q with q | ⟨q1, j, q2, q3⟩
        · exact Or.inl q
        · exact Or.inr ⟨q1, j, by omega, q3⟩
      · rcases q with q | ⟨q1, j, q2, q3⟩
        · exact Or.inl q
        · refine Or.inr ⟨q1, j, ?_, q3⟩
          by_cases hj : j = x3
          · rw [hj] at q3
            rcases h1 with h1 | h1
            · omega
            · exact absurd q3 h1
          · omega
theorem w_dv_alw {CALL : sx_Ca} {sL : Nat} {sx : Nat → Int32} {Q : Nat → sx_L → sx_S → Prop} {R : Int → sx_S → Prop} {s : sx_S} {a0 a1 : Int} (hQ : Q 5 [(0, .inr (.inl 38)), (1, .inl a0), (2, .inl a1), (3, .inl 0), (4, .inl 0)] s) : sx_wp true sL sx eX6_allowedArguments CALL [(5, [0, 1, 2, 3, 4])] Q R 400 0 (sx_argsF 0 [.inr (.inl 38), .inl a0, .inl a1]) [] s := hQ
theorem w_dv_alw5 {CALL : sx_Ca} {sL : Nat} {sx : Nat → Int32} {Q : Nat → sx_L → sx_S → Prop} {R : Int → sx_S → Prop} (h_arity : ∀ (a0 : Int) (s : sx_S) (K : Int → sx_S → Prop), cx_I s → (-2147483648 ≤ a0 ∧ a0 ≤ 2147483647) → (∀ z : Int, (0 ≤ a0 → a0 < s.1 11 6 → z = s.2.1 16 a0.toNat) → (a0 < 0 → z = 0) → K z s) → CALL 94 [.inr (.inl 11), .inl a0] s K) (h_head : ∀ (a0 : Int) (s : sx_S) (K : Int → sx_S → Prop), cx_I s → (-2147483648 ≤ a0 ∧ a0 ≤ 2147483647) → (∀ z : Int, (0 ≤ a0 → a0 < s.1 11 6 → z = s.2.1 13 a0.toNat) → (a0 < 0 → z = -1) → K z s) → CALL 92 [.inr (.inl 11), .inl a0] s K) (h_isa : ∀ (a0 : Int) (s : sx_S) (K : Int → sx_S → Prop), cx_I s → (-2147483648 ≤ a0 ∧ a0 ≤ 2147483647) → (dv_al s a0 → K 1 s) → (¬ dv_al s a0 → K 0 s) → CALL 83 [.inr (.inl 38), .inl a0] s K) {s : sx_S} {a0 a1 x3 x4 w lv n : Int} (h_arg : x4 < n → ∀ K : Int → sx_S → Prop, K w s → CALL 95 [.inr (.inl 11), .inl a0, .inl x4] s K) (h_of : x4 < n → ∀ K : Int → sx_S → Prop, K lv s → CALL 47 [.inr (.inl 29), .inl a1, .inl (s.2.1 13 w.toNat)] s K) (hI : cx_I s) (p0 : 0 ≤ a0 ∧ a0 < s.1 11 6) (p1 : -2147483648 ≤ a1 ∧ a1 ≤ 2147483647) (q3 : -2147483648 ≤ x3 ∧ x3 ≤ 2147483647) (q4 : 0 ≤ x4 ∧ x4 ≤ n ∧ n ≤ 4) (en : s.2.1 16 a0.toNat = n) (qw : x4 < n → 0 ≤ w ∧ w < s.1 11 6) (rl : -2147483648 ≤ lv ∧ lv ≤ 2147483647) (hK : x4 = n → R x3 s) (hQ1 : x4 < n → dv_al s lv → Q 5 [(0, .inr (.inl 38)), (1, .inl a0), (2, .inl a1), (3, .inl (dv_or x3 (dv_shl 1 x4))), (4, .inl (x4 + 1))] s) (hQ2 : x4 < n → ¬ dv_al s lv → Q 5 [(0, .inr (.inl 38)), (1, .inl a0), (2, .inl a1), (3, .inl (dv_or x3 0)), (4, .inl (x4 + 1))] s) : sx_wp true sL sx eX6_allowedArguments CALL [(5, [0, 1, 2, 3, 4])] Q R 400 5 [(0, .inr (.inl 38)), (1, .inl a0), (2, .inl a1), (3, .inl x3), (4, .inl x4)] [] s := by
  have h0 := hI.fld 11 6 (by decide) rfl
  have h13 := hI.arr 13 (by decide) rfl w.toNat
  have zzy : sx_w true (x4 + 1) = x4 + 1 := px_wid (by omega) (by omega)
  repeat' (first | (with_reducible (rintro _ rfl)) | (with_reducible intro _) | (refine And.intro ?_ ?_) | (refine h_arity _ _ _ hI (by omega) (fun v v1 v2 => ?_); obtain rfl : v = n := (v1 p0.1 p0.2).trans en) | (refine h_arg (by omega) _ ?_) | (refine h_head w _ _ hI (by have := qw (by omega); omega) (fun v v1 v2 => ?_); obtain rfl : v = s.2.1 13 w.toNat := v1 (qw (by omega)).1 (qw (by omega)).2) | (refine h_of (by omega) _ ?_) | (refine h_isa _ _ _ hI rl (fun zza => ?_) (fun zza => ?_)))
  all_goals (try dsimp only at *)
  all_goals (first | trivial | assumption | omega | (exfalso; omega) | (exact hK (by omega)) | (have zz9 := hQ1 (by omega) zza; rw [← zzy] at zz9; exact zz9) | (have zz9 := hQ2 (by omega) zza; rw [← zzy] at zz9; exact zz9) | skip)
theorem c_dv_alw {sL : Nat} {sx : Nat → Int32} (hsL : sL ≤ 3072) (d : Nat) (hd : 3 ≤ d) : ∀ (a0 a1 : Int) (F : rf_N) (c : List (Int × Int)) (hi : Int) (s : sx_S) (K : Int → sx_S → Prop), cx_I s → (0 ≤ a0 ∧ a0 < s.1 11 6) → dz_nd s F (s.2.1 14 a0.toNat) → s.2.1 16 a0.toNat = (rf_len F : Int) → rf_len F ≤ 4 → dv_c s c hi a1 → hi ≤ s.1 29 3 → (∀ z : Int, 0 ≤ z → z < ((2 ^ rf_len F : Nat) : Int) → (∀ i : Nat, i < rf_len F → (dv_tb z i = true ↔ dv_al s (dv_lk c ((dz_hs F).getD i (-1))))) → K z s) → sx_C sL sx d 82 [.inr (.inl 38), .inl a0, .inl a1] s K := by
  intro a0 a1 F c hi s K hI p0 hF h16 hl hc hh hK
  have h0 := hI.fld 11 6 (by decide) rfl
  have rc := dv_ch_rng hc
  have h29 := hI.fld 29 3 (by decide) rfl
  obtain ⟨d, rfl⟩ : ∃ e, d = e + 2 := ⟨d - 2, by omega⟩
  refine sx_methL (wr := true) (n := 400) (n' := 400) (stop := [(5, [0, 1, 2, 3, 4])]) (fun nn pc ls u => pc = 5 ∧ u = s ∧ ∃ (x3 : Int) (x4 : Nat), ls = [(0, .inr (.inl 38)), (1, .inl a0), (2, .inl a1), (3, .inl x3), (4, .inl (x4 : Int))] ∧ (0 ≤ x3 ∧ x3 < ((2 ^ x4 : Nat) : Int)) ∧ (∀ i : Nat, i < x4 → (dv_tb x3 i = true ↔ dv_al s (dv_lk c ((dz_hs F).getD i (-1))))) ∧ x4 ≤ rf_len F ∧ nn = rf_len F - x4) hsL (e := eX6_allowedArguments) rfl ?_ ?_
  · exact w_dv_alw ⟨_, rfl, rfl, 0, 0, rfl, ⟨by omega, by decide⟩, fun i hi => absurd hi (by omega), by omega, rfl⟩
  · rintro nn pc ls u ⟨rfl, rfl, x3, x4, rfl, i1, i2, i3, rfl⟩
    have hp := dv_pow4 (n := x4) (by omega)
    by_cases hx : x4 < rf_len F
    · obtain ⟨w, hw⟩ := dv_drx x4 hF
      obtain ⟨w1, w2⟩ := dv_nth hx hw
      have r13 := hI.arr 13 (by decide) rfl w.toNat
      obtain ⟨b1, b2, b3⟩ := dv_add i1.1 (by omega) i1.2
      have stp : ∀ y : Int, (0 ≤ y ∧ y < ((2 ^ (x4 + 1) : Nat) : Int)) → (∀ i : Nat, i < x4 + 1 → (dv_tb y i = true ↔ dv_al u (dv_lk c ((dz_hs F).getD i (-1))))) → ∃ m', m' < rf_len F - x4 ∧ (5 = 5 ∧ u = u ∧ ∃ (x3 : Int) (x5 : Nat), ([(0, .inr (.inl 38)), (1, .inl a0), (2, .inl a1), (3, .inl y), (4, .inl ((x4 : Int) + 1))] : sx_L) = [(0, .inr (.inl 38)), (1, .inl a0), (2, .inl a1), (3, .inl x3), (4, .inl (x5 : Int))] ∧ (0 ≤ x3 ∧ x3 < ((2 ^ x5 : Nat) : Int)) ∧ (∀ i : Nat, i < x5 → (dv_tb x3 i = true ↔ dv_al u (dv_lk c ((dz_hs F).getD i (-1))))) ∧ x5 ≤ rf_len F ∧ m' = rf_len F - x5) := fun y y1 y2 => ⟨rf_len F - (x4 + 1), by omega, rfl, rfl, y, x4 + 1, rfl, y1, y2, by omega, rfl⟩
      refine w_dv_alw5 (w := w) (lv := dv_lk c ((dz_hs F).getD x4 (-1))) (n := (rf_len F : Int)) (c_dz_arity hsL (d + 1) (by omega)) (c_dz_head hsL (d + 1) (by omega)) (c_dv_isa hsL (d + 1) (by omega)) (fun _ K hK => ?_) (fun _ K hK => ?_) hI p0 (by omega) (by omega) (by omega) h16 (fun _ => w1) (dv_lk_rng hI hc _) (fun h => absurd h (by omega)) (fun _ he => ?_) (fun _ he => ?_)
      · refine c_dz_arg hsL (d + 1) (by omega) _ _ F _ _ hI p0 (by omega) hF (fun z _ z2 => ?_)
        rw [show ((x4 : Int)).toNat = x4 by omega] at z2
        rw [dv_nd1 z2 hw]
        exact hK
      · rw [w2] at r13 ⊢
        exact c_dv_of hsL (d + 1) (by omega) _ _ hi c _ _ hI r13 hc hh hK
      · rw [b1]
        refine stp _ ⟨by omega, b2⟩ (fun i hi'' => ?_)
        rw [b3 i (by omega)]
        by_cases hq : i = x4
        · rw [hq]
          exact ⟨fun _ => he, fun _ => by simp⟩
        · rw [← i2 i (by omega)]
          simp [hq]
      · rw [dv_or0 i1.1 (by omega)]
        have p' : (2 : Nat) ^ (x4 + 1) = 2 * 2 ^ x4 := Nat.pow_succ'
        refine stp _ ⟨i1.1, by omega⟩ (fun i hi'' => ?_)
        by_cases hq : i = x4
        · rw [hq, dv_tb_hi i1.2 (Nat.le_refl _)]
          exact ⟨fun q => absurd q (by decide), fun q => absurd q he⟩
        · exact i2 i (by omega)
    · have hx' : x4 = rf_len F := by omega
      refine w_dv_alw5 (w := 0) (lv := 0) (n := (rf_len F : Int)) (c_dz_arity hsL (d + 1) (by omega)) (c_dz_head hsL (d + 1) (by omega)) (c_dv_isa hsL (d + 1) (by omega)) (fun h => absurd h (by omega)) (fun h => absurd h (by omega)) hI p0 (by omega) (by omega) (by omega) h16 (fun h => absurd h (by omega)) (by omega) (fun _ => ?_) (fun h => absurd h (by omega)) (fun h => absurd h (by omega))
      rw [hx'] at i1 i2
      exact hK x3 i1.1 i1.2 i2
end
section
/-! ===== the desk's memory: trees, piles, chains, answers ===== -/
/-- a single term -/
def vx_sg (A : rf_N) : Prop := ∃ (j : Nat) (k h : Int) (F : rf_N), A = rf_n j k h F .leaf
theorem vx_sg_1 {A : rf_N} (h : vx_sg A) : A ≠ .leaf ∧ vx_1 A = A := by
  obtain ⟨j, k, hh, F, rfl⟩ := h
  exact ⟨fun q => (by cases q), rfl⟩
/-- made as the desk makes them -/
def dv_tr (A16 : Nat → Int) (AR : Nat → List Int) : rf_N → Prop
  | .leaf => True
  | .inner j q _ F X => ((q.1 = 0 ∧ vx_sg F ∧ dv_tr A16 AR F) ∨ ((q.1 = 1 ∨ q.1 = 2) ∧ (A16 j = (rf_len F : Int) ∧ rf_len F ≤ 4) ∧ dv_tr A16 AR F) ∨ (q.1 = 3 ∧ (A16 j = (rf_len F : Int) ∧ rf_len F ≤ 4) ∧ AR j = dz_hs F ∧ (AR j).Nodup ∧ ∀ v ∈ AR j, 0 ≤ v)) ∧ 0 ≤ q.2 ∧ dv_tr A16 AR X
theorem dv_tr_mono {A16 A16' : Nat → Int} {AR AR' : Nat → List Int} : ∀ {A : rf_N}, (∀ j ∈ rf_idx A, A16' j = A16 j ∧ AR' j = AR j) → dv_tr A16 AR A → dv_tr A16' AR' A
  | .leaf, _, _ => trivial
  | .inner j q u F X, h, ⟨h1, h2, h3⟩ => by
    obtain ⟨e1, e2⟩ := h j List.mem_cons_self
    have hF : ∀ i ∈ rf_idx F, A16' i = A16 i ∧ AR' i = AR i := fun i hi => h i (List.mem_cons_of_mem _ (List.mem_append_left _ hi))
    refine ⟨?_, h2, dv_tr_mono (fun i hi => h i (List.mem_cons_of_mem _ (List.mem_append_right _ hi))) h3⟩
    rcases h1 with ⟨a, b, c⟩ | ⟨a, b, c⟩ | ⟨a, b, c, d⟩
    · exact Or.inl ⟨a, b, dv_tr_mono hF c⟩
    · exact Or.inr (Or.inl ⟨a, by rw [e1]; exact b, dv_tr_mono hF c⟩)
    · exact Or.inr (Or.inr ⟨a, by rw [e1]; exact b, by rw [e2]; exact c, by rw [e2]; exact d⟩)
/-- the term A stands at z -/
def dv_at (s : sx_S) (AR : Nat → List Int) (A : rf_N) (z : Int) : Prop := ∃ (j : Nat) (k h : Int) (F : rf_N), A = rf_n j k h F .leaf ∧ (z = (j : Int) ∧ (j : Int) < s.1 11 6) ∧ (s.2.1 12 j = k ∧ s.2.1 13 j = h) ∧ dz_nd s F (s.2.1 14 j) ∧ dv_tr (s.2.1 16) AR A
theorem dv_at_lt {s : sx_S} {AR : Nat → List Int} {A : rf_N} {z : Int} (h : dv_at s AR A z) : ∀ j ∈ rf_idx A, (j : Int) < s.1 11 6 := fun i hi => by
  obtain ⟨j, k, hh, F, rfl, h1, h2, h3, h4⟩ := h
  rcases List.mem_cons.mp hi with rfl | hi
  · exact h1.2
  · rcases List.mem_append.mp hi with hi | hi
    · exact rf_nd_lt h3 i hi
    · exact absurd hi List.not_mem_nil
theorem dv_at_z {s : sx_S} {AR : Nat → List Int} {A : rf_N} {z : Int} (h : dv_at s AR A z) : 0 ≤ z ∧ z < s.1 11 6 := by
  obtain ⟨j, k, hh, F, rfl, h1, _⟩ := h
  omega
/-- the nodes below n stay, and their ARGs -/
def dv_nf (n : Int) (AR AR' : Nat → List Int) (s t : sx_S) : Prop := True → dz_fr (fun j => (j : Int) < n) s t ∧ ∀ j : Nat, (j : Int) < n → AR' j = AR j
theorem dv_nf_refl (n : Int) (AR : Nat → List Int) (s : sx_S) : dv_nf n AR AR s s := fun _ => ⟨dz_fr_refl _ s, fun _ _ => rfl⟩
theorem dv_at_fr {s t : sx_S} {AR AR' : Nat → List Int} {A : rf_N} {z n : Int} (hn : s.1 11 6 ≤ n) (h : dv_nf n AR AR' s t) (hA : dv_at s AR A z) : dv_at t AR' A z := by
  have hlt := dv_at_lt hA
  obtain ⟨h1, h2⟩ := h trivial
  obtain ⟨g1, g2⟩ := h1 trivial
  obtain ⟨j, k, hh, F, rfl, ⟨a1, a2⟩, ⟨a3, a4⟩, a5, a6⟩ := hA
  have hj : ∀ i ∈ rf_idx (rf_n j k hh F .leaf), (i : Int) < n := fun i hi => by
    have := hlt i hi
    omega
  obtain ⟨b1, b2, b3, b4, b5⟩ := g2 j (hj j List.mem_cons_self)
  refine ⟨j, k, hh, F, rfl, ⟨a1, by omega⟩, ⟨by rw [b1]; exact a3, by rw [b2]; exact a4⟩, ?_, dv_tr_mono (fun i hi => ⟨(g2 i (hj i hi)).2.2.2.2, h2 i (hj i hi)⟩) a6⟩
  rw [b3]
  exact dz_nd_fr a5 h1 (fun i hi => hj i (List.mem_cons_of_mem _ (List.mem_append_left _ hi)))
theorem dv_el_at {s : sx_S} {AR : Nat → List Int} {F : rf_N} {i : Nat} {w : Int} (hi : i < rf_len F) (hF : dv_tr (s.2.1 16) AR F) (h : dz_nd s (dz_dr i F) w) : ∃ A, (vx_el F)[i]? = some A ∧ dv_at s AR A w := by
  induction i generalizing F with
  | zero =>
    cases F with
    | leaf => exact absurd hi (Nat.lt_irrefl _)
    | inner j q u ff x =>
      obtain ⟨⟨a1, a2⟩, ⟨a3, a4⟩, a5, a6⟩ := h
      exact ⟨.inner j q () ff .leaf, rfl, j, q.1, q.2, ff, rfl, ⟨a1, a2⟩, ⟨a3, a4⟩, a5, hF.1, hF.2.1, trivial⟩
  | succ i ih =>
    cases F with
    | leaf => exact absurd hi (Nat.not_lt_zero _)
    | inner j q u ff x =>
      have hi' : i < rf_len x := by
        have : i + 1 < rf_len x + 1 := hi
        omega
      obtain ⟨A, e1, e2⟩ := ih hi' hF.2.2 h
      exact ⟨A, e1, e2⟩
theorem vx_el_len : ∀ F : rf_N, (vx_el F).length = rf_len F
  | .leaf => rfl
  | .inner j q u F X => by
    show (vx_el X).length + 1 = rf_len X + 1
    rw [vx_el_len X]
/-- the body of a \ -/
theorem dv_at_lam {s : sx_S} {AR : Nat → List Int} {j : Nat} {x : Int} {F : rf_N} {z : Int} (h : dv_at s AR (rf_n j 0 x F .leaf) z) : (s.2.1 12 z.toNat = 0 ∧ s.2.1 13 z.toNat = x ∧ 0 ≤ x) ∧ dv_at s AR F (s.2.1 14 z.toNat) := by
  obtain ⟨j', k, hh, F', e, ⟨a1, a2⟩, ⟨a3, a4⟩, a5, a6⟩ := h
  obtain ⟨rfl, rfl, rfl, rfl⟩ : j = j' ∧ 0 = k ∧ x = hh ∧ F = F' := by
    injection e with e1 e2 e3 e4
    exact ⟨e1, (Prod.mk.inj e2).1, (Prod.mk.inj e2).2, e4⟩
  have ez : z.toNat = j := by omega
  rw [ez]
  obtain ⟨b1, b2, _⟩ := a6
  refine ⟨⟨a3, a4, b2⟩, ?_⟩
  rcases b1 with ⟨_, ⟨j2, k2, h2, F2, rfl⟩, b⟩ | ⟨b, _⟩ | ⟨b, _⟩
  · obtain ⟨⟨c1, c2⟩, ⟨c3, c4⟩, c5, c6⟩ := a5
    exact ⟨j2, k2, h2, F2, rfl, ⟨c1, c2⟩, ⟨c3, c4⟩, c5, b⟩
  · have b' : (0 : Int) = 1 ∨ (0 : Int) = 2 := b
    omega
  · exact absurd b vx_03
/-- a head: kind, head, row, arity -/
theorem dv_at_hd {s : sx_S} {AR : Nat → List Int} {j : Nat} {k h : Int} {F : rf_N} {z : Int} (ha : dv_at s AR (rf_n j k h F .leaf) z) : z = (j : Int) ∧ (j : Int) < s.1 11 6 ∧ s.2.1 12 z.toNat = k ∧ s.2.1 13 z.toNat = h ∧ 0 ≤ h ∧ dz_nd s F (s.2.1 14 z.toNat) ∧ (k ≠ 0 → s.2.1 16 z.toNat = (rf_len F : Int) ∧ rf_len F ≤ 4) ∧ (k = 0 ∨ k = 1 ∨ k = 2 ∨ k = 3) ∧ (k = 1 ∨ k = 2 → dv_tr (s.2.1 16) AR F) ∧ (k = 3 → AR j = dz_hs F ∧ (AR j).Nodup ∧ ∀ v ∈ AR j, 0 ≤ v) := by
  obtain ⟨j', k', hh, F', e, ⟨a1, a2⟩, ⟨a3, a4⟩, a5, a6⟩ := ha
  obtain ⟨rfl, rfl, rfl, rfl⟩ : j = j' ∧ k = k' ∧ h = hh ∧ F = F' := by
    injection e with e1 e2 e3 e4
    exact ⟨e1, (Prod.mk.inj e2).1, (Prod.mk.inj e2).2, e4⟩
  have ez : z.toNat = j := by omega
  rw [ez]
  obtain ⟨b1, b2, _⟩ := a6
  refine ⟨a1, a2, a3, a4, b2, a5, ?_⟩
  rcases b1 with ⟨b, _, _⟩ | ⟨b, c, d⟩ | ⟨b, c, d, e⟩
  · have b' : k = 0 := b
    exact ⟨fun q => absurd b' q, Or.inl b', fun q => by omega, fun q => by omega⟩
  · have b' : k = 1 ∨ k = 2 := b
    exact ⟨fun _ => c, by omega, fun _ => d, fun q => by omega⟩
  · have b' : k = 3 := b
    exact ⟨fun _ => c, by omega, fun q => by omega, fun _ => ⟨d, e⟩⟩
/-! the pile of pairs: entries (A, c), (B, d), L, mark; the top first -/
abbrev dv_E : Type := (rf_N × List (Int × Int)) × (rf_N × List (Int × Int)) × Int × Int
def dv_ps (s : sx_S) (AR : Nat → List Int) : Int → List dv_E → Prop
  | _, [] => True
  | hi, p :: r => (p.2.2.2 ≤ hi ∧ 0 ≤ p.2.2.2) ∧ (dv_at s AR p.1.1 (s.2.1 40 r.length) ∧ dv_c s p.1.2 p.2.2.2 (s.2.1 41 r.length)) ∧ (dv_at s AR p.2.1.1 (s.2.1 42 r.length) ∧ dv_c s p.2.1.2 p.2.2.2 (s.2.1 43 r.length)) ∧ (s.2.1 44 r.length = p.2.2.1 ∧ s.2.1 45 r.length = p.2.2.2) ∧ dv_ps s AR p.2.2.2 r
theorem dv_ps_fr {s t : sx_S} {AR AR' : Nat → List Int} {n : Int} (hn : s.1 11 6 ≤ n) (h : dv_nf n AR AR' s t) : ∀ {r : List dv_E} {hi : Int}, (∀ j : Nat, (j : Int) < hi → t.2.1 30 j = s.2.1 30 j ∧ t.2.1 31 j = s.2.1 31 j ∧ t.2.1 32 j = s.2.1 32 j) → (∀ j : Nat, j < r.length → t.2.1 40 j = s.2.1 40 j ∧ t.2.1 41 j = s.2.1 41 j ∧ t.2.1 42 j = s.2.1 42 j ∧ t.2.1 43 j = s.2.1 43 j ∧ t.2.1 44 j = s.2.1 44 j ∧ t.2.1 45 j = s.2.1 45 j) → dv_ps s AR hi r → dv_ps t AR' hi r
  | [], _, _, _, _ => trivial
  | p :: r, hi, hc, hp, ⟨⟨q1, q2⟩, ⟨q3, q4⟩, ⟨q5, q6⟩, ⟨q7, q8⟩, q9⟩ => by
    obtain ⟨e1, e2, e3, e4, e5, e6⟩ := hp r.length (by rw [List.length_cons]; omega)
    have hc' : ∀ j : Nat, (j : Int) < p.2.2.2 → t.2.1 30 j = s.2.1 30 j ∧ t.2.1 31 j = s.2.1 31 j ∧ t.2.1 32 j = s.2.1 32 j := fun j hj => hc j (by omega)
    refine ⟨⟨q1, q2⟩, ⟨?_, ?_⟩, ⟨?_, ?_⟩, ⟨by rw [e5]; exact q7, by rw [e6]; exact q8⟩, dv_ps_fr hn h hc' (fun j hj => hp j (by rw [List.length_cons]; omega)) q9⟩
    · rw [e1]
      exact dv_at_fr hn h q3
    · rw [e2]
      exact dv_ch_fr hc' q4
    · rw [e3]
      exact dv_at_fr hn h q5
    · rw [e4]
      exact dv_ch_fr hc' q6
theorem dv_ps_hi {s : sx_S} {AR : Nat → List Int} {hi hi' : Int} (h : hi ≤ hi') : ∀ {r : List dv_E}, dv_ps s AR hi r → dv_ps s AR hi' r
  | [], _ => trivial
  | _ :: _, ⟨⟨q1, q2⟩, q3⟩ => ⟨⟨by omega, q2⟩, q3⟩
/-! the walk's pile: entries (A, c), L, mark -/
abbrev dv_K : Type := (rf_N × List (Int × Int)) × Int × Int
def dv_ws (s : sx_S) (AR : Nat → List Int) : Int → List dv_K → Prop
  | _, [] => True
  | hi, p :: r => (p.2.2 ≤ hi ∧ 0 ≤ p.2.2) ∧ (dv_at s AR p.1.1 (s.2.1 47 r.length) ∧ dv_c s p.1.2 p.2.2 (s.2.1 48 r.length)) ∧ (s.2.1 51 r.length = p.2.1 ∧ s.2.1 52 r.length = p.2.2) ∧ dv_ws s AR p.2.2 r
theorem dv_ws_fr {s t : sx_S} {AR AR' : Nat → List Int} {n : Int} (hn : s.1 11 6 ≤ n) (h : dv_nf n AR AR' s t) : ∀ {r : List dv_K} {hi : Int}, (∀ j : Nat, (j : Int) < hi → t.2.1 30 j = s.2.1 30 j ∧ t.2.1 31 j = s.2.1 31 j ∧ t.2.1 32 j = s.2.1 32 j) → (∀ j : Nat, j < r.length → t.2.1 47 j = s.2.1 47 j ∧ t.2.1 48 j = s.2.1 48 j ∧ t.2.1 51 j = s.2.1 51 j ∧ t.2.1 52 j = s.2.1 52 j) → dv_ws s AR hi r → dv_ws t AR' hi r
  | [], _, _, _, _ => trivial
  | p :: r, hi, hc, hp, ⟨⟨q1, q2⟩, ⟨q3, q4⟩, ⟨q7, q8⟩, q9⟩ => by
    obtain ⟨e1, e2, e5, e6⟩ := hp r.length (by rw [List.length_cons]; omega)
    have hc' : ∀ j : Nat, (j : Int) < p.2.2 → t.2.1 30 j = s.2.1 30 j ∧ t.2.1 31 j = s.2.1 31 j ∧ t.2.1 32 j = s.2.1 32 j := fun j hj => hc j (by omega)
    refine ⟨⟨q1, q2⟩, ⟨?_, ?_⟩, ⟨by rw [e5]; exact q7, by rw [e6]; exact q8⟩, dv_ws_fr hn h hc' (fun j hj => hp j (by rw [List.length_cons]; omega)) q9⟩
    · rw [e1]
      exact dv_at_fr hn h q3
    · rw [e2]
      exact dv_ch_fr hc' q4
theorem dv_ws_hi {s : sx_S} {AR : Nat → List Int} {hi hi' : Int} (h : hi ≤ hi') : ∀ {r : List dv_K}, dv_ws s AR hi r → dv_ws s AR hi' r
  | [], _ => trivial
  | _ :: _, ⟨⟨q1, q2⟩, q3⟩ => ⟨⟨by omega, q2⟩, q3⟩
/-! the answers -/
def dv_M (s : sx_S) (S : vx_S) (PR : Int → List (Int × Int)) : Prop := True → (s.1 33 6 = S.1 ∧ s.1 11 6 = S.2.1 ∧ S.1 ≤ 32 ∧ ∀ u : Nat, S.1 ≤ (u : Int) → u < 32 → s.2.1 34 u = -1) ∧ ∀ u, 0 ≤ u → u < S.1 → S.2.2.1 u ≤ 4 ∧ ((S.2.2.2.1 u = none ∧ s.2.1 34 u.toNat = -1) ∨ ∃ B, S.2.2.2.1 u = some (B, dv_lk (PR u).reverse) ∧ dv_at s S.2.2.2.2 B (s.2.1 34 u.toNat) ∧ dv_pr s u (PR u) ∧ (∀ q ∈ PR u, 0 ≤ q.2 ∧ q.2 < S.2.2.1 u) ∧ ((PR u).map Prod.fst).Nodup ∧ ((PR u).map Prod.snd).Nodup)
/-- what the desk's memory of answers is not touched by -/
theorem dv_M_fr {s t : sx_S} {S : vx_S} {PR : Int → List (Int × Int)} {n : Int} (hn : s.1 11 6 ≤ n) (h6 : t.1 11 6 = s.1 11 6) (h : dv_nf n S.2.2.2.2 S.2.2.2.2 s t) (h33 : t.1 33 6 = s.1 33 6) (h34 : t.2.1 34 = s.2.1 34) (h35 : t.2.1 35 = s.2.1 35) (h36 : t.2.1 36 = s.2.1 36) (h37 : t.2.1 37 = s.2.1 37) (hM : dv_M s S PR) : dv_M t S PR := fun _ => by
  obtain ⟨⟨a1, a2, a3, a5⟩, a4⟩ := hM trivial
  refine ⟨⟨by rw [h33]; exact a1, by rw [h6]; exact a2, a3, by rw [h34]; exact a5⟩, fun u u0 u1 => ?_⟩
  obtain ⟨b0, b⟩ := a4 u u0 u1
  refine ⟨b0, ?_⟩
  rcases b with ⟨b1, b2⟩ | ⟨B, b1, b2, b3, b4⟩
  · exact Or.inl ⟨b1, by rw [h34]; exact b2⟩
  · refine Or.inr ⟨B, b1, by rw [h34]; exact dv_at_fr hn h b2, fun _ => ?_, b4⟩
    rw [h35, h36, h37]
    exact b3 trivial
end
section
/-! ===== one side of a pair: its chain, its type, what is used ===== -/
theorem vx_nrev {α : Type} {l : List α} (h : l.Nodup) : l.reverse.Nodup := List.pairwise_reverse.mpr (List.Pairwise.imp (fun h e => h e.symm) h)
theorem dv_lk_c (p : Int × Int) (r : List (Int × Int)) (x : Int) : dv_lk (p :: r) x = if p.1 = x then p.2 else dv_lk r x := rfl
theorem dv_va_c (p : Int × Int) (r : List (Int × Int)) (x : Int) : dv_va (p :: r) x = if p.2 = x then p.1 else dv_va r x := rfl
theorem dv_lk_mem {l : List (Int × Int)} (hn : (l.map Prod.fst).Nodup) {p : Int × Int} (h : p ∈ l) : dv_lk l p.1 = p.2 := by
  induction l with
  | nil => exact absurd h List.not_mem_nil
  | cons q r ih =>
    rw [List.map_cons] at hn
    obtain ⟨n1, n2⟩ := List.nodup_cons.mp hn
    rw [dv_lk_c]
    rcases List.mem_cons.mp h with rfl | h
    · rw [if_pos rfl]
    · rw [if_neg (fun e => n1 (by rw [e]; exact List.mem_map_of_mem h))]
      exact ih n2 h
theorem dv_lk_out {l : List (Int × Int)} {x : Int} (h : x ∉ l.map Prod.fst) : dv_lk l x = -1 := by
  induction l with
  | nil => rfl
  | cons q r ih =>
    rw [List.map_cons] at h
    rw [dv_lk_c, if_neg (fun e => h (by rw [e]; exact List.mem_cons_self))]
    exact ih (fun m => h (List.mem_cons_of_mem _ m))
theorem dv_lk_in {l : List (Int × Int)} {x : Int} : (x, dv_lk l x) ∈ l ∨ (dv_lk l x = -1 ∧ x ∉ l.map Prod.fst) := by
  induction l with
  | nil => exact Or.inr ⟨rfl, List.not_mem_nil⟩
  | cons q r ih =>
    rw [dv_lk_c]
    by_cases e : q.1 = x
    · rw [if_pos e]
      refine Or.inl (List.mem_cons.mpr (Or.inl ?_))
      rw [← e]
    · rw [if_neg e]
      rcases ih with ih | ⟨ih1, ih2⟩
      · exact Or.inl (List.mem_cons_of_mem _ ih)
      · refine Or.inr ⟨ih1, fun m => ?_⟩
        rw [List.map_cons] at m
        rcases List.mem_cons.mp m with m | m
        · exact e m.symm
        · exact ih2 m
theorem dv_va_in {l : List (Int × Int)} {x : Int} : (dv_va l x, x) ∈ l ∨ (dv_va l x = -1 ∧ x ∉ l.map Prod.snd) := by
  induction l with
  | nil => exact Or.inr ⟨rfl, List.not_mem_nil⟩
  | cons q r ih =>
    rw [dv_va_c]
    by_cases e : q.2 = x
    · rw [if_pos e]
      refine Or.inl (List.mem_cons.mpr (Or.inl ?_))
      rw [← e]
    · rw [if_neg e]
      rcases ih with ih | ⟨ih1, ih2⟩
      · exact Or.inl (List.mem_cons_of_mem _ ih)
      · refine Or.inr ⟨ih1, fun m => ?_⟩
        rw [List.map_cons] at m
        rcases List.mem_cons.mp m with m | m
        · exact e m.symm
        · exact ih2 m
/-- a good chain: each variable once, levels below L, no level twice -/
def vx_ck (L : Int) (c : List (Int × Int)) : Prop := True → (c.map Prod.fst).Nodup ∧ (∀ p ∈ c, -1 ≤ p.2 ∧ p.2 < L ∧ 0 ≤ p.1) ∧ ∀ p ∈ c, ∀ q ∈ c, 0 ≤ p.2 → p.2 = q.2 → p.1 = q.1
theorem vx_ck_lk {L : Int} {c : List (Int × Int)} (hL : 0 ≤ L) (h : vx_ck L c) : (∀ z, -1 ≤ dv_lk c z ∧ dv_lk c z < L) ∧ ∀ z z', 0 ≤ dv_lk c z → dv_lk c z = dv_lk c z' → z = z' := by
  obtain ⟨h1, h2, h3⟩ := h trivial
  refine ⟨fun z => ?_, fun z z' hz he => ?_⟩
  · rcases dv_lk_in (l := c) (x := z) with m | ⟨m, _⟩
    · exact ⟨(h2 _ m).1, (h2 _ m).2.1⟩
    · omega
  · rcases dv_lk_in (l := c) (x := z) with m | ⟨m, _⟩
    · rcases dv_lk_in (l := c) (x := z') with m' | ⟨m', _⟩
      · exact h3 _ m _ m' hz he
      · omega
    · omega
theorem vx_ck_nil (L : Int) : vx_ck L [] := fun _ => ⟨List.nodup_nil, fun _ h => absurd h List.not_mem_nil, fun _ h => absurd h List.not_mem_nil⟩
theorem vx_ck_up {L x : Int} {c : List (Int × Int)} (hL : 0 ≤ L) (hx0 : 0 ≤ x) (h : vx_ck L c) (hx : x ∉ c.map Prod.fst) : vx_ck (L + 1) ((x, L) :: c) := fun _ => by
  obtain ⟨h1, h2, h3⟩ := h trivial
  refine ⟨List.nodup_cons.mpr ⟨hx, h1⟩, fun p hp => ?_, fun p hp q hq p0 he => ?_⟩
  · rcases List.mem_cons.mp hp with rfl | hp
    · exact ⟨by show -1 ≤ L; omega, by show L < L + 1; omega, hx0⟩
    · have := h2 p hp
      omega
  · rcases List.mem_cons.mp hp with rfl | hp
    · rcases List.mem_cons.mp hq with rfl | hq
      · rfl
      · have := h2 q hq
        have he' : L = q.2 := he
        omega
    · rcases List.mem_cons.mp hq with rfl | hq
      · have := h2 p hp
        have he' : p.2 = L := he
        omega
      · exact h3 p hp q hq p0 he
theorem dv_lk_up {x L : Int} {c : List (Int × Int)} : dv_lk ((x, L) :: c) = vx_up (dv_lk c) x L := by
  funext z
  rw [dv_lk_c]
  unfold vx_up
  by_cases h : x = z
  · rw [if_pos h, if_pos h.symm]
  · rw [if_neg h, if_neg (fun e => h e.symm)]
/-- the chain of a body -/
theorem vx_ck_in {L : Int} {c P : List (Int × Int)} {hs : List Int} (hL : 0 ≤ L) (h : vx_ck L c) (hP1 : (P.map Prod.fst).Nodup) (hP2 : (P.map Prod.snd).Nodup) (hP3 : ∀ q ∈ P, 0 ≤ q.2 ∧ q.2 < (hs.length : Int)) (hP0 : ∀ q ∈ P, 0 ≤ q.1) (hn : hs.Nodup) : vx_ck L (dv_in P hs c) := fun _ => by
  obtain ⟨l1, l2⟩ := vx_ck_lk hL h
  have key : ∀ p, p ∈ dv_in P hs c → ∃ q ∈ P, p = (q.1, dv_lk c (hs.getD q.2.toNat (-1))) := fun p hp => by
    obtain ⟨q, q1, q2⟩ := List.mem_map.mp (List.mem_reverse.mp hp)
    exact ⟨q, q1, q2.symm⟩
  refine ⟨?_, fun p hp => ?_, fun p hp p' hp' p0 he => ?_⟩
  · unfold dv_in
    rw [List.map_reverse, List.map_map]
    exact vx_nrev hP1
  · obtain ⟨q, hq0, rfl⟩ := key p hp
    exact ⟨(l1 _).1, (l1 _).2, hP0 q hq0⟩
  · obtain ⟨q, q1, rfl⟩ := key p hp
    obtain ⟨q', q1', rfl⟩ := key p' hp'
    have e1 := l2 _ _ p0 he
    obtain ⟨a1, a2⟩ := hP3 q q1
    obtain ⟨b1, b2⟩ := hP3 q' q1'
    have hi : q.2.toNat < hs.length := by omega
    have hi' : q'.2.toNat < hs.length := by omega
    rw [vx_gD hi, vx_gD hi'] at e1
    have e2 : q.2.toNat = q'.2.toNat := (List.getElem_inj hn).mp e1
    have e3 : q.2 = q'.2 := by omega
    show q.1 = q'.1
    have : q = q' := by
      obtain ⟨n, hn1, hn2⟩ := List.getElem_of_mem q1
      obtain ⟨n', hn1', hn2'⟩ := List.getElem_of_mem q1'
      have : n = n' := (List.getElem_inj (h₀ := by rw [List.length_map]; exact hn1) (h₁ := by rw [List.length_map]; exact hn1') hP2).mp (by rw [List.getElem_map, List.getElem_map, hn2, hn2', e3])
      subst this
      rw [← hn2, ← hn2']
    rw [this]
theorem dv_lk_rev {P : List (Int × Int)} (hP1 : (P.map Prod.fst).Nodup) : (P.reverse.map Prod.fst).Nodup := by
  rw [List.map_reverse]
  exact vx_nrev hP1
/-- what a variable of the body is, by the call -/
theorem dv_in_lk {c P : List (Int × Int)} {hs : List Int} (hP1 : (P.map Prod.fst).Nodup) (hP3 : ∀ q ∈ P, 0 ≤ q.2 ∧ q.2 < (hs.length : Int)) : (∀ z, 0 ≤ dv_lk P.reverse z → dv_lk (dv_in P hs c) z = (hs.map (dv_lk c)).getD (dv_lk P.reverse z).toNat (-1)) ∧ (∀ z, dv_lk P.reverse z < 0 → dv_lk (dv_in P hs c) z = -1) ∧ ∀ z, dv_lk P.reverse z < (hs.length : Int) := by
  have n1 := dv_lk_rev hP1
  have n2 : ((dv_in P hs c).map Prod.fst).Nodup := by
    unfold dv_in
    rw [List.map_reverse, List.map_map]
    exact vx_nrev hP1
  refine ⟨fun z hz => ?_, fun z hz => ?_, fun z => ?_⟩
  · rcases dv_lk_in (l := P.reverse) (x := z) with m | ⟨m, _⟩
    · have m' := List.mem_reverse.mp m
      obtain ⟨a1, a2⟩ := hP3 _ m'
      have hi : (dv_lk P.reverse z).toNat < hs.length := by
        have a2' : dv_lk P.reverse z < (hs.length : Int) := a2
        omega
      have m2 : (z, dv_lk c (hs.getD (dv_lk P.reverse z).toNat (-1))) ∈ dv_in P hs c := by
        unfold dv_in
        exact List.mem_reverse.mpr (List.mem_map.mpr ⟨_, m', rfl⟩)
      rw [vx_getD_map _ _ _ hi]
      exact dv_lk_mem n2 m2
    · omega
  · refine dv_lk_out (fun m => ?_)
    obtain ⟨p, p1, p2⟩ := List.mem_map.mp m
    unfold dv_in at p1
    obtain ⟨q, q1, q2⟩ := List.mem_map.mp (List.mem_reverse.mp p1)
    have q3 := dv_lk_mem n1 (List.mem_reverse.mpr q1)
    have e : q.1 = z := by
      rw [← p2, ← q2]
    rw [e] at q3
    have := hP3 q q1
    omega
  · rcases dv_lk_in (l := P.reverse) (x := z) with m | ⟨m, _⟩
    · exact (hP3 _ (List.mem_reverse.mp m)).2
    · omega
/-- each \ binds a variable of its own, none of those outside -/
def vx_nb : rf_N → (Int → Prop) → Prop
  | .leaf, _ => True
  | .inner _ q _ F X, V => ((q.1 = 0 ∧ (0 ≤ q.2 ∧ ¬ V q.2) ∧ vx_nb F (fun z => z = q.2 ∨ V z)) ∨ (q.1 ≠ 0 ∧ q.1 ≠ 3 ∧ vx_nb F V) ∨ q.1 = 3) ∧ vx_nb X V
theorem vx_nb_mono : ∀ {A : rf_N} {V V' : Int → Prop}, (∀ z, V' z → V z) → vx_nb A V → vx_nb A V'
  | .leaf, _, _, _, _ => trivial
  | .inner j q u F X, V, V', h, ⟨h1, h2⟩ => by
    refine ⟨?_, vx_nb_mono h h2⟩
    rcases h1 with ⟨a, b, c⟩ | ⟨a, b, c⟩ | a
    · exact Or.inl ⟨a, ⟨b.1, fun m => b.2 (h _ m)⟩, vx_nb_mono (fun z hz => hz.imp id (h z)) c⟩
    · exact Or.inr (Or.inl ⟨a, b, vx_nb_mono h c⟩)
    · exact Or.inr (Or.inr a)
theorem vx_nb_el {V : Int → Prop} {B : rf_N} : ∀ {F : rf_N}, vx_nb F V → B ∈ vx_el F → vx_nb B V
  | .leaf, _, h => absurd h List.not_mem_nil
  | .inner j q u F X, h, hB => by
    rcases List.mem_cons.mp hB with rfl | hB
    · exact ⟨h.1, trivial⟩
    · exact vx_nb_el h.2 hB
/-- types: of one term, of a row -/
def vx_ty (tv tc : Int → rf_T) (tm : Int → Int → rf_T) (AR : Nat → List Int) : rf_N → (rf_T → Prop) × (rf_T → Prop)
  | .leaf => (fun _ => False, fun u => u = rf_b)
  | .inner j q _ F X => (fun t => (q.1 = 0 ∧ ∃ B, t = rf_a (tv q.2) B ∧ (vx_ty tv tc tm AR F).1 B) ∨ (q.1 = 1 ∧ t = rf_b ∧ (vx_ty tv tc tm AR F).2 (tc q.2)) ∨ (q.1 = 2 ∧ t = rf_b ∧ (vx_ty tv tc tm AR F).2 (tv q.2)) ∨ (q.1 = 3 ∧ t = rf_b ∧ ∀ (i : Nat) y, (AR j)[i]? = some y → tv y = tm q.2 i), fun u => ∃ A B, u = rf_a A B ∧ ((q.1 = 0 ∧ ∃ B, A = rf_a (tv q.2) B ∧ (vx_ty tv tc tm AR F).1 B) ∨ (q.1 = 1 ∧ A = rf_b ∧ (vx_ty tv tc tm AR F).2 (tc q.2)) ∨ (q.1 = 2 ∧ A = rf_b ∧ (vx_ty tv tc tm AR F).2 (tv q.2)) ∨ (q.1 = 3 ∧ A = rf_b ∧ ∀ (i : Nat) y, (AR j)[i]? = some y → tv y = tm q.2 i)) ∧ (vx_ty tv tc tm AR X).2 B)
theorem vx_ty_el {tv tc : Int → rf_T} {tm : Int → Int → rf_T} {AR : Nat → List Int} : ∀ {F F' : rf_N} {u : rf_T}, (vx_ty tv tc tm AR F).2 u → (vx_ty tv tc tm AR F').2 u → rf_len F = rf_len F' ∧ ∀ (i : Nat) A B, (vx_el F)[i]? = some A → (vx_el F')[i]? = some B → ∃ t, (vx_ty tv tc tm AR A).1 t ∧ (vx_ty tv tc tm AR B).1 t
  | .leaf, .leaf, _, _, _ => ⟨rfl, fun i A B h => by simp [vx_el] at h⟩
  | .leaf, .inner _ _ _ _ _, u, h, ⟨A, B, e, _⟩ => by
    have h' : u = rf_b := h
    rw [h'] at e
    cases e
  | .inner _ _ _ _ _, .leaf, u, ⟨A, B, e, _⟩, h => by
    have h' : u = rf_b := h
    rw [h'] at e
    cases e
  | .inner j q v F X, .inner j' q' v' F' X', u, ⟨A, B, e, h1, h2⟩, ⟨A', B', e', h1', h2'⟩ => by
    rw [e] at e'
    have eA : A = A' := by injection e'
    have eB : B = B' := by injection e'
    subst eA eB
    obtain ⟨i1, i2⟩ := vx_ty_el h2 h2'
    refine ⟨by show rf_len X + 1 = rf_len X' + 1; omega, fun i C D hC hD => ?_⟩
    cases i with
    | zero =>
      have hC' : rf_n j q.1 q.2 F .leaf = C := by simpa [vx_el] using hC
      have hD' : rf_n j' q'.1 q'.2 F' .leaf = D := by simpa [vx_el] using hD
      rw [← hC', ← hD']
      exact ⟨A, h1, h1'⟩
    | succ i => exact i2 i C D hC hD
theorem vx_ty_cg {tv tc : Int → rf_T} {tm tm' : Int → Int → rf_T} {AR AR' : Nat → List Int} : ∀ {A : rf_N}, (∀ m i, vx_mt m A → tm' m i = tm m i) → (∀ j ∈ rf_idx A, AR' j = AR j) → (∀ t, (vx_ty tv tc tm AR A).1 t → (vx_ty tv tc tm' AR' A).1 t) ∧ ∀ t, (vx_ty tv tc tm AR A).2 t → (vx_ty tv tc tm' AR' A).2 t
  | .leaf, _, _ => ⟨fun _ h => h, fun _ h => h⟩
  | .inner j q v F X, hm, hj => by
    have hF : q.1 ≠ 3 → _ := fun h3 => vx_ty_cg (tv := tv) (tc := tc) (tm := tm) (tm' := tm') (AR := AR) (AR' := AR') (A := F) (fun m i h => hm m i (Or.inr (Or.inl ⟨h3, h⟩))) (fun i hi => hj i (List.mem_cons_of_mem _ (List.mem_append_left _ hi)))
    have hX := vx_ty_cg (tv := tv) (tc := tc) (tm := tm) (tm' := tm') (AR := AR) (AR' := AR') (A := X) (fun m i h => hm m i (Or.inr (Or.inr h))) (fun i hi => hj i (List.mem_cons_of_mem _ (List.mem_append_right _ hi)))
    have one : ∀ t, ((q.1 = 0 ∧ ∃ B, t = rf_a (tv q.2) B ∧ (vx_ty tv tc tm AR F).1 B) ∨ (q.1 = 1 ∧ t = rf_b ∧ (vx_ty tv tc tm AR F).2 (tc q.2)) ∨ (q.1 = 2 ∧ t = rf_b ∧ (vx_ty tv tc tm AR F).2 (tv q.2)) ∨ (q.1 = 3 ∧ t = rf_b ∧ ∀ (i : Nat) y, (AR j)[i]? = some y → tv y = tm q.2 i)) → ((q.1 = 0 ∧ ∃ B, t = rf_a (tv q.2) B ∧ (vx_ty tv tc tm' AR' F).1 B) ∨ (q.1 = 1 ∧ t = rf_b ∧ (vx_ty tv tc tm' AR' F).2 (tc q.2)) ∨ (q.1 = 2 ∧ t = rf_b ∧ (vx_ty tv tc tm' AR' F).2 (tv q.2)) ∨ (q.1 = 3 ∧ t = rf_b ∧ ∀ (i : Nat) y, (AR' j)[i]? = some y → tv y = tm' q.2 i)) := fun t h => by
      rcases h with ⟨a, B, b, c⟩ | ⟨a, b, c⟩ | ⟨a, b, c⟩ | ⟨a, b, c⟩
      · exact Or.inl ⟨a, B, b, (hF (by omega)).1 B c⟩
      · exact Or.inr (Or.inl ⟨a, b, (hF (by omega)).2 _ c⟩)
      · exact Or.inr (Or.inr (Or.inl ⟨a, b, (hF (by omega)).2 _ c⟩))
      · refine Or.inr (Or.inr (Or.inr ⟨a, b, fun i y hy => ?_⟩))
        rw [hj j List.mem_cons_self] at hy
        rw [hm q.2 i (Or.inl ⟨a, rfl⟩)]
        exact c i y hy
    exact ⟨one, fun t ⟨A, B, e, h1, h2⟩ => ⟨A, B, e, one A h1, hX.2 B h2⟩⟩
end
section
/-! ===== one side of a pair, on its way down ===== -/
def vx_sd (tv tc : Int → rf_T) (tm : Int → Int → rf_T) (S : vx_S) (lt : Int → rf_T) (L : Int) (t : rf_T) (A : rf_N) (c : List (Int × Int)) : Prop := True → (vx_in S A ∧ vx_sg A ∧ (vx_ty tv tc tm S.2.2.2.2 A).1 t) ∧ (∀ z, 0 ≤ dv_lk c z → tv z = lt (dv_lk c z)) ∧ (0 ≤ L ∧ vx_ck L c) ∧ (∀ z, vx_fv (vx_U S) S.2.2.2.2 z A → 0 ≤ dv_lk c z) ∧ vx_nb A (fun z => z ∈ c.map Prod.fst)
/-- what holds of the state of solving -/
def vx_TS (tv tc : Int → rf_T) (tm : Int → Int → rf_T) (S : vx_S) (PR : Int → List (Int × Int)) : Prop := True → (vx_W S ∧ vx_B1 S ∧ vx_Sc S ∧ ∃ rk, vx_rk S rk) ∧ ∀ u B e, S.2.2.2.1 u = some (B, e) → e = dv_lk (PR u).reverse ∧ (vx_sg B ∧ (vx_ty tv tc tm S.2.2.2.2 B).1 rf_b) ∧ (∀ q ∈ PR u, tv q.1 = tm u q.2 ∧ 0 ≤ q.2 ∧ q.2 < S.2.2.1 u ∧ 0 ≤ q.1) ∧ ((PR u).map Prod.fst).Nodup ∧ ((PR u).map Prod.snd).Nodup ∧ vx_nb B (fun z => z ∈ (PR u).map Prod.fst)
section
variable {tv tc : Int → rf_T} {tm : Int → Int → rf_T} {S : vx_S} {lt : Int → rf_T} {L : Int} {t : rf_T}
theorem vx_in_lam {j : Nat} {x : Int} {F : rf_N} (h : vx_in S (rf_n j 0 x F .leaf)) : vx_in S F := by
  obtain ⟨h1, h2, h3⟩ := h
  refine ⟨fun m hm => h1 m (Or.inr (Or.inl ⟨by show (0 : Int) ≠ 3; decide, hm⟩)), fun i hi => h2 i (List.mem_cons_of_mem _ (List.mem_append_left _ hi)), ?_⟩
  rcases h3.1 with ⟨_, q⟩ | ⟨q, _⟩
  · exact q
  · exact absurd q vx_03
theorem vx_in_el {j : Nat} {k h : Int} {F A : rf_N} (h3 : k ≠ 3) (hi : vx_in S (rf_n j k h F .leaf)) (hA : A ∈ vx_el F) : vx_in S A := by
  have hF : vx_in S F := by
    obtain ⟨a1, a2, a3⟩ := hi
    refine ⟨fun m hm => a1 m (Or.inr (Or.inl ⟨h3, hm⟩)), fun i hi => a2 i (List.mem_cons_of_mem _ (List.mem_append_left _ hi)), ?_⟩
    rcases a3.1 with ⟨_, q⟩ | ⟨q, _⟩
    · exact q
    · exact absurd q h3
  clear hi
  induction F with
  | leaf => exact absurd hA List.not_mem_nil
  | inner i q u ff x ihf ihx =>
    obtain ⟨a1, a2, a3⟩ := hF
    rcases List.mem_cons.mp hA with rfl | hA
    · refine ⟨fun m hm => ?_, fun n hn => ?_, ⟨a3.1, trivial⟩⟩
      · rcases hm with hm | hm | hm
        · exact a1 m (Or.inl hm)
        · exact a1 m (Or.inr (Or.inl hm))
        · exact hm.elim
      · rcases List.mem_cons.mp hn with rfl | hn
        · exact a2 _ List.mem_cons_self
        · rcases List.mem_append.mp hn with hn | hn
          · exact a2 n (List.mem_cons_of_mem _ (List.mem_append_left _ hn))
          · exact absurd hn List.not_mem_nil
    · exact ihx hA ⟨fun m hm => a1 m (Or.inr (Or.inr hm)), fun n hn => a2 n (List.mem_cons_of_mem _ (List.mem_append_right _ hn)), a3.2⟩
theorem vx_el_sg {A : rf_N} : ∀ {F : rf_N}, A ∈ vx_el F → vx_sg A
  | .leaf, h => absurd h List.not_mem_nil
  | .inner j q u F X, h => by
    rcases List.mem_cons.mp h with rfl | h
    · exact ⟨j, q.1, q.2, F, rfl⟩
    · exact vx_el_sg h
/-- below a \ -/
theorem vx_sd_lam {j : Nat} {x : Int} {F : rf_N} {c : List (Int × Int)} (hF : vx_sg F) (h : vx_sd tv tc tm S lt L t (rf_n j 0 x F .leaf) c) : ∃ B, t = rf_a (tv x) B ∧ vx_sd tv tc tm S (fun l => if l = L then tv x else lt l) (L + 1) B F ((x, L) :: c) := by
  obtain ⟨⟨a1, _, a3⟩, b, ⟨c1, c2⟩, d, e⟩ := h trivial
  obtain ⟨l1, _⟩ := vx_ck_lk c1 c2
  have a3' : ∃ B, t = rf_a (tv x) B ∧ (vx_ty tv tc tm S.2.2.2.2 F).1 B := by
    rcases a3 with ⟨_, B, q1, q2⟩ | ⟨q, _⟩ | ⟨q, _⟩ | ⟨q, _⟩
    · exact ⟨B, q1, q2⟩
    · have q' : (0 : Int) = 1 := q
      omega
    · have q' : (0 : Int) = 2 := q
      omega
    · exact absurd q vx_03
  obtain ⟨B, t1, t2⟩ := a3'
  have e' : (0 ≤ x ∧ x ∉ c.map Prod.fst) ∧ vx_nb F (fun z => z = x ∨ z ∈ c.map Prod.fst) := by
    rcases e.1 with ⟨_, q1, q2⟩ | ⟨q, _⟩ | q
    · exact ⟨q1, q2⟩
    · exact absurd rfl q
    · exact absurd q vx_03
  refine ⟨B, t1, fun _ => ⟨⟨vx_in_lam a1, hF, t2⟩, fun z hz => ?_, ⟨by omega, vx_ck_up c1 e'.1.1 c2 e'.1.2⟩, fun z hz => ?_, ?_⟩⟩
  · rw [dv_lk_c] at hz ⊢
    dsimp only at hz ⊢
    by_cases q : x = z
    · rw [if_pos q, if_pos rfl, q]
    · rw [if_neg q] at hz ⊢
      rw [if_neg (by have := l1 z; omega)]
      exact b z hz
  · rw [dv_lk_c]
    dsimp only
    by_cases q : x = z
    · rw [if_pos q]
      exact c1
    · rw [if_neg q]
      exact d z (Or.inl (Or.inl ⟨rfl, fun w => q w.symm, hz⟩))
  · refine vx_nb_mono (fun z hz => ?_) e'.2
    rw [List.map_cons] at hz
    exact List.mem_cons.mp hz
/-- an ARG -/
theorem vx_sd_el {j : Nat} {k h : Int} {F A : rf_N} {t' : rf_T} {c : List (Int × Int)} (h0 : k ≠ 0) (h3 : k ≠ 3) (hA : A ∈ vx_el F) (ht : (vx_ty tv tc tm S.2.2.2.2 A).1 t') (hh : vx_sd tv tc tm S lt L t (rf_n j k h F .leaf) c) : vx_sd tv tc tm S lt L t' A c := fun _ => by
  obtain ⟨⟨a1, _, a3⟩, b, cc, d, e⟩ := hh trivial
  refine ⟨⟨vx_in_el h3 a1 hA, vx_el_sg hA, ht⟩, b, cc, fun z hz => d z (Or.inl (Or.inr (Or.inr ⟨h0, h3, Or.inr (vx_fv_el.mpr ⟨A, hA, hz⟩)⟩))), ?_⟩
  rcases e.1 with ⟨q, _⟩ | ⟨_, _, q⟩ | q
  · exact absurd q h0
  · exact vx_nb_el q hA
  · exact absurd q h3
/-- the variable at the head is there -/
theorem vx_sd_var {j : Nat} {h : Int} {F : rf_N} {c : List (Int × Int)} (hh : vx_sd tv tc tm S lt L t (rf_n j 2 h F .leaf) c) : 0 ≤ dv_lk c h ∧ tv h = lt (dv_lk c h) := by
  obtain ⟨_, b, _, d, _⟩ := hh trivial
  have := d h (Or.inl (Or.inr (Or.inr ⟨by show (2 : Int) ≠ 0; decide, by show (2 : Int) ≠ 3; decide, Or.inl ⟨rfl, rfl⟩⟩)))
  exact ⟨this, b h this⟩
/-- the ARGs of an open unknown are there -/
theorem vx_sd_open {j : Nat} {u : Int} {F : rf_N} {c : List (Int × Int)} (hu : S.2.2.2.1 u = none) (hl : ((S.2.2.2.2 j).length : Int) = S.2.2.1 u) (hh : vx_sd tv tc tm S lt L t (rf_n j 3 u F .leaf) c) : ∀ y ∈ S.2.2.2.2 j, 0 ≤ dv_lk c y := fun y hy => by
  obtain ⟨_, _, _, d, _⟩ := hh trivial
  obtain ⟨i, h1, h2⟩ := List.getElem_of_mem hy
  refine d y (Or.inl (Or.inr (Or.inl ⟨rfl, i, ?_, (vx_U_cl S).1 u i hu (by omega) (by omega)⟩)))
  rw [List.getElem?_eq_getElem h1, h2]
theorem vx_in_len {j : Nat} {u : Int} {F : rf_N} (h : vx_in S (rf_n j 3 u F .leaf)) : ((S.2.2.2.2 j).length : Int) = S.2.2.1 u := by
  rcases h.2.2.1 with ⟨z, _⟩ | ⟨_, z⟩
  · have z' : (3 : Int) = 0 ∨ (3 : Int) = 1 ∨ (3 : Int) = 2 := z
    omega
  · exact z
/-- into the body of an unknown -/
theorem vx_sd_body {PR : Int → List (Int × Int)} {j : Nat} {m : Int} {F B : rf_N} {e : Int → Int} {c : List (Int × Int)} (hT : vx_TS tv tc tm S PR) (hb : S.2.2.2.1 m = some (B, e)) (hn : (S.2.2.2.2 j).Nodup) (hh : vx_sd tv tc tm S lt L t (rf_n j 3 m F .leaf) c) : vx_sd tv tc tm S lt L t B (dv_in (PR m) (S.2.2.2.2 j) c) := fun _ => by
  obtain ⟨⟨a1, _, a3⟩, b, ⟨c1, c2⟩, d, _⟩ := hh trivial
  obtain ⟨⟨W, B1, Sc, _⟩, T⟩ := hT trivial
  obtain ⟨e0, ⟨e1, e2⟩, e3, e4, e5, e6⟩ := T m B e hb
  have hl := vx_in_len a1
  have e3' : ∀ q ∈ PR m, 0 ≤ q.2 ∧ q.2 < ((S.2.2.2.2 j).length : Int) := fun q hq => by
    have := (e3 q hq).2
    omega
  obtain ⟨i1, i2, i3⟩ := dv_in_lk (c := c) e4 e3'
  have a3' : t = rf_b ∧ ∀ (i : Nat) y, (S.2.2.2.2 j)[i]? = some y → tv y = tm m i := by
    rcases a3 with ⟨q, _⟩ | ⟨q, _⟩ | ⟨q, _⟩ | ⟨_, q⟩
    · exact absurd q vx_30
    · have q' : (3 : Int) = 1 := q
      omega
    · have q' : (3 : Int) = 2 := q
      omega
    · exact q
  obtain ⟨rfl, a4⟩ := a3'
  obtain ⟨⟨w1, w2⟩, w3, _⟩ := W m B e hb
  have tyv : ∀ z, 0 ≤ dv_lk (PR m).reverse z → ∃ y, (S.2.2.2.2 j)[(dv_lk (PR m).reverse z).toNat]? = some y ∧ tv z = tv y ∧ dv_lk (dv_in (PR m) (S.2.2.2.2 j) c) z = dv_lk c y := fun z hz => by
    have hlt := i3 z
    have hi : (dv_lk (PR m).reverse z).toNat < (S.2.2.2.2 j).length := by omega
    refine ⟨_, List.getElem?_eq_getElem hi, ?_, ?_⟩
    · rcases dv_lk_in (l := (PR m).reverse) (x := z) with q | ⟨q, _⟩
      · have q1 := (e3 _ (List.mem_reverse.mp q)).1
        have q2 := a4 _ _ (List.getElem?_eq_getElem hi)
        rw [Int.toNat_of_nonneg hz] at q2
        exact q1.trans q2.symm
      · omega
    · rw [i1 z hz, vx_getD_map _ _ _ hi, vx_gD hi]
  refine ⟨⟨w3, e1, e2⟩, fun z hz => ?_, ⟨c1, vx_ck_in c1 c2 e4 e5 e3' (fun q hq => (e3 q hq).2.2.2) hn⟩, fun z hz => ?_, ?_⟩
  · by_cases q : 0 ≤ dv_lk (PR m).reverse z
    · obtain ⟨y, y1, y2, y3⟩ := tyv z q
      rw [y3] at hz ⊢
      rw [y2]
      exact b y hz
    · rw [i2 z (by omega)] at hz
      omega
  · have u1 := Sc m B e z hb hz
    have u2 := (vx_U_cl S).2 m B e z hb hz
    rw [e0] at u1 u2
    obtain ⟨y, y1, _, y3⟩ := tyv z u1
    rw [y3]
    refine d y (Or.inl (Or.inr (Or.inl ⟨rfl, _, y1, ?_⟩)))
    rw [Int.toNat_of_nonneg u1]
    exact u2
  · refine vx_nb_mono (fun z hz => ?_) e6
    unfold dv_in at hz
    rw [List.map_reverse, List.mem_reverse, List.map_map] at hz
    exact hz
/-- more is known -/
theorem vx_sd_le {T : vx_S} {tm' : Int → Int → rf_T} {A : rf_N} {c : List (Int × Int)} (hle : vx_le S T) (hU : ∀ v i, v < S.1 → vx_U T v i → vx_U S v i) (hm : ∀ m i, m < S.1 → tm' m i = tm m i) (h : vx_sd tv tc tm S lt L t A c) : vx_sd tv tc tm' T lt L t A c := fun _ => by
  obtain ⟨⟨a1, a2, a3⟩, b, cc, d, e⟩ := h trivial
  refine ⟨⟨vx_in_le hle a1, a2, (vx_ty_cg (fun m i hq => hm m i (a1.1 m hq).2) (fun j hj => hle.2.2.2 j (a1.2.1 j hj))).1 t a3⟩, b, cc, fun z hz => d z ?_, e⟩
  have hz' := (vx_fv_ar (fun j hj => hle.2.2.2 j (a1.2.1 j hj))).mp hz
  exact vx_fv_mono' a1.2.2 (fun m i hq _ hu => hU m i (a1.1 m hq).2 hu) hz'
end
end
