/-! ===== the reference: the variable that a long form is ===== -/
/-- j LAMs down from n is b -/
def rf_dn (b : rf_N) : Nat → rf_N → Prop
  | 0, n => n = b
  | _ + 1, .leaf => False
  | j + 1, .inner _ k _ f _ => k.1 = 0 ∧ rf_dn b j f
theorem rf_dn_snoc {i : Nat} {k : Int × Int} {u : Unit} {f x : rf_N} (hk : k.1 = 0) : ∀ {j : Nat} {n : rf_N}, rf_dn (.inner i k u f x) j n → rf_dn f (j + 1) n
  | 0, n, h => by
    have e : n = .inner i k u f x := h
    rw [e]
    exact ⟨hk, rfl⟩
  | j + 1, .leaf, h => h.elim
  | j + 1, .inner _ _ _ _ _, h => ⟨h.1, rf_dn_snoc hk h.2⟩
theorem w_var {CALL : sx_Ca} {sL : Nat} {sx : Nat → Int32} {Q : Nat → sx_L → sx_S → Prop} {R : Int → sx_S → Prop} {s : sx_S} {a0 : Int} (hI : cx_I s) (hQ : Q 4 [(0, .inr (.inl 66)), (1, .inl a0), (2, .inl 0), (3, .inl a0)] s) : sx_wp true sL sx eX12_variable CALL [(4, [0, 1, 2, 3]), (52, [0, 2, 3, 4, 5, 6])] Q R 400 0 (sx_argsF 0 [.inr (.inl 66), .inl a0]) [] s := by
  exact hQ
theorem w_var_4 {CALL : sx_Ca} {sL : Nat} {sx : Nat → Int32} {Q : Nat → sx_L → sx_S → Prop} {R : Int → sx_S → Prop} {s : sx_S} {a0 x2 x3 : Int} (hI : cx_I s) (q2 : 0 ≤ x2 ∧ x2 ≤ 1000000) (q3 : 0 ≤ x3 ∧ x3 ≤ 59999) (hQ4 : s.2.1 100 x3.toNat = 0 → ∀ u y2 : Int, u = s.2.1 102 x3.toNat → y2 = x2 + 1 → Q 4 [(0, .inr (.inl 66)), (1, .inl a0), (2, .inl y2), (3, .inl u)] s) (hQ52 : s.2.1 100 x3.toNat = 2 → ∀ u : Int, u = s.2.1 102 x3.toNat → Q 52 [(0, .inr (.inl 66)), (2, .inl x2), (3, .inl x3), (4, .inl a0), (5, .inl u), (6, .inl 0)] s) (hK : s.2.1 100 x3.toNat ≠ 0 → s.2.1 100 x3.toNat ≠ 2 → R (-1) s) : sx_wp true sL sx eX12_variable CALL [(4, [0, 1, 2, 3]), (52, [0, 2, 3, 4, 5, 6])] Q R 400 4 [(0, .inr (.inl 66)), (1, .inl a0), (2, .inl x2), (3, .inl x3)] [] s := by
  repeat' (first | (with_reducible intro _) | (refine And.intro ?_ ?_) | (refine hK ?_ ?_) | (refine hQ4 ?_ _ _ ?_ ?_) | (refine hQ52 ?_ _ ?_))
  all_goals (try dsimp only)
  all_goals (first | trivial | assumption | omega | (dsimp only at *; omega) | (simp only [sx_w_t] at *; omega) | (exfalso; omega) | (subst_vars; omega) | (subst_vars; assumption) | (subst_vars; dsimp only at *; omega) | (subst_vars; dsimp only at *; simp only [sx_w_t] at *; omega) | (exfalso; subst_vars; omega))
theorem w_var_52 {CALL : sx_Ca} {sL : Nat} {sx : Nat → Int32} {Q : Nat → sx_L → sx_S → Prop} {R : Int → sx_S → Prop} {s : sx_S} {x2 x3 x4 x5 x6 : Int} {Z : Int → Prop} (hI : cx_I s) (q2 : 0 ≤ x2 ∧ x2 ≤ 1000000) (q6 : 0 ≤ x6 ∧ x6 ≤ x2) (q3 : 0 ≤ x3 ∧ x3 ≤ 59999) (q4 : x6 < x2 → 0 ≤ x4 ∧ x4 ≤ 59999) (q5 : -1 ≤ x5 ∧ x5 ≤ 59999) (hC : x6 < x2 → x5 ≠ -1 → ∀ K : Int → sx_S → Prop, (∀ z : Int, (-2147483648 ≤ z ∧ z ≤ 2147483647) → Z z → K z s) → CALL 183 [.inr (.inl 66), .inl x5] s K) (hK1 : R (-1) s) (hQ : x6 < x2 → x5 ≠ -1 → ∀ z u w y6 : Int, Z z → z = s.2.1 101 x4.toNat → u = s.2.1 102 x4.toNat → w = s.2.1 103 x5.toNat → y6 = x6 + 1 → Q 52 [(0, .inr (.inl 66)), (2, .inl x2), (3, .inl x3), (4, .inl u), (5, .inl w), (6, .inl y6)] s) (hK2 : x2 ≤ x6 → x5 = -1 → ∀ z : Int, z = s.2.1 101 x3.toNat → R z s) : sx_wp true sL sx eX12_variable CALL [(4, [0, 1, 2, 3]), (52, [0, 2, 3, 4, 5, 6])] Q R 400 52 [(0, .inr (.inl 66)), (2, .inl x2), (3, .inl x3), (4, .inl x4), (5, .inl x5), (6, .inl x6)] [] s := by
  repeat' (first | (with_reducible intro _) | (refine And.intro ?_ ?_) | (exact hK1) | (refine hK2 ?_ ?_ _ ?_) | (refine hQ (by first | omega | (dsimp only at *; omega) | (subst_vars; omega)) (by first | omega | (dsimp only at *; omega) | (subst_vars; omega)) _ _ _ _ (by assumption) ?_ ?_ ?_ ?_) | (refine hC (by first | omega | (dsimp only at *; omega) | (subst_vars; omega)) (by first | omega | (dsimp only at *; omega) | (subst_vars; omega)) _ ?_))
  all_goals (try dsimp only)
  all_goals (first | trivial | assumption | omega | (dsimp only at *; omega) | (simp only [sx_w_t] at *; omega) | (exfalso; omega) | (subst_vars; omega) | (subst_vars; assumption) | (subst_vars; dsimp only at *; omega) | (subst_vars; dsimp only at *; simp only [sx_w_t] at *; omega) | (exfalso; subst_vars; omega))

theorem rf_vt_inj {s : sx_S} {v : Int} {x y : rf_T} (h : rf_vt s v x) (g : rf_vt s v y) : x = y := rf_ty_inj h.2 g.2
theorem rf_H_0 {s : sx_S} {j : Nat} {k r : Int} {u : rf_T} (h : rf_H s j k r u) (hk : k = 0) : rf_vt s r u := by
  rcases h with ⟨_, h⟩ | ⟨h, _⟩ | ⟨h, _⟩ | ⟨h, _⟩
  · exact h
  · omega
  · omega
  · omega
theorem rf_H_2 {s : sx_S} {j : Nat} {k r : Int} {u : rf_T} (h : rf_H s j k r u) (hk : k = 2) : rf_vt s r u := by
  rcases h with ⟨h, _⟩ | ⟨h, _⟩ | ⟨_, h⟩ | ⟨h, _⟩
  · omega
  · omega
  · exact h
  · omega
theorem rf_wh_0 {j : Nat} {k : Int × Int} {u : Unit} {f x : rf_N} (h : k.1 = 0) : (rf_wh (.inner j k u f x)).1 = 1 + (rf_wh f).1 := by
  show (if k.1 = 3 then 5 else if k.1 = 0 then 1 + (rf_wh f).1 else 1 + (rf_wh f).2) = _
  rw [if_neg (by omega), if_pos h]
theorem rf_wh_2 {j : Nat} {k : Int × Int} {u : Unit} {f x : rf_N} (h : k.1 = 1 ∨ k.1 = 2) : (rf_wh (.inner j k u f x)).1 = 1 + (rf_wh f).2 := by
  show (if k.1 = 3 then 5 else if k.1 = 0 then 1 + (rf_wh f).1 else 1 + (rf_wh f).2) = _
  rw [if_neg (by omega), if_neg (by omega)]
theorem rf_wh_pos {j : Nat} {k : Int × Int} {u : Unit} {f x : rf_N} : 1 ≤ (rf_wh (.inner j k u f x)).1 := by
  show 1 ≤ (if k.1 = 3 then 5 else if k.1 = 0 then 1 + (rf_wh f).1 else 1 + (rf_wh f).2)
  split
  · decide
  · split <;> omega
theorem rf_wh_le {j : Nat} {k : Int × Int} {u : Unit} {f x : rf_N} : (rf_wh (.inner j k u f x)).1 ≤ (rf_wh (.inner j k u f x)).2 ∧ (rf_wh x).2 ≤ (rf_wh (.inner j k u f x)).2 := ⟨Nat.le_max_left _ _, Nat.le_max_right _ _⟩
theorem c_r_variable {sL : Nat} {sx : Nat → Int32} (hsL : sL ≤ 3072) : ∀ (Z d : Nat), Z + 2 ≤ d → ∀ (N : rf_N) (x : rf_T) (a0 : Int) (s : sx_S) (K : Int → sx_S → Prop), cx_I s → Z ≤ 100000 → rf_no s N a0 → (rf_gt (rf_H s) rf_P N).1 x → (rf_wh N).1 ≤ Z → (∀ z : Int, (-2147483648 ≤ z ∧ z ≤ 2147483647) → (z ≠ -1 → rf_vt s z x ∧ ∀ m, ¬ (rf_oc N).1 m) → K z s) → sx_C sL sx d 183 [.inr (.inl 66), .inl a0] s K := by
  intro Z
  induction Z with
  | zero =>
    intro d hd N x a0 s K hI hZ hN hx hw hK
    cases N with
    | leaf => exact hx.elim
    | inner j k u f y =>
      have := rf_wh_pos (j := j) (k := k) (u := u) (f := f) (x := y)
      omega
  | succ Z ih =>
    intro d hd N x a0 s K hI hZ hN hx hw hK
    obtain ⟨d, rfl⟩ : ∃ e, d = e + 2 := ⟨d - 2, by omega⟩
    have h50 := hI.fld 66 50 (by decide) rfl
    have rng : ∀ {M : rf_N} {i : Int}, rf_no s M i → -1 ≤ i ∧ i ≤ 59999 := fun {M} {i} h => by
      have := rf_nd_rng h
      omega
    refine sx_methL (wr := true) (n := 400) (n' := 400) (stop := [(4, [0, 1, 2, 3]), (52, [0, 2, 3, 4, 5, 6])]) (fun n pc ls u => u = s ∧ ((pc = 4 ∧ ∃ (x2 x3 : Int) (M : rf_N) (y : rf_T), ls = [(0, .inr (.inl 66)), (1, .inl a0), (2, .inl x2), (3, .inl x3)] ∧ rf_no s M x3 ∧ (rf_gt (rf_H s) rf_P M).1 y ∧ rf_dn M x2.toNat N ∧ (0 ≤ x2 ∧ x2.toNat + (rf_wh M).1 ≤ Z + 1) ∧ (∀ m, (rf_oc N).1 m → (rf_oc M).1 m) ∧ n = 1000000 + (rf_wh M).1) ∨ (pc = 52 ∧ ∃ (x2 x3 x4 x5 x6 : Int) (j : Nat) (k : Int × Int) (f b M g : rf_N) (w y w' y' : rf_T), ls = [(0, .inr (.inl 66)), (2, .inl x2), (3, .inl x3), (4, .inl x4), (5, .inl x5), (6, .inl x6)] ∧ rf_no s (.inner j k () f b) x3 ∧ k.1 = 2 ∧ rf_vt s k.2 w ∧ (0 ≤ x6 ∧ x6 ≤ x2 ∧ x2 ≤ 100001) ∧ rf_no s M x4 ∧ (rf_gt (rf_H s) rf_P M).1 y' ∧ rf_dn (.inner j k () f b) (x2 - x6).toNat M ∧ rf_no s g x5 ∧ (rf_gt (rf_H s) rf_P g).2 w' .leaf ∧ (rf_wh g).2 ≤ Z ∧ (w' = y' → w = x) ∧ (∀ m, (rf_oc f).2 m → (rf_oc g).2 m) ∧ (∀ m, (rf_oc N).1 m → (rf_oc f).2 m) ∧ n = (x2 - x6).toNat))) hsL (e := eX12_variable) rfl ?_ ?_
    · exact w_var hI ⟨_, rfl, Or.inl ⟨rfl, 0, a0, N, x, rfl, hN, hx, rfl, ⟨Int.le_refl _, by simp; omega⟩, fun m h => h, rfl⟩⟩
    · rintro n pc ls u ⟨rfl, ⟨rfl, x2, x3, M, y, rfl, i1, i2, i3, i4, i5, rfl⟩ | ⟨rfl, x2, x3, x4, x5, x6, j, k, f, b, M, g, w, y, w', y', rfl, i1, i2, i3, i4, i5, i6, i7, i8, i9, i10, i11, i12, i13, rfl⟩⟩
      · cases M with
        | leaf => exact i2.elim
        | inner j k v f b =>
          obtain ⟨⟨e0, e1⟩, ⟨e2, e3⟩, e4, e5⟩ := i1
          have ej : x3.toNat = j := by omega
          have hwp := rf_wh_pos (j := j) (k := k) (u := v) (f := f) (x := b)
          refine w_var_4 hI (by omega) (by omega) ?_ ?_ (fun _ _ => hK _ (by omega) (fun h => absurd rfl h))
          · intro h0 u' y2 hu hy2
            rw [ej] at h0 hu
            rw [e2] at h0
            subst hu hy2
            rcases i2 with ⟨_, A, B, a1, a2, a3⟩ | ⟨a1, _⟩
            · have hq := rf_wh_0 (j := j) (u := v) (f := f) (x := b) h0
              refine ⟨_, ?_, rfl, Or.inl ⟨rfl, x2 + 1, _, f, B, rfl, e4, a3, ?_, ⟨by omega, ?_⟩, ?_, rfl⟩⟩
              · omega
              · rw [show (x2 + 1).toNat = x2.toNat + 1 by omega]
                exact rf_dn_snoc h0 i3
              · omega
              · intro m hm
                rcases i5 m hm with ⟨q, _⟩ | ⟨_, q⟩ | ⟨q, _⟩
                · omega
                · exact q
                · omega
            · exact absurd h0 a1
          · intro h2 u' hu
            rw [ej] at h2 hu
            rw [e2] at h2
            subst hu
            rcases i2 with ⟨a1, _⟩ | ⟨_, w, a2, a3, a4⟩
            · omega
            · have hq := rf_wh_2 (j := j) (u := v) (f := f) (x := b) (Or.inr h2)
              have ew : y = .leaf := a4
              subst ew
              refine ⟨_, ?_, rfl, Or.inr ⟨rfl, x2, x3, a0, _, 0, j, k, f, b, N, f, w, .leaf, w, x, rfl, ⟨⟨e0, e1⟩, ⟨e2, e3⟩, e4, e5⟩, h2, rf_H_2 a2 h2, ⟨by omega, by omega, by omega⟩, hN, hx, ?_, e4, a3, by omega, fun h => h, fun m h => h, ?_, rfl⟩⟩
              · omega
              · rw [Int.sub_zero]
                exact i3
              · intro m hm
                rcases i5 m hm with ⟨q, _⟩ | ⟨q, _⟩ | ⟨_, q⟩
                · omega
                · omega
                · exact q
      · have r4 := rng i5
        have r5 := rng i8
        have r3 := rng i1
        have i1' := i1
        obtain ⟨⟨e0, e1⟩, ⟨e2, e3⟩, e4, e5⟩ := i1'
        have ej : x3.toNat = j := by omega
        by_cases hlt : x6 < x2
        · obtain ⟨dj, hdj⟩ : ∃ q, (x2 - x6).toNat = q + 1 := ⟨(x2 - x6).toNat - 1, by omega⟩
          rw [hdj] at i7
          cases M with
          | leaf => exact i7.elim
          | inner mj mk mv mf mx =>
            obtain ⟨⟨g0, g1⟩, ⟨g2, g3⟩, g4, g5⟩ := i5
            obtain ⟨k0, i7'⟩ := i7
            have emj : x4.toNat = mj := by omega
            rcases i6 with ⟨_, A, B, a1, a2, a3⟩ | ⟨a1, _⟩
            · have hA := rf_H_0 a2 k0
              cases g with
              | leaf =>
                have e : x5 = -1 := i8
                exact w_var_52 (Z := fun _ => True) hI (by omega) (by omega) (by omega) (fun _ => by omega) (by omega) (fun _ h => absurd e h) (hK _ (by omega) (fun h => absurd rfl h)) (fun _ h => absurd e h) (fun h => absurd h (by omega))
              | inner gj gk gv gf gx =>
                obtain ⟨A', B', b1, b2, b3⟩ := i9
                have hle := rf_wh_le (j := gj) (k := gk) (u := gv) (f := gf) (x := gx)
                have i8' := i8
                obtain ⟨⟨f0, f1⟩, ⟨f2, f3⟩, f4, f5⟩ := i8'
                have egj : x5.toNat = gj := by omega
                refine w_var_52 (Z := fun z => z ≠ -1 → rf_vt u z A' ∧ ∀ m, ¬ (rf_oc (.inner gj gk gv gf gx)).1 m) hI (by omega) (by omega) (by omega) (fun _ => by omega) (by omega) (fun _ _ K' hK' => ih (d + 1) (by omega) (.inner gj gk gv gf gx) A' x5 u K' hI (by omega) i8 b2 (by omega) (fun z z1 z2 => hK' z z1 z2)) (hK _ (by omega) (fun h => absurd rfl h)) ?_ (fun h => absurd h (by omega))
                intro _ _ z p q y6 hz h1 h2 h3 h4
                rw [emj] at h1 h2
                rw [egj] at h3
                rw [g3] at h1
                subst h1 h2 h3 h4
                have hv0 := hA.1.1
                obtain ⟨z1, z2⟩ := hz (by omega)
                have eA := rf_vt_inj hA z1
                refine ⟨_, ?_, rfl, Or.inr ⟨rfl, x2, x3, _, _, x6 + 1, j, k, f, b, mf, gx, w, y, B', B, rfl, i1, i2, i3, ⟨by omega, by omega, by omega⟩, g4, a3, ?_, f5, b3, by omega, ?_, ?_, i13, rfl⟩⟩
                · omega
                · rw [show (x2 - (x6 + 1)).toNat = dj by omega]
                  exact i7'
                · intro e
                  refine i11 ?_
                  rw [b1, a1, e, eA]
                · intro m hm
                  rcases i12 m hm with q | q
                  · exact absurd q (z2 m)
                  · exact q
            · exact absurd k0 a1
        · refine w_var_52 (Z := fun _ => True) hI (by omega) (by omega) (by omega) (fun h => absurd h hlt) (by omega) (fun h => absurd h hlt) (hK _ (by omega) (fun h => absurd rfl h)) (fun h => absurd h hlt) ?_
          intro _ h5 z hz
          rw [ej, e3] at hz
          have eg : g = .leaf := rf_nd_nil i8 h5
          subst eg
          have ew : w' = .leaf := i9
          rw [show (x2 - x6).toNat = 0 by omega] at i7
          have eM : M = .inner j k () f b := i7
          subst eM
          have ey : y' = .leaf := by
            rcases i6 with ⟨q, _⟩ | ⟨_, _, _, _, q⟩
            · omega
            · exact q
          have exw := i11 (by rw [ew, ey])
          subst exw hz
          have hv0 := i3.1
          have h58 := hI.fld 66 58 (by decide) rfl
          refine hK _ (by omega) (fun _ => ⟨i3, fun m hm => ?_⟩)
          exact i12 m (i13 m hm)
