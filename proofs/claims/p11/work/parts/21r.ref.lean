/-! ===== the reference: long forms of variables ===== -/
/-- the variables of the first j LAMs -/
def rf_rf : Nat → rf_N → List Int
  | 0, _ => []
  | _ + 1, .leaf => []
  | j + 1, .inner _ k _ f _ => k.2 :: rf_rf j f
theorem rf_rf_snoc {i : Nat} {k : Int × Int} {u : Unit} {f x : rf_N} : ∀ {j : Nat} {n : rf_N}, rf_dn (.inner i k u f x) j n → rf_rf (j + 1) n = rf_rf j n ++ [k.2]
  | 0, n, h => by
    have e : n = .inner i k u f x := h
    rw [e]
    rfl
  | j + 1, .leaf, h => h.elim
  | j + 1, .inner _ l _ g _, h => by
    show l.2 :: rf_rf (j + 1) g = (l.2 :: rf_rf j g) ++ [k.2]
    rw [rf_rf_snoc h.2]
    rfl
theorem w_var_52F {CALL : sx_Ca} {sL : Nat} {sx : Nat → Int32} {Q : Nat → sx_L → sx_S → Prop} {R : Int → sx_S → Prop} {s : sx_S} {x2 x3 x4 x5 x6 : Int} {Z : Int → Prop} (hI : cx_I s) (q2 : 0 ≤ x2 ∧ x2 ≤ 1000000) (q6 : 0 ≤ x6 ∧ x6 ≤ x2) (q3 : 0 ≤ x3 ∧ x3 ≤ 59999) (q4 : x6 < x2 → 0 ≤ x4 ∧ x4 ≤ 59999) (q5 : -1 ≤ x5 ∧ x5 ≤ 59999) (hC : x6 < x2 → x5 ≠ -1 → ∀ K : Int → sx_S → Prop, (∀ z : Int, (-2147483648 ≤ z ∧ z ≤ 2147483647) → Z z → K z s) → CALL 183 [.inr (.inl 66), .inl x5] s K) (hK1 : x6 < x2 → x5 = -1 → R (-1) s) (hK2 : x6 < x2 → s.2.1 101 x4.toNat = s.2.1 101 x3.toNat → R (-1) s) (hK3 : x6 < x2 → x5 ≠ -1 → ∀ z : Int, Z z → z ≠ s.2.1 101 x4.toNat → R (-1) s) (hQ : x6 < x2 → x5 ≠ -1 → s.2.1 101 x4.toNat ≠ s.2.1 101 x3.toNat → ∀ z u w y6 : Int, Z z → z = s.2.1 101 x4.toNat → u = s.2.1 102 x4.toNat → w = s.2.1 103 x5.toNat → y6 = x6 + 1 → Q 52 [(0, .inr (.inl 66)), (2, .inl x2), (3, .inl x3), (4, .inl u), (5, .inl w), (6, .inl y6)] s) (hK4 : x2 ≤ x6 → x5 = -1 → ∀ z : Int, z = s.2.1 101 x3.toNat → R z s) (hK5 : x2 ≤ x6 → x5 ≠ -1 → R (-1) s) : sx_wp true sL sx eX12_variable CALL [(4, [0, 1, 2, 3]), (52, [0, 2, 3, 4, 5, 6])] Q R 400 52 [(0, .inr (.inl 66)), (2, .inl x2), (3, .inl x3), (4, .inl x4), (5, .inl x5), (6, .inl x6)] [] s := by
  repeat' (first | (with_reducible intro _) | (refine And.intro ?_ ?_) | (exact hK1 (by first | omega | (dsimp only at *; omega) | (subst_vars; omega)) (by first | omega | (dsimp only at *; omega) | (subst_vars; omega))) | (exact hK5 (by first | omega | (dsimp only at *; omega) | (subst_vars; omega)) (by first | omega | (dsimp only at *; omega) | (subst_vars; omega))) | (exact hK2 (by first | omega | (dsimp only at *; omega) | (subst_vars; omega)) (by first | omega | (dsimp only at *; omega))) | (refine hK4 (by first | omega | (dsimp only at *; omega) | (subst_vars; omega)) (by first | omega | (dsimp only at *; omega) | (subst_vars; omega)) _ ?_) | (exact hK3 (by first | omega | (dsimp only at *; omega) | (subst_vars; omega)) (by first | omega | (dsimp only at *; omega) | (subst_vars; omega)) _ (by assumption) (by first | omega | (dsimp only at *; omega))) | (refine hQ (by first | omega | (dsimp only at *; omega) | (subst_vars; omega)) (by first | omega | (dsimp only at *; omega) | (subst_vars; omega)) (by first | omega | (dsimp only at *; omega)) _ _ _ _ (by assumption) ?_ ?_ ?_ ?_) | (refine hC (by first | omega | (dsimp only at *; omega) | (subst_vars; omega)) (by first | omega | (dsimp only at *; omega) | (subst_vars; omega)) _ ?_))
  all_goals (try dsimp only)
  all_goals (first | trivial | assumption | omega | (dsimp only at *; omega) | (simp only [sx_w_t] at *; omega) | (exfalso; omega) | (subst_vars; omega) | (subst_vars; assumption) | (subst_vars; dsimp only at *; omega) | (subst_vars; dsimp only at *; simp only [sx_w_t] at *; omega) | (exfalso; subst_vars; omega))

theorem c_r_varF {sL : Nat} {sx : Nat → Int32} (hsL : sL ≤ 3072) : ∀ (Z d : Nat), Z + 2 ≤ d → ∀ (N : rf_N) (x : rf_T) (a0 : Int) (s : sx_S) (K : Int → sx_S → Prop), cx_I s → Z ≤ 100000 → rf_no s N a0 → (rf_gt (rf_H s) rf_P N).1 x → (rf_wh N).1 ≤ Z → (∀ z : Int, (-2147483648 ≤ z ∧ z ≤ 2147483647) → (z ≠ -1 → (rf_vt s z x ∧ ∀ m, ¬ (rf_oc N).1 m) ∧ rf_lf N z) → (∀ v, rf_lf N v → z = v) → K z s) → sx_C sL sx d 183 [.inr (.inl 66), .inl a0] s K := by
  intro Z
  induction Z with
  | zero =>
    intro d hd N x a0 s K hI hZ hN hx hw hK
    cases N with
    | leaf => exact hx.elim
    | inner j k u f y =>
      have := rf_wh_pos (j := j) (k := k) (u := u) (f := f) (x := y)
      omega
  | succ Z ih =>
    intro d hd N x a0 s K hI hZ hN hx hw hK
    obtain ⟨d, rfl⟩ : ∃ e, d = e + 2 := ⟨d - 2, by omega⟩
    have h50 := hI.fld 66 50 (by decide) rfl
    have rng : ∀ {M : rf_N} {i : Int}, rf_no s M i → -1 ≤ i ∧ i ≤ 59999 := fun {M} {i} h => by
      have := rf_nd_rng h
      omega
    refine sx_methL (wr := true) (n := 400) (n' := 400) (stop := [(4, [0, 1, 2, 3]), (52, [0, 2, 3, 4, 5, 6])]) (fun n pc ls u => u = s ∧ ((pc = 4 ∧ ∃ (x2 x3 : Int) (M : rf_N) (y : rf_T), ls = [(0, .inr (.inl 66)), (1, .inl a0), (2, .inl x2), (3, .inl x3)] ∧ rf_no s M x3 ∧ (rf_gt (rf_H s) rf_P M).1 y ∧ rf_dn M x2.toNat N ∧ (0 ≤ x2 ∧ x2.toNat + (rf_wh M).1 ≤ Z + 1) ∧ (∀ m, (rf_oc N).1 m → (rf_oc M).1 m) ∧ (∀ v, rf_lf N v ↔ (rf_lf2 M).1 (rf_rf x2.toNat N) v) ∧ n = 1000000 + (rf_wh M).1) ∨ (pc = 52 ∧ ∃ (x2 x3 x4 x5 x6 : Int) (j : Nat) (k : Int × Int) (f b M g : rf_N) (w y w' y' : rf_T), ls = [(0, .inr (.inl 66)), (2, .inl x2), (3, .inl x3), (4, .inl x4), (5, .inl x5), (6, .inl x6)] ∧ rf_no s (.inner j k () f b) x3 ∧ k.1 = 2 ∧ rf_vt s k.2 w ∧ (0 ≤ x6 ∧ x6 ≤ x2 ∧ x2 ≤ 100001) ∧ rf_no s M x4 ∧ (rf_gt (rf_H s) rf_P M).1 y' ∧ rf_dn (.inner j k () f b) (x2 - x6).toNat M ∧ rf_no s g x5 ∧ (rf_gt (rf_H s) rf_P g).2 w' .leaf ∧ (rf_wh g).2 ≤ Z ∧ (w' = y' → w = x) ∧ (∀ m, (rf_oc f).2 m → (rf_oc g).2 m) ∧ (∀ m, (rf_oc N).1 m → (rf_oc f).2 m) ∧ (∀ v, rf_lf N v ↔ (k.2 = v ∧ k.2 ∉ rf_rf (x2 - x6).toNat M ∧ (rf_lf2 g).2 (rf_rf (x2 - x6).toNat M))) ∧ n = (x2 - x6).toNat))) hsL (e := eX12_variable) rfl ?_ ?_
    · exact w_var hI ⟨_, rfl, Or.inl ⟨rfl, 0, a0, N, x, rfl, hN, hx, rfl, ⟨Int.le_refl _, by simp; omega⟩, fun m h => h, fun v => Iff.rfl, rfl⟩⟩
    · rintro n pc ls u ⟨rfl, ⟨rfl, x2, x3, M, y, rfl, i1, i2, i3, i4, i5, i5F, rfl⟩ | ⟨rfl, x2, x3, x4, x5, x6, j, k, f, b, M, g, w, y, w', y', rfl, i1, i2, i3, i4, i5, i6, i7, i8, i9, i10, i11, i12, i13, i13F, rfl⟩⟩
      · cases M with
        | leaf => exact i2.elim
        | inner j k v f b =>
          obtain ⟨⟨e0, e1⟩, ⟨e2, e3⟩, e4, e5⟩ := i1
          have ej : x3.toNat = j := by omega
          have hwp := rf_wh_pos (j := j) (k := k) (u := v) (f := f) (x := b)
          refine w_var_4 hI (by omega) (by omega) ?_ ?_ (fun h0 h2 => hK _ (by omega) (fun h => absurd rfl h) (fun v hv => by
            rw [ej] at h0 h2
            rw [e2] at h0 h2
            rcases (i5F v).mp hv with ⟨q, _⟩ | ⟨q, _⟩
            · exact absurd q h0
            · exact absurd q h2))
          · intro h0 u' y2 hu hy2
            rw [ej] at h0 hu
            rw [e2] at h0
            subst hu hy2
            rcases i2 with ⟨_, A, B, a1, a2, a3⟩ | ⟨a1, _⟩
            · have hq := rf_wh_0 (j := j) (u := v) (f := f) (x := b) h0
              refine ⟨_, ?_, rfl, Or.inl ⟨rfl, x2 + 1, _, f, B, rfl, e4, a3, ?_, ⟨by omega, ?_⟩, ?_, ?_, rfl⟩⟩
              · omega
              · rw [show (x2 + 1).toNat = x2.toNat + 1 by omega]
                exact rf_dn_snoc h0 i3
              · omega
              · intro m hm
                rcases i5 m hm with ⟨q, _⟩ | ⟨_, q⟩ | ⟨q, _⟩
                · omega
                · exact q
                · omega
              · intro v'
                rw [i5F v', show (x2 + 1).toNat = x2.toNat + 1 by omega, rf_rf_snoc i3]
                constructor
                · rintro (⟨_, q⟩ | ⟨q, _⟩)
                  · exact q
                  · omega
                · exact fun q => Or.inl ⟨h0, q⟩
            · exact absurd h0 a1
          · intro h2 u' hu
            rw [ej] at h2 hu
            rw [e2] at h2
            subst hu
            rcases i2 with ⟨a1, _⟩ | ⟨_, w, a2, a3, a4⟩
            · omega
            · have hq := rf_wh_2 (j := j) (u := v) (f := f) (x := b) (Or.inr h2)
              have ew : y = .leaf := a4
              subst ew
              refine ⟨_, ?_, rfl, Or.inr ⟨rfl, x2, x3, a0, _, 0, j, k, f, b, N, f, w, .leaf, w, x, rfl, ⟨⟨e0, e1⟩, ⟨e2, e3⟩, e4, e5⟩, h2, rf_H_2 a2 h2, ⟨by omega, by omega, by omega⟩, hN, hx, ?_, e4, a3, by omega, fun h => h, fun m h => h, ?_, ?_, rfl⟩⟩
              · omega
              · rw [Int.sub_zero]
                exact i3
              · intro m hm
                rcases i5 m hm with ⟨q, _⟩ | ⟨q, _⟩ | ⟨_, q⟩
                · omega
                · omega
                · exact q
              · intro v'
                rw [i5F v', Int.sub_zero]
                constructor
                · rintro (⟨q, _⟩ | ⟨_, q1, q2, q3⟩)
                  · omega
                  · exact ⟨q1, by rw [q1]; exact q2, q3⟩
                · rintro ⟨q1, q2, q3⟩
                  exact Or.inr ⟨h2, q1, by rw [← q1]; exact q2, q3⟩
      · have r4 := rng i5
        have r5 := rng i8
        have r3 := rng i1
        have i1' := i1
        obtain ⟨⟨e0, e1⟩, ⟨e2, e3⟩, e4, e5⟩ := i1'
        have ej : x3.toNat = j := by omega
        by_cases hlt : x6 < x2
        · obtain ⟨dj, hdj⟩ : ∃ q, (x2 - x6).toNat = q + 1 := ⟨(x2 - x6).toNat - 1, by omega⟩
          rw [hdj] at i7 i13F
          cases M with
          | leaf => exact i7.elim
          | inner mj mk mv mf mx =>
            obtain ⟨⟨g0, g1⟩, ⟨g2, g3⟩, g4, g5⟩ := i5
            obtain ⟨k0, i7'⟩ := i7
            have emj : x4.toNat = mj := by omega
            rcases i6 with ⟨_, A, B, a1, a2, a3⟩ | ⟨a1, _⟩
            · have hA := rf_H_0 a2 k0
              cases g with
              | leaf =>
                have e : x5 = -1 := i8
                have no : ∀ v, ¬ rf_lf N v := fun v' hv' => by
                  obtain ⟨_, _, q⟩ := (i13F v').mp hv'
                  cases q
                exact w_var_52F (Z := fun _ => True) hI (by omega) (by omega) (by omega) (fun _ => by omega) (by omega) (fun _ h => absurd e h) (fun _ _ => hK _ (by omega) (fun h => absurd rfl h) (fun v' hv' => absurd hv' (no v'))) (fun _ _ => hK _ (by omega) (fun h => absurd rfl h) (fun v' hv' => absurd hv' (no v'))) (fun _ h => absurd e h) (fun _ h => absurd e h) (fun h => absurd h (by omega)) (fun h => absurd h (by omega))
              | inner gj gk gv gf gx =>
                obtain ⟨A', B', b1, b2, b3⟩ := i9
                have hle := rf_wh_le (j := gj) (k := gk) (u := gv) (f := gf) (x := gx)
                have i8' := i8
                obtain ⟨⟨f0, f1⟩, ⟨f2, f3⟩, f4, f5⟩ := i8'
                have egj : x5.toNat = gj := by omega
                have hcons : ∀ v', rf_lf N v' → k.2 ≠ mk.2 ∧ rf_lf (.inner gj gk gv gf gx) mk.2 := fun v' hv' => by
                  obtain ⟨_, q2, w0, us', q3, q4, _⟩ := (i13F v').mp hv'
                  injection q3 with q5 q6
                  subst q5
                  exact ⟨fun q => q2 (by rw [q]; exact List.mem_cons_self), q4⟩
                refine w_var_52F (Z := fun z => (z ≠ -1 → (rf_vt u z A' ∧ ∀ m, ¬ (rf_oc (.inner gj gk gv gf gx)).1 m) ∧ rf_lf (.inner gj gk gv gf gx) z) ∧ ∀ v', rf_lf (.inner gj gk gv gf gx) v' → z = v') hI (by omega) (by omega) (by omega) (fun _ => by omega) (by omega) (fun _ _ K' hK' => ih (d + 1) (by omega) (.inner gj gk gv gf gx) A' x5 u K' hI (by omega) i8 b2 (by omega) (fun z z1 z2 z3 => hK' z z1 ⟨z2, z3⟩)) (fun _ h => by omega) (fun _ h => hK _ (by omega) (fun h => absurd rfl h) (fun v' hv' => by
                  rw [emj, ej, g3, e3] at h
                  exact absurd h.symm (hcons v' hv').1)) (fun _ _ z hz hne => hK _ (by omega) (fun h => absurd rfl h) (fun v' hv' => by
                  rw [emj, g3] at hne
                  exact absurd (hz.2 _ (hcons v' hv').2) hne)) ?_ (fun h => absurd h (by omega)) (fun h => absurd h (by omega))
                intro _ _ hrr z p q y6 hz h1 h2 h3 h4
                rw [emj, ej, g3, e3] at hrr
                rw [emj] at h1 h2
                rw [egj] at h3
                rw [g3] at h1
                subst h1 h2 h3 h4
                have hv0 := hA.1.1
                obtain ⟨⟨z1, z2⟩, z3⟩ := hz.1 (by omega)
                have eA := rf_vt_inj hA z1
                refine ⟨_, ?_, rfl, Or.inr ⟨rfl, x2, x3, _, _, x6 + 1, j, k, f, b, mf, gx, w, y, B', B, rfl, i1, i2, i3, ⟨by omega, by omega, by omega⟩, g4, a3, ?_, f5, b3, by omega, ?_, ?_, i13, ?_, rfl⟩⟩
                · omega
                · rw [show (x2 - (x6 + 1)).toNat = dj by omega]
                  exact i7'
                · intro e
                  refine i11 ?_
                  rw [b1, a1, e, eA]
                · intro m hm
                  rcases i12 m hm with q | q
                  · exact absurd q (z2 m)
                  · exact q
                · intro v'
                  rw [i13F v', show (x2 - (x6 + 1)).toNat = dj by omega]
                  constructor
                  · rintro ⟨q1, q2, w0, us', q3, q4, q5⟩
                    injection q3 with q6 q7
                    subst q7
                    exact ⟨q1, fun q => q2 (List.mem_cons_of_mem _ q), q5⟩
                  · rintro ⟨q1, q2, q3⟩
                    refine ⟨q1, fun q => ?_, mk.2, _, rfl, z3, q3⟩
                    rcases List.mem_cons.mp q with q | q
                    · exact hrr q.symm
                    · exact q2 q
            · exact absurd k0 a1
        · rw [show (x2 - x6).toNat = 0 by omega] at i7 i13F
          refine w_var_52F (Z := fun _ => True) hI (by omega) (by omega) (by omega) (fun h => absurd h hlt) (by omega) (fun h => absurd h hlt) (fun h => absurd h hlt) (fun h => absurd h hlt) (fun h => absurd h hlt) (fun h => absurd h hlt) ?_ (fun _ h5 => hK _ (by omega) (fun h => absurd rfl h) (fun v' hv' => by
            obtain ⟨_, _, q⟩ := (i13F v').mp hv'
            cases g with
            | leaf => exact absurd i8 h5
            | inner gj gk gv gf gx =>
              obtain ⟨_, _, q, _⟩ := q
              cases q))
          intro _ h5 z hz
          rw [ej, e3] at hz
          have eg : g = .leaf := rf_nd_nil i8 h5
          subst eg
          have ew : w' = .leaf := i9
          have eM : M = .inner j k () f b := i7
          subst eM
          have ey : y' = .leaf := by
            rcases i6 with ⟨q, _⟩ | ⟨_, _, _, _, q⟩
            · omega
            · exact q
          have exw := i11 (by rw [ew, ey])
          subst exw hz
          have hv0 := i3.1
          have h58 := hI.fld 66 58 (by decide) rfl
          refine hK _ (by omega) (fun _ => ⟨⟨i3, fun m hm => ?_⟩, (i13F _).mpr ⟨rfl, List.not_mem_nil, rfl⟩⟩) (fun v' hv' => ((i13F v').mp hv').1)
          exact i12 m (i13 m hm)
