section
/-! ===== the reference: long forms of variables ===== -/
/-- the variables of the first j LAMs -/
def rf_rf : Nat → rf_N → List Int
  | 0, _ => []
  | _ + 1, .leaf => []
  | j + 1, .inner _ k _ f _ => k.2 :: rf_rf j f
theorem rf_rf_snoc {i : Nat} {k : Int × Int} {u : Unit} {f x : rf_N} : ∀ {j : Nat} {n : rf_N}, rf_dn (.inner i k u f x) j n → rf_rf (j + 1) n = rf_rf j n ++ [k.2]
  | 0, n, h => by
    have e : n = .inner i k u f x := h
    rw [e]
    rfl
  | j + 1, .leaf, h => h.elim
  | j + 1, .inner _ l _ g _, h => by
    show l.2 :: rf_rf (j + 1) g = (l.2 :: rf_rf j g) ++ [k.2]
    rw [rf_rf_snoc h.2]
    rfl
theorem w_var_52F {CALL : sx_Ca} {sL : Nat} {sx : Nat → Int32} {Q : Nat → sx_L → sx_S → Prop} {R : Int → sx_S → Prop} {s : sx_S} {x2 x3 x4 x5 x6 : Int} {Z : Int → Prop} (hI : cx_I s) (q2 : 0 ≤ x2 ∧ x2 ≤ 1000000) (q6 : 0 ≤ x6 ∧ x6 ≤ x2) (q3 : 0 ≤ x3 ∧ x3 ≤ 59999) (q4 : x6 < x2 → 0 ≤ x4 ∧ x4 ≤ 59999) (q5 : -1 ≤ x5 ∧ x5 ≤ 59999) (hC : x6 < x2 → x5 ≠ -1 → ∀ K : Int → sx_S → Prop, (∀ z : Int, (-2147483648 ≤ z ∧ z ≤ 2147483647) → Z z → K z s) → CALL 183 [.inr (.inl 66), .inl x5] s K) (hK1 : x6 < x2 → x5 = -1 → R (-1) s) (hK2 : x6 < x2 → s.2.1 101 x4.toNat = s.2.1 101 x3.toNat → R (-1) s) (hK3 : x6 < x2 → x5 ≠ -1 → ∀ z : Int, Z z → z ≠ s.2.1 101 x4.toNat → R (-1) s) (hQ : x6 < x2 → x5 ≠ -1 → s.2.1 101 x4.toNat ≠ s.2.1 101 x3.toNat → ∀ z u w y6 : Int, Z z → z = s.2.1 101 x4.toNat → u = s.2.1 102 x4.toNat → w = s.2.1 103 x5.toNat → y6 = x6 + 1 → Q 52 [(0, .inr (.inl 66)), (2, .inl x2), (3, .inl x3), (4, .inl u), (5, .inl w), (6, .inl y6)] s) (hK4 : x2 ≤ x6 → x5 = -1 → ∀ z : Int, z = s.2.1 101 x3.toNat → R z s) (hK5 : x2 ≤ x6 → x5 ≠ -1 → R (-1) s) : sx_wp true sL sx eX12_variable CALL [(4, [0, 1, 2, 3]), (52, [0, 2, 3, 4, 5, 6])] Q R 400 52 [(0, .inr (.inl 66)), (2, .inl x2), (3, .inl x3), (4, .inl x4), (5, .inl x5), (6, .inl x6)] [] s := by
  repeat' (first | (with_reducible intro _) | (refine And.intro ?_ ?_) | (exact hK1 (by first | omega | (dsimp only at *; omega) | (subst_vars; omega)) (by first | omega | (dsimp only at *; omega) | (subst_vars; omega))) | (exact hK5 (by first | omega | (dsimp only at *; omega) | (subst_vars; omega)) (by first | omega | (dsimp only at *; omega) | (subst_vars; omega))) | (exact hK2 (by first | omega | (dsimp only at *; omega) | (subst_vars; omega)) (by first | omega | (dsimp only at *; omega))) | (refine hK4 (by first | omega | (dsimp only at *; omega) | (subst_vars; omega)) (by first | omega | (dsimp only at *; omega) | (subst_vars; omega)) _ ?_) | (exact hK3 (by first | omega | (dsimp only at *; omega) | (subst_vars; omega)) (by first | omega | (dsimp only at *; omega) | (subst_vars; omega)) _ (by assumption) (by first | omega | (dsimp only at *; omega))) | (refine hQ (by first | omega | (dsimp only at *; omega) | (subst_vars; omega)) (by first | omega | (dsimp only at *; omega) | (subst_vars; omega)) (by first | omega | (dsimp only at *; omega)) _ _ _ _ (by assumption) ?_ ?_ ?_ ?_) | (refine hC (by first | omega | (dsimp only at *; omega) | (subst_vars; omega)) (by first | omega | (dsimp only at *; omega) | (subst_vars; omega)) _ ?_))
  all_goals (try dsimp only)
  all_goals (first | trivial | assumption | omega | (dsimp only at *; omega) | (simp only [sx_w_t] at *; omega) | (exfalso; omega) | (subst_vars; omega) | (subst_vars; assumption) | (subst_vars; dsimp only at *; omega) | (subst_vars; dsimp only at *; simp only [sx_w_t] at *; omega) | (exfalso; subst_vars; omega))

theorem c_r_varF {sL : Nat} {sx : Nat → Int32} (hsL : sL ≤ 3072) : ∀ (Z d : Nat), Z + 2 ≤ d → ∀ (N : rf_N) (x : rf_T) (a0 : Int) (s : sx_S) (K : Int → sx_S → Prop), cx_I s → Z ≤ 100000 → rf_no s N a0 → (rf_gt (rf_H s) rf_P N).1 x → (rf_wh N).1 ≤ Z → (∀ z : Int, (-2147483648 ≤ z ∧ z ≤ 2147483647) → (z ≠ -1 → (rf_vt s z x ∧ ∀ m, ¬ (rf_oc N).1 m) ∧ rf_lf N z) → (∀ v, rf_lf N v → z = v) → K z s) → sx_C sL sx d 183 [.inr (.inl 66), .inl a0] s K := by
  intro Z
  induction Z with
  | zero =>
    intro d hd N x a0 s K hI hZ hN hx hw hK
    cases N with
    | leaf => exact hx.elim
    | inner j k u f y =>
      have := rf_wh_pos (j := j) (k := k) (u := u) (f := f) (x := y)
      omega
  | succ Z ih =>
    intro d hd N x a0 s K hI hZ hN hx hw hK
    obtain ⟨d, rfl⟩ : ∃ e, d = e + 2 := ⟨d - 2, by omega⟩
    have h50 := hI.fld 66 50 (by decide) rfl
    have rng : ∀ {M : rf_N} {i : Int}, rf_no s M i → -1 ≤ i ∧ i ≤ 59999 := fun {M} {i} h => by
      have := rf_nd_rng h
      omega
    refine sx_methL (wr := true) (n := 400) (n' := 400) (stop := [(4, [0, 1, 2, 3]), (52, [0, 2, 3, 4, 5, 6])]) (fun n pc ls u => u = s ∧ ((pc = 4 ∧ ∃ (x2 x3 : Int) (M : rf_N) (y : rf_T), ls = [(0, .inr (.inl 66)), (1, .inl a0), (2, .inl x2), (3, .inl x3)] ∧ rf_no s M x3 ∧ (rf_gt (rf_H s) rf_P M).1 y ∧ rf_dn M x2.toNat N ∧ (0 ≤ x2 ∧ x2.toNat + (rf_wh M).1 ≤ Z + 1) ∧ (∀ m, (rf_oc N).1 m → (rf_oc M).1 m) ∧ (∀ v, rf_lf N v ↔ (rf_lf2 M).1 (rf_rf x2.toNat N) v) ∧ n = 1000000 + (rf_wh M).1) ∨ (pc = 52 ∧ ∃ (x2 x3 x4 x5 x6 : Int) (j : Nat) (k : Int × Int) (f b M g : rf_N) (w y w' y' : rf_T), ls = [(0, .inr (.inl 66)), (2, .inl x2), (3, .inl x3), (4, .inl x4), (5, .inl x5), (6, .inl x6)] ∧ rf_no s (.inner j k () f b) x3 ∧ k.1 = 2 ∧ rf_vt s k.2 w ∧ (0 ≤ x6 ∧ x6 ≤ x2 ∧ x2 ≤ 100001) ∧ rf_no s M x4 ∧ (rf_gt (rf_H s) rf_P M).1 y' ∧ rf_dn (.inner j k () f b) (x2 - x6).toNat M ∧ rf_no s g x5 ∧ (rf_gt (rf_H s) rf_P g).2 w' .leaf ∧ (rf_wh g).2 ≤ Z ∧ (w' = y' → w = x) ∧ (∀ m, (rf_oc f).2 m → (rf_oc g).2 m) ∧ (∀ m, (rf_oc N).1 m → (rf_oc f).2 m) ∧ (∀ v, rf_lf N v ↔ (k.2 = v ∧ k.2 ∉ rf_rf (x2 - x6).toNat M ∧ (rf_lf2 g).2 (rf_rf (x2 - x6).toNat M))) ∧ n = (x2 - x6).toNat))) hsL (e := eX12_variable) rfl ?_ ?_
    · exact w_var hI ⟨_, rfl, Or.inl ⟨rfl, 0, a0, N, x, rfl, hN, hx, rfl, ⟨Int.le_refl _, by simp; omega⟩, fun m h => h, fun v => Iff.rfl, rfl⟩⟩
    · rintro n pc ls u ⟨rfl, ⟨rfl, x2, x3, M, y, rfl, i1, i2, i3, i4, i5, i5F, rfl⟩ | ⟨rfl, x2, x3, x4, x5, x6, j, k, f, b, M, g, w, y, w', y', rfl, i1, i2, i3, i4, i5, i6, i7, i8, i9, i10, i11, i12, i13, i13F, rfl⟩⟩
      · cases M with
        | leaf => exact i2.elim
        | inner j k v f b =>
          obtain ⟨⟨e0, e1⟩, ⟨e2, e3⟩, e4, e5⟩ := i1
          have ej : x3.toNat = j := by omega
          have hwp := rf_wh_pos (j := j) (k := k) (u := v) (f := f) (x := b)
          refine w_var_4 hI (by omega) (by omega) ?_ ?_ (fun h0 h2 => hK _ (by omega) (fun h => absurd rfl h) (fun v hv => by
            rw [ej] at h0 h2
            rw [e2] at h0 h2
            rcases (i5F v).mp hv with ⟨q, _⟩ | ⟨q, _⟩
            · exact absurd q h0
            · exact absurd q h2))
          · intro h0 u' y2 hu hy2
            rw [ej] at h0 hu
            rw [e2] at h0
            subst hu hy2
            rcases i2 with ⟨_, A, B, a1, a2, a3⟩ | ⟨a1, _⟩
            · have hq := rf_wh_0 (j := j) (u := v) (f := f) (x := b) h0
              refine ⟨_, ?_, rfl, Or.inl ⟨rfl, x2 + 1, _, f, B, rfl, e4, a3, ?_, ⟨by omega, ?_⟩, ?_, ?_, rfl⟩⟩
              · omega
              · rw [show (x2 + 1).toNat = x2.toNat + 1 by omega]
                exact rf_dn_snoc h0 i3
              · omega
              · intro m hm
                rcases i5 m hm with ⟨q, _⟩ | ⟨_, q⟩ | ⟨q, _⟩
                · omega
                · exact q
                · omega
              · intro v'
                rw [i5F v', show (x2 + 1).toNat = x2.toNat + 1 by omega, rf_rf_snoc i3]
                constructor
                · rintro (⟨_, q⟩ | ⟨q, _⟩)
                  · exact q
                  · omega
                · exact fun q => Or.inl ⟨h0, q⟩
            · exact absurd h0 a1
          · intro h2 u' hu
            rw [ej] at h2 hu
            rw [e2] at h2
            subst hu
            rcases i2 with ⟨a1, _⟩ | ⟨_, w, a2, a3, a4⟩
            · omega
            · have hq := rf_wh_2 (j := j) (u := v) (f := f) (x := b) (Or.inr h2)
              have ew : y = .leaf := a4
              subst ew
              refine ⟨_, ?_, rfl, Or.inr ⟨rfl, x2, x3, a0, _, 0, j, k, f, b, N, f, w, .leaf, w, x, rfl, ⟨⟨e0, e1⟩, ⟨e2, e3⟩, e4, e5⟩, h2, rf_H_2 a2 h2, ⟨by omega, by omega, by omega⟩, hN, hx, ?_, e4, a3, by omega, fun h => h, fun m h => h, ?_, ?_, rfl⟩⟩
              · omega
              · rw [Int.sub_zero]
                exact i3
              · intro m hm
                rcases i5 m hm with ⟨q, _⟩ | ⟨q, _⟩ | ⟨_, q⟩
                · omega
                · omega
                · exact q
              · intro v'
                rw [i5F v', Int.sub_zero]
                constructor
                · rintro (⟨q, _⟩ | ⟨_, q1, q2, q3⟩)
                  · omega
                  · exact ⟨q1, by rw [q1]; exact q2, q3⟩
                · rintro ⟨q1, q2, q3⟩
                  exact Or.inr ⟨h2, q1, by rw [← q1]; exact q2, q3⟩
      · have r4 := rng i5
        have r5 := rng i8
        have r3 := rng i1
        have i1' := i1
        obtain ⟨⟨e0, e1⟩, ⟨e2, e3⟩, e4, e5⟩ := i1'
        have ej : x3.toNat = j := by omega
        by_cases hlt : x6 < x2
        · obtain ⟨dj, hdj⟩ : ∃ q, (x2 - x6).toNat = q + 1 := ⟨(x2 - x6).toNat - 1, by omega⟩
          rw [hdj] at i7 i13F
          cases M with
          | leaf => exact i7.elim
          | inner mj mk mv mf mx =>
            obtain ⟨⟨g0, g1⟩, ⟨g2, g3⟩, g4, g5⟩ := i5
            obtain ⟨k0, i7'⟩ := i7
            have emj : x4.toNat = mj := by omega
            rcases i6 with ⟨_, A, B, a1, a2, a3⟩ | ⟨a1, _⟩
            · have hA := rf_H_0 a2 k0
              cases g with
              | leaf =>
                have e : x5 = -1 := i8
                have no : ∀ v, ¬ rf_lf N v := fun v' hv' => by
                  obtain ⟨_, _, q⟩ := (i13F v').mp hv'
                  cases q
                exact w_var_52F (Z := fun _ => True) hI (by omega) (by omega) (by omega) (fun _ => by omega) (by omega) (fun _ h => absurd e h) (fun _ _ => hK _ (by omega) (fun h => absurd rfl h) (fun v' hv' => absurd hv' (no v'))) (fun _ _ => hK _ (by omega) (fun h => absurd rfl h) (fun v' hv' => absurd hv' (no v'))) (fun _ h => absurd e h) (fun _ h => absurd e h) (fun h => absurd h (by omega)) (fun h => absurd h (by omega))
              | inner gj gk gv gf gx =>
                obtain ⟨A', B', b1, b2, b3⟩ := i9
                have hle := rf_wh_le (j := gj) (k := gk) (u := gv) (f := gf) (x := gx)
                have i8' := i8
                obtain ⟨⟨f0, f1⟩, ⟨f2, f3⟩, f4, f5⟩ := i8'
                have egj : x5.toNat = gj := by omega
                have hcons : ∀ v', rf_lf N v' → k.2 ≠ mk.2 ∧ rf_lf (.inner gj gk gv gf gx) mk.2 := fun v' hv' => by
                  obtain ⟨_, q2, w0, us', q3, q4, _⟩ := (i13F v').mp hv'
                  injection q3 with q5 q6
                  subst q5
                  exact ⟨fun q => q2 (by rw [q]; exact List.mem_cons_self), q4⟩
                refine w_var_52F (Z := fun z => (z ≠ -1 → (rf_vt u z A' ∧ ∀ m, ¬ (rf_oc (.inner gj gk gv gf gx)).1 m) ∧ rf_lf (.inner gj gk gv gf gx) z) ∧ ∀ v', rf_lf (.inner gj gk gv gf gx) v' → z = v') hI (by omega) (by omega) (by omega) (fun _ => by omega) (by omega) (fun _ _ K' hK' => ih (d + 1) (by omega) (.inner gj gk gv gf gx) A' x5 u K' hI (by omega) i8 b2 (by omega) (fun z z1 z2 z3 => hK' z z1 ⟨z2, z3⟩)) (fun _ h => by omega) (fun _ h => hK _ (by omega) (fun h => absurd rfl h) (fun v' hv' => by
                  rw [emj, ej, g3, e3] at h
                  exact absurd h.symm (hcons v' hv').1)) (fun _ _ z hz hne => hK _ (by omega) (fun h => absurd rfl h) (fun v' hv' => by
                  rw [emj, g3] at hne
                  exact absurd (hz.2 _ (hcons v' hv').2) hne)) ?_ (fun h => absurd h (by omega)) (fun h => absurd h (by omega))
                intro _ _ hrr z p q y6 hz h1 h2 h3 h4
                rw [emj, ej, g3, e3] at hrr
                rw [emj] at h1 h2
                rw [egj] at h3
                rw [g3] at h1
                subst h1 h2 h3 h4
                have hv0 := hA.1.1
                obtain ⟨⟨z1, z2⟩, z3⟩ := hz.1 (by omega)
                have eA := rf_vt_inj hA z1
                refine ⟨_, ?_, rfl, Or.inr ⟨rfl, x2, x3, _, _, x6 + 1, j, k, f, b, mf, gx, w, y, B', B, rfl, i1, i2, i3, ⟨by omega, by omega, by omega⟩, g4, a3, ?_, f5, b3, by omega, ?_, ?_, i13, ?_, rfl⟩⟩
                · omega
                · rw [show (x2 - (x6 + 1)).toNat = dj by omega]
                  exact i7'
                · intro e
                  refine i11 ?_
                  rw [b1, a1, e, eA]
                · intro m hm
                  rcases i12 m hm with q | q
                  · exact absurd q (z2 m)
                  · exact q
                · intro v'
                  rw [i13F v', show (x2 - (x6 + 1)).toNat = dj by omega]
                  constructor
                  · rintro ⟨q1, q2, w0, us', q3, q4, q5⟩
                    injection q3 with q6 q7
                    subst q7
                    exact ⟨q1, fun q => q2 (List.mem_cons_of_mem _ q), q5⟩
                  · rintro ⟨q1, q2, q3⟩
                    refine ⟨q1, fun q => ?_, mk.2, _, rfl, z3, q3⟩
                    rcases List.mem_cons.mp q with q | q
                    · exact hrr q.symm
                    · exact q2 q
            · exact absurd k0 a1
        · rw [show (x2 - x6).toNat = 0 by omega] at i7 i13F
          refine w_var_52F (Z := fun _ => True) hI (by omega) (by omega) (by omega) (fun h => absurd h hlt) (by omega) (fun h => absurd h hlt) (fun h => absurd h hlt) (fun h => absurd h hlt) (fun h => absurd h hlt) (fun h => absurd h hlt) ?_ (fun _ h5 => hK _ (by omega) (fun h => absurd rfl h) (fun v' hv' => by
            obtain ⟨_, _, q⟩ := (i13F v').mp hv'
            cases g with
            | leaf => exact absurd i8 h5
            | inner gj gk gv gf gx =>
              obtain ⟨_, _, q, _⟩ := q
              cases q))
          intro _ h5 z hz
          rw [ej, e3] at hz
          have eg : g = .leaf := rf_nd_nil i8 h5
          subst eg
          have ew : w' = .leaf := i9
          have eM : M = .inner j k () f b := i7
          subst eM
          have ey : y' = .leaf := by
            rcases i6 with ⟨q, _⟩ | ⟨_, _, _, _, q⟩
            · omega
            · exact q
          have exw := i11 (by rw [ew, ey])
          subst exw hz
          have hv0 := i3.1
          have h58 := hI.fld 66 58 (by decide) rfl
          refine hK _ (by omega) (fun _ => ⟨⟨i3, fun m hm => ?_⟩, (i13F _).mpr ⟨rfl, List.not_mem_nil, rfl⟩⟩) (fun v' hv' => ((i13F v').mp hv').1)
          exact i12 m (i13 m hm)
end
section
/-! ===== the reference: what solving keeps. Ghosts: the body of an unknown, its names, which of its variables it uses ===== -/
abbrev rf_Gh : Type := (Int → rf_N) × (Int → rf_Y) × (Int → Nat → Prop)
/-- the q-th variable of node j; the q-th variable of a solved unknown; how many variables; the type of the q-th -/
def rf_rv1 (s : sx_S) (j q : Nat) : Int := s.2.1 105 (s.2.1 104 j + (q : Int)).toNat
def rf_fm (s : sx_S) (m : Int) (q : Nat) : Int := s.2.1 105 (s.2.1 112 m.toNat + (q : Int)).toNat
def rf_aa (s : sx_S) (m : Int) : Int := s.2.1 108 m.toNat
def rf_py (s : sx_S) (m : Int) (q : Nat) (x : rf_T) : Prop := (0 ≤ s.2.1 109 m.toNat ∧ s.2.1 109 m.toNat + (q : Int) < s.1 66 64) ∧ rf_is s x (s.2.1 110 (s.2.1 109 m.toNat + (q : Int)).toNat) ∧ rf_at x ≤ 5
/-- a variable below b -/
def rf_vb (b : Int) (s : sx_S) (v : Int) (x : rf_T) : Prop := (0 ≤ v ∧ v < b) ∧ rf_is s x (s.2.1 106 v.toNat)
theorem rf_vb_inj {b c : Int} {s : sx_S} {v : Int} {x y : rf_T} (h : rf_vb b s v x) (g : rf_vb c s v y) : x = y := rf_ty_inj h.2 g.2
theorem rf_py_inj {s : sx_S} {m : Int} {q : Nat} {x y : rf_T} (h : rf_py s m q x) (g : rf_py s m q y) : x = y := rf_ty_inj h.2.1 g.2.1
/-- the type of a head; N: variables that are no variables of the desk -/
def rf_Hn (b : Int) (s : sx_S) (N : Int → rf_T → Prop) (j : Nat) (k r : Int) (u : rf_T) : Prop := (k = 0 ∧ rf_vb b s r u) ∨ (k = 1 ∧ (0 ≤ r ∧ r < s.1 66 42) ∧ rf_is s u (s.2.1 96 r.toNat)) ∨ (k = 2 ∧ rf_vb b s r u) ∨ (k = 3 ∧ u = .leaf ∧ (0 ≤ r ∧ r < s.1 66 61) ∧ (0 ≤ s.2.1 104 j ∧ s.2.1 104 j + rf_aa s r ≤ s.1 66 56) ∧ ∀ q : Nat, (q : Int) < rf_aa s r → ∃ x, rf_py s r q x ∧ (rf_vb b s (rf_rv1 s j q) x ∨ N (rf_rv1 s j q) x))
/-- nothing below these marks has changed, and no solved unknown -/
def rf_EX (nb ib : Int) (s t : sx_S) : Prop := ((t.1 66 9 = s.1 66 9 ∧ t.2.1 72 = s.2.1 72 ∧ t.2.1 73 = s.2.1 73 ∧ t.2.1 96 = s.2.1 96 ∧ t.1 66 42 = s.1 66 42) ∧ s.1 66 50 ≤ t.1 66 50 ∧ s.1 66 56 ≤ t.1 66 56 ∧ s.1 66 61 ≤ t.1 66 61 ∧ s.1 66 64 ≤ t.1 66 64 ∧ s.1 66 70 ≤ t.1 66 70) ∧ ∀ j : Nat, ((j : Int) < s.1 66 50 → t.2.1 100 j = s.2.1 100 j ∧ t.2.1 101 j = s.2.1 101 j ∧ t.2.1 102 j = s.2.1 102 j ∧ t.2.1 103 j = s.2.1 103 j ∧ t.2.1 104 j = s.2.1 104 j) ∧ ((j : Int) < s.1 66 56 → t.2.1 105 j = s.2.1 105 j) ∧ ((j : Int) < ib → t.2.1 106 j = s.2.1 106 j) ∧ ((j : Int) < s.1 66 61 → t.2.1 108 j = s.2.1 108 j ∧ t.2.1 109 j = s.2.1 109 j ∧ (s.2.1 111 j ≠ 0 → t.2.1 111 j = s.2.1 111 j ∧ t.2.1 112 j = s.2.1 112 j ∧ t.2.1 113 j = s.2.1 113 j ∧ t.2.1 114 j = s.2.1 114 j)) ∧ ((j : Int) < s.1 66 64 → t.2.1 110 j = s.2.1 110 j) ∧ ((j : Int) < nb → t.2.1 115 j = s.2.1 115 j ∧ t.2.1 116 j = s.2.1 116 j ∧ t.2.1 117 j = s.2.1 117 j)
theorem rf_EX_refl (nb ib : Int) (s : sx_S) : rf_EX nb ib s s := ⟨⟨⟨rfl, rfl, rfl, rfl, rfl⟩, Int.le_refl _, Int.le_refl _, Int.le_refl _, Int.le_refl _, Int.le_refl _⟩, fun _ => ⟨fun _ => ⟨rfl, rfl, rfl, rfl, rfl⟩, fun _ => rfl, fun _ => rfl, fun _ => ⟨rfl, rfl, fun _ => ⟨rfl, rfl, rfl, rfl⟩⟩, fun _ => rfl, fun _ => ⟨rfl, rfl, rfl⟩⟩⟩
theorem rf_EX_trans {nb ib nb' ib' : Int} {s t u : sx_S} (h2 : rf_EX nb' ib' t u) (h1 : rf_EX nb ib s t) (hn : nb ≤ nb') (hi : ib ≤ ib') : rf_EX nb ib s u := by
  obtain ⟨⟨⟨a1, a2, a3, a4, a5⟩, a6, a7, a8, a9, a10⟩, a⟩ := h1
  obtain ⟨⟨⟨b1, b2, b3, b4, b5⟩, b6, b7, b8, b9, b10⟩, b⟩ := h2
  refine ⟨⟨⟨b1.trans a1, b2.trans a2, b3.trans a3, b4.trans a4, b5.trans a5⟩, by omega, by omega, by omega, by omega, by omega⟩, fun j => ?_⟩
  obtain ⟨c1, c2, c3, c4, c5, c6⟩ := a j
  obtain ⟨d1, d2, d3, d4, d5, d6⟩ := b j
  refine ⟨fun q => ?_, fun q => (d2 (by omega)).trans (c2 q), fun q => (d3 (by omega)).trans (c3 q), fun q => ?_, fun q => (d5 (by omega)).trans (c5 q), fun q => ?_⟩
  · obtain ⟨e1, e2, e3, e4, e5⟩ := c1 q
    obtain ⟨f1, f2, f3, f4, f5⟩ := d1 (by omega)
    exact ⟨f1.trans e1, f2.trans e2, f3.trans e3, f4.trans e4, f5.trans e5⟩
  · obtain ⟨e1, e2, e3⟩ := c4 q
    obtain ⟨f1, f2, f3⟩ := d4 (by omega)
    refine ⟨f1.trans e1, f2.trans e2, fun z => ?_⟩
    obtain ⟨g1, g2, g3, g4⟩ := e3 z
    obtain ⟨k1, k2, k3, k4⟩ := f3 (by rw [g1]; exact z)
    exact ⟨k1.trans g1, k2.trans g2, k3.trans g3, k4.trans g4⟩
  · obtain ⟨e1, e2, e3⟩ := c6 q
    obtain ⟨f1, f2, f3⟩ := d6 (by omega)
    exact ⟨f1.trans e1, f2.trans e2, f3.trans e3⟩
theorem rf_EX_le {nb ib nb' ib' : Int} {s t : sx_S} (h : rf_EX nb' ib' s t) (hn : nb ≤ nb') (hi : ib ≤ ib') : rf_EX nb ib s t := rf_EX_trans h (rf_EX_refl nb ib s) hn hi
theorem rf_EX.is {nb ib : Int} {s t : sx_S} (h : rf_EX nb ib s t) (x : rf_T) (z : Int) : rf_is t x z ↔ rf_is s x z := by
  obtain ⟨⟨⟨a1, a2, a3, _⟩, _⟩, _⟩ := h
  unfold rf_is
  rw [a1, a2, a3]
theorem rf_EX.vb {nb ib b : Int} {s t : sx_S} (h : rf_EX nb ib s t) (hb : b ≤ ib) (v : Int) (x : rf_T) : rf_vb b t v x ↔ rf_vb b s v x := by
  constructor
  · rintro ⟨⟨h1, h2⟩, h3⟩
    refine ⟨⟨h1, h2⟩, ?_⟩
    rw [← (h.2 v.toNat).2.2.1 (by omega)]
    exact (h.is x _).mp h3
  · rintro ⟨⟨h1, h2⟩, h3⟩
    refine ⟨⟨h1, h2⟩, ?_⟩
    rw [(h.2 v.toNat).2.2.1 (by omega)]
    exact (h.is x _).mpr h3
theorem rf_vb_le {b c : Int} {s : sx_S} {v : Int} {x : rf_T} (hb : b ≤ c) (h : rf_vb b s v x) : rf_vb c s v x := ⟨⟨h.1.1, by have := h.1.2; omega⟩, h.2⟩
theorem rf_EX.aa {nb ib : Int} {s t : sx_S} (h : rf_EX nb ib s t) {m : Int} (h0 : 0 ≤ m) (hm : m < s.1 66 61) : rf_aa t m = rf_aa s m := ((h.2 m.toNat).2.2.2.1 (by omega)).1
theorem rf_EX.pt {nb ib : Int} {s t : sx_S} (h : rf_EX nb ib s t) {m : Int} (h0 : 0 ≤ m) (hm : m < s.1 66 61) {q : Nat} {x : rf_T} (g : rf_py s m q x) : rf_py t m q x := by
  obtain ⟨⟨g1, g2⟩, g3, g4⟩ := g
  have e := ((h.2 m.toNat).2.2.2.1 (by omega)).2.1
  have e2 := h.1.2.2.2.2.1
  refine ⟨⟨by omega, by omega⟩, ?_, g4⟩
  rw [e, (h.2 _).2.2.2.2.1 (by omega)]
  exact (h.is x _).mpr g3
theorem rf_EX.ptR {nb ib : Int} {s t : sx_S} (h : rf_EX nb ib s t) {m : Int} (h0 : 0 ≤ m) (hm : m < s.1 66 61) {q : Nat} {x y : rf_T} (g : rf_py s m q y) (k : rf_py t m q x) : rf_py s m q x := by
  have := rf_py_inj (h.pt h0 hm g) k
  rw [← this]
  exact g
theorem rf_EX.rv {nb ib : Int} {s t : sx_S} (h : rf_EX nb ib s t) {j q : Nat} (hj : (j : Int) < s.1 66 50) (h0 : 0 ≤ s.2.1 104 j) (hq : s.2.1 104 j + (q : Int) < s.1 66 56) : rf_rv1 t j q = rf_rv1 s j q := by
  unfold rf_rv1
  rw [((h.2 j).1 hj).2.2.2.2]
  exact (h.2 _).2.1 (by omega)
theorem rf_EX.fm {nb ib : Int} {s t : sx_S} (h : rf_EX nb ib s t) {m : Int} (h0 : 0 ≤ m) (hm : m < s.1 66 61) (hs : s.2.1 111 m.toNat ≠ 0) {q : Nat} (h1 : 0 ≤ s.2.1 112 m.toNat) (hq : s.2.1 112 m.toNat + (q : Int) < s.1 66 56) : rf_fm t m q = rf_fm s m q := by
  unfold rf_fm
  rw [(((h.2 m.toNat).2.2.2.1 (by omega)).2.2 hs).2.1]
  exact (h.2 _).2.1 (by omega)
theorem rf_EX.no {nb ib : Int} {s t : sx_S} (h : rf_EX nb ib s t) {n : rf_N} {i : Int} (g : rf_no s n i) : rf_no t n i := rf_nd_up h.1.2.1 (fun j hj => by
  obtain ⟨e1, e2, e3, e4, _⟩ := (h.2 j).1 hj
  exact ⟨e1, e2, e3, e4⟩) g
theorem rf_Hn_up {nb ib ib' : Int} {s t : sx_S} {N N' : Int → rf_T → Prop} (h : rf_EX nb ib s t) (hb : ib ≤ ib') (hN : ∀ v x, N v x → N' v x) {j : Nat} (hj : (j : Int) < s.1 66 50) {k r : Int} {u : rf_T} (g : rf_Hn ib s N j k r u) : rf_Hn ib' t N' j k r u := by
  rcases g with ⟨g1, g2⟩ | ⟨g1, g2, g3⟩ | ⟨g1, g2⟩ | ⟨g1, g2, g3, g4, g5⟩
  · exact Or.inl ⟨g1, rf_vb_le hb ((h.vb (Int.le_refl _) _ _).mpr g2)⟩
  · refine Or.inr (Or.inl ⟨g1, by rw [h.1.1.2.2.2.2]; exact g2, ?_⟩)
    rw [h.1.1.2.2.2.1]
    exact (h.is _ _).mpr g3
  · exact Or.inr (Or.inr (Or.inl ⟨g1, rf_vb_le hb ((h.vb (Int.le_refl _) _ _).mpr g2)⟩))
  · have e1 := h.aa g3.1 g3.2
    have e2 := ((h.2 j).1 hj).2.2.2.2
    have e3 := h.1.2.2.1
    have e4 := h.1.2.2.2.1
    refine Or.inr (Or.inr (Or.inr ⟨g1, g2, ⟨g3.1, by omega⟩, ⟨by omega, by omega⟩, fun q hq => ?_⟩))
    obtain ⟨x, x1, x2⟩ := g5 q (by omega)
    rw [h.rv hj g4.1 (by omega)]
    refine ⟨x, h.pt g3.1 g3.2 x1, ?_⟩
    rcases x2 with x2 | x2
    · exact Or.inl (rf_vb_le hb ((h.vb (Int.le_refl _) _ _).mpr x2))
    · exact Or.inr (hN _ _ x2)
theorem rf_gn_up {nb ib ib' : Int} {s t : sx_S} {N N' : Int → rf_T → Prop} (h : rf_EX nb ib s t) (hb : ib ≤ ib') (hN : ∀ v x, N v x → N' v x) {n : rf_N} {i : Int} (hn : rf_no s n i) : (∀ x, (rf_gt (rf_Hn ib s N) rf_P n).1 x → (rf_gt (rf_Hn ib' t N') rf_P n).1 x) ∧ (∀ x y, (rf_gt (rf_Hn ib s N) rf_P n).2 x y → (rf_gt (rf_Hn ib' t N') rf_P n).2 x y) :=
  rf_gt_mono (fun j hj => ⟨fun k r u g => rf_Hn_up h hb hN (rf_nd_lt hn j hj) g, fun _ g => g⟩)
/-! all unknowns of a tree -/
def rf_am (p : Nat → Int → Prop) : rf_N → Prop × Prop
  | .leaf => (True, True)
  | .inner j k _ f x => ((k.1 = 3 → p j k.2) ∧ (k.1 = 0 → (rf_am p f).1) ∧ (k.1 = 1 ∨ k.1 = 2 → (rf_am p f).2), ((k.1 = 3 → p j k.2) ∧ (k.1 = 0 → (rf_am p f).1) ∧ (k.1 = 1 ∨ k.1 = 2 → (rf_am p f).2)) ∧ (rf_am p x).2)
theorem rf_am_mono {p p' : Nat → Int → Prop} : ∀ {n : rf_N}, (∀ j ∈ rf_idx n, ∀ r, p j r → p' j r) → ((rf_am p n).1 → (rf_am p' n).1) ∧ ((rf_am p n).2 → (rf_am p' n).2)
  | .leaf, _ => ⟨fun h => h, fun h => h⟩
  | .inner j k u f x, hM => by
    have hf := rf_am_mono (n := f) (fun q hq => hM q (List.mem_cons_of_mem _ (List.mem_append_left _ hq)))
    have hx := rf_am_mono (n := x) (fun q hq => hM q (List.mem_cons_of_mem _ (List.mem_append_right _ hq)))
    have hj := hM j List.mem_cons_self
    have h1 : (rf_am p (.inner j k u f x)).1 → (rf_am p' (.inner j k u f x)).1 := fun ⟨a, b, c⟩ => ⟨fun q => hj _ (a q), fun q => hf.1 (b q), fun q => hf.2 (c q)⟩
    exact ⟨h1, fun ⟨a, b⟩ => ⟨h1 a, hx.2 b⟩⟩
/-- what holds of all unknowns, twice -/
theorem rf_am_and {p p' p2 : Nat → Int → Prop} (hp : ∀ j r, p j r → p' j r → p2 j r) : ∀ {n : rf_N}, ((rf_am p n).1 → (rf_am p' n).1 → (rf_am p2 n).1) ∧ ((rf_am p n).2 → (rf_am p' n).2 → (rf_am p2 n).2)
  | .leaf => ⟨fun h _ => h, fun h _ => h⟩
  | .inner j k u f x => by
    have hf := rf_am_and hp (n := f)
    have hx := rf_am_and hp (n := x)
    have h1 : (rf_am p (.inner j k u f x)).1 → (rf_am p' (.inner j k u f x)).1 → (rf_am p2 (.inner j k u f x)).1 := fun ⟨a, b, c⟩ ⟨a', b', c'⟩ => ⟨fun q => hp _ _ (a q) (a' q), fun q => hf.1 (b q) (b' q), fun q => hf.2 (c q) (c' q)⟩
    exact ⟨h1, fun ⟨a, b⟩ ⟨a', b'⟩ => ⟨h1 a a', hx.2 b b'⟩⟩
theorem rf_am_gt {H : Nat → Int → Int → rf_T → Prop} {P : Nat → rf_T → Prop} {p : Nat → Int → Prop} (hp : ∀ j r u, H j 3 r u → p j r) : ∀ {n : rf_N}, (∀ x, (rf_gt H P n).1 x → (rf_am p n).1) ∧ (∀ x y, (rf_gt H P n).2 x y → (rf_am p n).2)
  | .leaf => ⟨fun _ _ => trivial, fun _ _ _ => trivial⟩
  | .inner j k u f x => by
    have hf := rf_am_gt hp (P := P) (n := f)
    have hx := rf_am_gt hp (P := P) (n := x)
    have h1 : ∀ t, (rf_gt H P (.inner j k u f x)).1 t → (rf_am p (.inner j k u f x)).1 := by
      rintro t (⟨e, A, B, _, _, q3⟩ | ⟨e, w, q1, q2, _⟩)
      · exact ⟨fun q => by omega, fun _ => hf.1 _ q3, fun q => by omega⟩
      · refine ⟨fun q => ?_, fun q => absurd q e, fun _ => hf.2 _ _ q2⟩
        rw [q] at q1
        exact hp _ _ _ q1
    refine ⟨h1, ?_⟩
    rintro w t ⟨A, B, _, q2, q3⟩
    exact ⟨h1 A q2, hx.2 _ _ q3⟩
/-! the variables that stand free in a tree; W: those of an unknown -/
def rf_fo (W : Nat → Int → Int → Prop) : rf_N → (Int → Prop) × (Int → Prop)
  | .leaf => (fun _ => False, fun _ => False)
  | .inner j k _ f x => (fun v => (k.1 = 3 ∧ W j k.2 v) ∨ (k.1 = 0 ∧ v ≠ k.2 ∧ (rf_fo W f).1 v) ∨ ((k.1 = 1 ∨ k.1 = 2) ∧ ((k.1 = 2 ∧ v = k.2) ∨ (rf_fo W f).2 v)), fun v => ((k.1 = 3 ∧ W j k.2 v) ∨ (k.1 = 0 ∧ v ≠ k.2 ∧ (rf_fo W f).1 v) ∨ ((k.1 = 1 ∨ k.1 = 2) ∧ ((k.1 = 2 ∧ v = k.2) ∨ (rf_fo W f).2 v))) ∨ (rf_fo W x).2 v)
theorem rf_fo_mono {W W' : Nat → Int → Int → Prop} : ∀ {n : rf_N}, ((rf_am (fun j r => ∀ v, W' j r v → W j r v) n).1 → ∀ v, (rf_fo W' n).1 v → (rf_fo W n).1 v) ∧ ((rf_am (fun j r => ∀ v, W' j r v → W j r v) n).2 → ∀ v, (rf_fo W' n).2 v → (rf_fo W n).2 v)
  | .leaf => ⟨fun _ _ h => h, fun _ _ h => h⟩
  | .inner j k u f x => by
    have hf := rf_fo_mono (W := W) (W' := W') (n := f)
    have hx := rf_fo_mono (W := W) (W' := W') (n := x)
    have h1 : (rf_am (fun j r => ∀ v, W' j r v → W j r v) (.inner j k u f x)).1 → ∀ v, (rf_fo W' (.inner j k u f x)).1 v → (rf_fo W (.inner j k u f x)).1 v := by
      rintro ⟨a, b, d⟩ v (⟨e, h⟩ | ⟨e, h0, h⟩ | ⟨e, h⟩)
      · exact Or.inl ⟨e, a e v h⟩
      · exact Or.inr (Or.inl ⟨e, h0, hf.1 (b e) v h⟩)
      · exact Or.inr (Or.inr ⟨e, h.elim Or.inl (fun z => Or.inr (hf.2 (d e) v z))⟩)
    refine ⟨h1, ?_⟩
    rintro ⟨a, b⟩ v (h | h)
    · exact Or.inl (h1 a v h)
    · exact Or.inr (hx.2 b v h)
/-- a free variable is typed -/
theorem rf_fo_ty {ib : Int} {s : sx_S} {N : Int → rf_T → Prop} {P : Nat → rf_T → Prop} {W : Nat → Int → Int → Prop} : ∀ {n : rf_N}, (∀ x, (rf_gt (rf_Hn ib s N) P n).1 x → (rf_am (fun j r => ∀ v, W j r v → ∃ q : Nat, (q : Int) < rf_aa s r ∧ v = rf_rv1 s j q) n).1 → ∀ v, (rf_fo W n).1 v → ∃ T, rf_vb ib s v T ∨ N v T) ∧ (∀ x y, (rf_gt (rf_Hn ib s N) P n).2 x y → (rf_am (fun j r => ∀ v, W j r v → ∃ q : Nat, (q : Int) < rf_aa s r ∧ v = rf_rv1 s j q) n).2 → ∀ v, (rf_fo W n).2 v → ∃ T, rf_vb ib s v T ∨ N v T)
  | .leaf => ⟨fun _ _ _ _ h => h.elim, fun _ _ _ _ _ h => h.elim⟩
  | .inner j k u f x => by
    have hf := rf_fo_ty (ib := ib) (s := s) (N := N) (P := P) (W := W) (n := f)
    have hx := rf_fo_ty (ib := ib) (s := s) (N := N) (P := P) (W := W) (n := x)
    have h1 : ∀ t, (rf_gt (rf_Hn ib s N) P (.inner j k u f x)).1 t → (rf_am (fun j r => ∀ v, W j r v → ∃ q : Nat, (q : Int) < rf_aa s r ∧ v = rf_rv1 s j q) (.inner j k u f x)).1 → ∀ v, (rf_fo W (.inner j k u f x)).1 v → ∃ T, rf_vb ib s v T ∨ N v T := by
      rintro t g ⟨a, b, d⟩ v h
      rcases g with ⟨e, A, B, q1, q2, q3⟩ | ⟨e, w, q1, q2, q3⟩
      · rcases h with ⟨e2, h⟩ | ⟨e2, h0, h⟩ | ⟨e2, h⟩
        · omega
        · exact hf.1 _ q3 (b e) v h
        · omega
      · rcases h with ⟨e2, h⟩ | ⟨e2, h0, h⟩ | ⟨e2, h⟩
        · obtain ⟨q, z1, z2⟩ := a e2 v h
          rcases q1 with ⟨c1, _⟩ | ⟨c1, _⟩ | ⟨c1, _⟩ | ⟨c1, c2, c3, c4, c5⟩
          · omega
          · omega
          · omega
          · obtain ⟨T, _, t2⟩ := c5 q z1
            rw [z2]
            exact ⟨T, t2⟩
        · omega
        · rcases h with ⟨e3, h⟩ | h
          · rcases q1 with ⟨c1, _⟩ | ⟨c1, _⟩ | ⟨c1, c2⟩ | ⟨c1, _⟩
            · omega
            · omega
            · rw [h]
              exact ⟨w, Or.inl c2⟩
            · omega
          · exact hf.2 _ _ q2 (d e2) v h
    refine ⟨h1, ?_⟩
    rintro w t ⟨A, B, _, q2, q3⟩ ⟨a, b⟩ v (h | h)
    · exact h1 A q2 a v h
    · exact hx.2 _ _ q3 b v h
/-- the used variables of an unknown at a node; they are distinct -/
def rf_Wd (s : sx_S) (U : Int → Nat → Prop) (j : Nat) (r v : Int) : Prop := ∃ q : Nat, U r q ∧ v = rf_rv1 s j q
def rf_di (s : sx_S) (U : Int → Nat → Prop) (j : Nat) (r : Int) : Prop := ∀ p q : Nat, U r p → U r q → rf_rv1 s j p = rf_rv1 s j q → p = q
/-- variables of an unknown that were narrowed away -/
def rf_Nx (s : sx_S) (x v : Int) (T : rf_T) : Prop := v < 0 ∧ ∃ q : Nat, (q : Int) < rf_aa s x ∧ v = rf_fm s x q ∧ rf_py s x q T
/-- a row of names, looked up -/
theorem rf_row_look {f t : Nat → Int} {q : Nat} : ∀ {n : Nat}, (∀ a b, a < n → b < n → f a = f b → a = b) → q < n → rf_look (rf_row f t n) (f q) = t q
  | 0, _, h => absurd h (Nat.not_lt_zero _)
  | n + 1, hi, h => by
    show (if f n = f q then t n else rf_look (rf_row f t n) (f q)) = t q
    by_cases e : n = q
    · subst e
      rw [if_pos rfl]
    · rw [if_neg (fun z => e (hi n q (by omega) h z))]
      exact rf_row_look (fun a b ha hb => hi a b (by omega) (by omega)) (by omega)
end
section
/-! ===== the reference: the unknowns, solved and open ===== -/
/-- it is an unknown -/
def rf_k3 : rf_N → Prop
  | .leaf => False
  | .inner _ k _ _ _ => k.1 = 3
def rf_SV (nb ib : Int) (s : sx_S) (g : rf_Gh) (x : Int) : Prop := (rf_no s (g.1 x) (s.2.1 113 x.toNat) ∧ (rf_gt (rf_Hn ib s (rf_Nx s x)) rf_P (g.1 x)).1 .leaf ∧ (rf_wh (g.1 x)).1 ≤ 200 ∧ (rf_am (rf_di s g.2.2) (g.1 x)).1) ∧ (rf_by (s.2.1 115) (s.2.1 116) (s.2.1 117) nb (g.2.1 x) (s.2.1 114 x.toNat) ∧ rf_bd ib (g.2.1 x) ∧ rf_ok (rf_vb ib s) (fun _ _ => False) (g.2.1 x) ∧ (rf_dp (g.2.1 x) : Int) + 1 ≤ s.1 66 70) ∧ ((0 ≤ s.2.1 112 x.toNat ∧ s.2.1 112 x.toNat + rf_aa s x ≤ s.1 66 56) ∧ (∀ q : Nat, (q : Int) < rf_aa s x → (∃ T, rf_py s x q T ∧ rf_vb ib s (rf_fm s x q) T) ∨ rf_fm s x q = -2 - (q : Int)) ∧ ((g.2.1 x = .leaf ∧ rf_k3 (g.1 x)) ∨ ∀ q : Nat, (q : Int) < rf_aa s x → 0 ≤ rf_fm s x q) ∧ (∀ p q : Nat, (p : Int) < rf_aa s x → (q : Int) < rf_aa s x → rf_fm s x p = rf_fm s x q → p = q)) ∧ (∀ v, (rf_fo (rf_Wd s g.2.2) (g.1 x)).1 v → ∃ q : Nat, g.2.2 x q ∧ rf_look (g.2.1 x) v = rf_fm s x q) ∧ (∀ v w, (rf_fo (rf_Wd s g.2.2) (g.1 x)).1 v → (rf_fo (rf_Wd s g.2.2) (g.1 x)).1 w → rf_look (g.2.1 x) v = rf_look (g.2.1 x) w → v = w)
/-- from unknown to unknown -/
def rf_Ed (s : sx_S) (g : rf_Gh) (x z : Int) : Prop := (0 ≤ x ∧ x < s.1 66 61) ∧ s.2.1 111 x.toNat ≠ 0 ∧ (rf_oc (g.1 x)).1 z
def rf_MX (nb ib : Int) (s : sx_S) (g : rf_Gh) (x : Int) : Prop := (∀ q : Nat, (q : Int) < rf_aa s x → ∃ T, rf_py s x q T) ∧ (∀ q : Nat, g.2.2 x q → (q : Int) < rf_aa s x) ∧ (s.2.1 111 x.toNat = 0 → ∀ q : Nat, (q : Int) < rf_aa s x → g.2.2 x q) ∧ (s.2.1 111 x.toNat ≠ 0 → rf_SV nb ib s g x)
def rf_MI (nb ib : Int) (s : sx_S) (g : rf_Gh) : Prop := (∀ x : Int, 0 ≤ x → x < s.1 66 61 → rf_MX nb ib s g x) ∧ ∀ x, ¬ rf_rc (rf_Ed s g) x x
/-- where the variables of a node's unknown lie -/
def rf_bn (s : sx_S) (j : Nat) (r : Int) : Prop := (j : Int) < s.1 66 50 ∧ (0 ≤ r ∧ r < s.1 66 61) ∧ (0 ≤ s.2.1 104 j ∧ s.2.1 104 j + rf_aa s r ≤ s.1 66 56)
theorem rf_Hn_3 {ib : Int} {s : sx_S} {N : Int → rf_T → Prop} {j : Nat} {k r : Int} {u : rf_T} (h : rf_Hn ib s N j k r u) (hk : k = 3) : u = .leaf ∧ (0 ≤ r ∧ r < s.1 66 61) ∧ (0 ≤ s.2.1 104 j ∧ s.2.1 104 j + rf_aa s r ≤ s.1 66 56) ∧ ∀ q : Nat, (q : Int) < rf_aa s r → ∃ x, rf_py s r q x ∧ (rf_vb ib s (rf_rv1 s j q) x ∨ N (rf_rv1 s j q) x) := by
  rcases h with ⟨c, _⟩ | ⟨c, _⟩ | ⟨c, _⟩ | ⟨_, h⟩
  · omega
  · omega
  · omega
  · exact h
theorem rf_Hn_02 {ib : Int} {s : sx_S} {N : Int → rf_T → Prop} {j : Nat} {k r : Int} {u : rf_T} (h : rf_Hn ib s N j k r u) (hk : k = 0 ∨ k = 2) : rf_vb ib s r u := by
  rcases h with ⟨_, h⟩ | ⟨c, _⟩ | ⟨_, h⟩ | ⟨c, _⟩
  · exact h
  · omega
  · exact h
  · omega
theorem rf_Hn_1 {ib : Int} {s : sx_S} {N : Int → rf_T → Prop} {j : Nat} {k r : Int} {u : rf_T} (h : rf_Hn ib s N j k r u) (hk : k = 1) : (0 ≤ r ∧ r < s.1 66 42) ∧ rf_is s u (s.2.1 96 r.toNat) := by
  rcases h with ⟨c, _⟩ | ⟨_, h⟩ | ⟨c, _⟩ | ⟨c, _⟩
  · omega
  · exact h
  · omega
  · omega
theorem rf_Hn_k {ib : Int} {s : sx_S} {N : Int → rf_T → Prop} {j : Nat} {k r : Int} {u : rf_T} (h : rf_Hn ib s N j k r u) : k = 0 ∨ k = 1 ∨ k = 2 ∨ k = 3 := by
  rcases h with ⟨c, _⟩ | ⟨c, _⟩ | ⟨c, _⟩ | ⟨c, _⟩
  · exact Or.inl c
  · exact Or.inr (Or.inl c)
  · exact Or.inr (Or.inr (Or.inl c))
  · exact Or.inr (Or.inr (Or.inr c))
theorem rf_bn_gn {ib : Int} {s : sx_S} {N : Int → rf_T → Prop} {n : rf_N} {i : Int} (hn : rf_no s n i) : (∀ x, (rf_gt (rf_Hn ib s N) rf_P n).1 x → (rf_am (rf_bn s) n).1) ∧ (∀ x y, (rf_gt (rf_Hn ib s N) rf_P n).2 x y → (rf_am (rf_bn s) n).2) := by
  have h1 := rf_am_gt (H := rf_Hn ib s N) (P := rf_P) (p := fun j r => (0 ≤ r ∧ r < s.1 66 61) ∧ (0 ≤ s.2.1 104 j ∧ s.2.1 104 j + rf_aa s r ≤ s.1 66 56)) (fun j r u g => by
    obtain ⟨_, g1, g2, _⟩ := rf_Hn_3 g rfl
    exact ⟨g1, g2⟩) (n := n)
  have h2 := rf_am_mono (p := fun j r => (0 ≤ r ∧ r < s.1 66 61) ∧ (0 ≤ s.2.1 104 j ∧ s.2.1 104 j + rf_aa s r ≤ s.1 66 56)) (p' := rf_bn s) (n := n) (fun j hj r g => ⟨rf_nd_lt hn j hj, g⟩)
  exact ⟨fun x g => h2.1 (h1.1 x g), fun x y g => h2.2 (h1.2 x y g)⟩
/-- free variables of an older state -/
theorem rf_Wd_up {nb ib : Int} {s t : sx_S} (h : rf_EX nb ib s t) {U U' : Int → Nat → Prop} (hU : ∀ r q, 0 ≤ r → r < s.1 66 61 → U' r q → U r q ∧ (q : Int) < rf_aa s r) {n : rf_N} : ((rf_am (rf_bn s) n).1 → ∀ v, (rf_fo (rf_Wd t U') n).1 v → (rf_fo (rf_Wd s U) n).1 v) ∧ ((rf_am (rf_bn s) n).2 → ∀ v, (rf_fo (rf_Wd t U') n).2 v → (rf_fo (rf_Wd s U) n).2 v) := by
  have hm : ∀ j ∈ rf_idx n, ∀ r, rf_bn s j r → ∀ v, rf_Wd t U' j r v → rf_Wd s U j r v := by
    rintro j _ r ⟨b1, b2, b3, b4⟩ v ⟨q, q1, q2⟩
    obtain ⟨u1, u2⟩ := hU r q b2.1 b2.2 q1
    exact ⟨q, u1, by rw [q2]; exact h.rv b1 b3 (by omega)⟩
  have h2 := rf_am_mono (p := rf_bn s) (p' := fun j r => ∀ v, rf_Wd t U' j r v → rf_Wd s U j r v) (n := n) hm
  have h3 := rf_fo_mono (W := rf_Wd s U) (W' := rf_Wd t U') (n := n)
  exact ⟨fun g => h3.1 (h2.1 g), fun g => h3.2 (h2.2 g)⟩
theorem rf_di_up {nb ib : Int} {s t : sx_S} (h : rf_EX nb ib s t) {U U' : Int → Nat → Prop} (hU : ∀ r q, 0 ≤ r → r < s.1 66 61 → U' r q → U r q ∧ (q : Int) < rf_aa s r) {n : rf_N} : ((rf_am (rf_bn s) n).1 → (rf_am (rf_di s U) n).1 → (rf_am (rf_di t U') n).1) ∧ ((rf_am (rf_bn s) n).2 → (rf_am (rf_di s U) n).2 → (rf_am (rf_di t U') n).2) := by
  refine rf_am_and (p := rf_bn s) (p' := rf_di s U) (fun j r => ?_)
  rintro ⟨b1, b2, b3, b4⟩ hd p q h1 h2 h3
  obtain ⟨u1, u2⟩ := hU r p b2.1 b2.2 h1
  obtain ⟨u3, u4⟩ := hU r q b2.1 b2.2 h2
  rw [h.rv b1 b3 (by omega), h.rv b1 b3 (by omega)] at h3
  exact hd p q u1 u3 h3
theorem rf_okV_up {nb ib ib' : Int} {s t : sx_S} (h : rf_EX nb ib s t) (hi : ib ≤ ib') {N : Int → rf_T → Prop} {y : rf_Y} (hb : rf_bd ib y) (k : rf_ok (rf_vb ib s) N y) : rf_ok (rf_vb ib' t) N y :=
  rf_ok_ext (ty := fun v x => rf_is s x (s.2.1 106 v.toNat)) (ty' := fun v x => rf_is t x (t.2.1 106 v.toNat)) (b := ib) (b' := ib') k hb (fun v x h0 h1 => by
    show rf_is t x (t.2.1 106 v.toNat) ↔ rf_is s x (s.2.1 106 v.toNat)
    rw [(h.2 v.toNat).2.2.1 (by omega)]
    exact h.is x _) hi
theorem rf_SV_up {nb ib nb' ib' : Int} {s t : sx_S} {g g' : rf_Gh} {x : Int} (h : rf_EX nb ib s t) (hn : nb ≤ nb') (hi : ib ≤ ib') (h0 : 0 ≤ x) (hm : x < s.1 66 61) (hs : s.2.1 111 x.toNat ≠ 0) (hU : ∀ r q, 0 ≤ r → r < s.1 66 61 → g'.2.2 r q → g.2.2 r q ∧ (q : Int) < rf_aa s r) (e1 : g'.1 x = g.1 x) (e2 : g'.2.1 x = g.2.1 x) (hx : ∀ v, (rf_fo (rf_Wd t g'.2.2) (g.1 x)).1 v → ∀ q, g.2.2 x q → rf_look (g.2.1 x) v = rf_fm s x q → g'.2.2 x q) (k : rf_SV nb ib s g x) : rf_SV nb' ib' t g' x := by
  obtain ⟨⟨a1, a2, a3, a4⟩, ⟨b1, b2, b3, b4⟩, ⟨⟨c1, c2⟩, c3, c4, c5⟩, d1, d2⟩ := k
  have eaa := h.aa h0 hm
  have e7 := h.1.2.2.1
  have e8 := h.1.2.2.2.2.2
  obtain ⟨f1, f2, f3, f4⟩ := ((h.2 x.toNat).2.2.2.1 (by omega)).2.2 hs
  have efm : ∀ q : Nat, (q : Int) < rf_aa s x → rf_fm t x q = rf_fm s x q := fun q hq => h.fm h0 hm hs c1 (by omega)
  have hbn := (rf_bn_gn a1).1 _ a2
  have hfo := (rf_Wd_up h hU (n := g.1 x)).1 hbn
  unfold rf_SV
  rw [e1, e2, f2, f3, f4, eaa]
  refine ⟨⟨h.no a1, ?_, a3, (rf_di_up h hU).1 hbn a4⟩, ⟨rf_by_mono (fun j hj => (h.2 j).2.2.2.2.2 hj) hn b1, rf_bd_mono hi b2, rf_okV_up h hi b2 b3, by omega⟩, ⟨⟨c1, by omega⟩, fun q hq => ?_, ?_, fun p q hp hq z => ?_⟩, fun v hv => ?_, fun v w hv hw => d2 v w (hfo v hv) (hfo w hw)⟩
  · refine (rf_gn_up h hi (fun v T => ?_) a1).1 _ a2
    rintro ⟨n1, q, n2, n3, n4⟩
    exact ⟨n1, q, by omega, by rw [efm q n2]; exact n3, h.pt h0 hm n4⟩
  · rw [efm q hq]
    rcases c3 q hq with ⟨T, t1, t2⟩ | z
    · exact Or.inl ⟨T, h.pt h0 hm t1, rf_vb_le hi ((h.vb (Int.le_refl _) _ _).mpr t2)⟩
    · exact Or.inr z
  · rcases c4 with z | z
    · exact Or.inl z
    · exact Or.inr (fun q hq => by rw [efm q hq]; exact z q hq)
  · rw [efm p hp, efm q hq] at z
    exact c5 p q hp hq z
  · obtain ⟨q, q1, q2⟩ := d1 v (hfo v hv)
    have q3 := hx v hv q q1 q2
    have q4 := (hU x q h0 hm q3).2
    exact ⟨q, q3, by rw [efm q q4]; exact q2⟩
/-- the ghosts of what was solved stay; no more variables are used -/
def rf_EG (s : sx_S) (g g' : rf_Gh) : Prop := ∀ z : Int, 0 ≤ z → z < s.1 66 61 → (s.2.1 111 z.toNat ≠ 0 → g'.1 z = g.1 z ∧ g'.2.1 z = g.2.1 z) ∧ ∀ q, g'.2.2 z q → g.2.2 z q
theorem rf_EG_refl (s : sx_S) (g : rf_Gh) : rf_EG s g g := fun _ _ _ => ⟨fun _ => ⟨rfl, rfl⟩, fun _ h => h⟩
theorem rf_EG_trans {nb ib : Int} {s t : sx_S} {g g' g2 : rf_Gh} (h : rf_EX nb ib s t) (h2 : rf_EG t g' g2) (h1 : rf_EG s g g') : rf_EG s g g2 := by
  intro z z0 z1
  have e8 := h.1.2.2.2.1
  obtain ⟨a1, a2⟩ := h1 z z0 z1
  obtain ⟨b1, b2⟩ := h2 z z0 (by omega)
  refine ⟨fun q => ?_, fun q hq => a2 q (b2 q hq)⟩
  obtain ⟨c1, c2⟩ := a1 q
  have e := ((h.2 z.toNat).2.2.2.1 (by omega)).2.2 q
  obtain ⟨d1, d2⟩ := b1 (by rw [e.1]; exact q)
  exact ⟨d1.trans c1, d2.trans c2⟩
theorem rf_Ed_up {nb ib : Int} {s t : sx_S} {g g' : rf_Gh} (h : rf_EX nb ib s t) (hg : rf_EG s g g') {a b : Int} (k : rf_Ed s g a b) : rf_Ed t g' a b := by
  obtain ⟨⟨k1, k2⟩, k3, k4⟩ := k
  have e8 := h.1.2.2.2.1
  have e := ((h.2 a.toNat).2.2.2.1 (by omega)).2.2 k3
  refine ⟨⟨k1, by omega⟩, by rw [e.1]; exact k3, ?_⟩
  rw [((hg a k1 k2).1 k3).1]
  exact k4
theorem rf_rc_up {nb ib : Int} {s t : sx_S} {g g' : rf_Gh} (h : rf_EX nb ib s t) (hg : rf_EG s g g') {a b : Int} (k : rf_rc (rf_Ed s g) a b) : rf_rc (rf_Ed t g') a b := rf_rc_mono (fun _ _ q => rf_Ed_up h hg q) k
/-- nothing is solved -/
theorem rf_MI_up {nb ib nb' ib' : Int} {s t : sx_S} {g : rf_Gh} (h : rf_EX nb ib s t) (hn : nb ≤ nb') (hi : ib ≤ ib') (e61 : t.1 66 61 = s.1 66 61) (e111 : ∀ j : Nat, (j : Int) < s.1 66 61 → t.2.1 111 j = s.2.1 111 j) (k : rf_MI nb ib s g) : rf_MI nb' ib' t g := by
  refine ⟨fun x h0 hm => ?_, fun x q => k.2 x (rf_rc_mono (fun a b z => ?_) q)⟩
  · rw [e61] at hm
    obtain ⟨k1, k2, k3, k4⟩ := k.1 x h0 hm
    have eaa := h.aa h0 hm
    have e1 := e111 x.toNat (by omega)
    refine ⟨fun q hq => ?_, fun q hq => ?_, fun z q hq => k3 (by rw [← e1]; exact z) q (by omega), fun z => ?_⟩
    · obtain ⟨T, hT⟩ := k1 q (by omega)
      exact ⟨T, h.pt h0 hm hT⟩
    · have := k2 q hq
      omega
    · rw [e1] at z
      exact rf_SV_up h hn hi h0 hm z (fun r q r0 r1 hq => ⟨hq, (k.1 r r0 r1).2.1 q hq⟩) rfl rfl (fun v _ q hq _ => hq) (k4 z)
  · obtain ⟨⟨z1, z2⟩, z3, z4⟩ := z
    rw [e61] at z2
    exact ⟨⟨z1, z2⟩, by rw [← e111 a.toNat (by omega)]; exact z3, z4⟩
/-- a new unknown -/
theorem rf_MI_new {nb ib nb' ib' : Int} {s t : sx_S} {g g' : rf_Gh} (h : rf_EX nb ib s t) (hn : nb ≤ nb') (hi : ib ≤ ib') (r61 : 0 ≤ s.1 66 61) (e61 : t.1 66 61 = s.1 66 61 + 1) (e111 : ∀ j : Nat, (j : Int) < s.1 66 61 → t.2.1 111 j = s.2.1 111 j) (eh : t.2.1 111 (s.1 66 61).toNat = 0) (hp : ∀ q : Nat, (q : Int) < rf_aa t (s.1 66 61) → ∃ T, rf_py t (s.1 66 61) q T) (g1 : g'.1 = g.1) (g2 : g'.2.1 = g.2.1) (g3 : ∀ r, r ≠ s.1 66 61 → g'.2.2 r = g.2.2 r) (g4 : ∀ q : Nat, g'.2.2 (s.1 66 61) q ↔ (q : Int) < rf_aa t (s.1 66 61)) (k : rf_MI nb ib s g) : rf_MI nb' ib' t g' ∧ rf_EG s g g' := by
  have hEG : rf_EG s g g' := fun z z0 z1 => ⟨fun _ => ⟨by rw [g1], by rw [g2]⟩, fun q hq => by rw [g3 z (by omega)] at hq; exact hq⟩
  refine ⟨⟨fun x h0 hm => ?_, fun x q => k.2 x (rf_rc_mono (fun a b z => ?_) q)⟩, hEG⟩
  · by_cases hx : x = s.1 66 61
    · subst hx
      exact ⟨hp, fun q hq => (g4 q).mp hq, fun _ q hq => (g4 q).mpr hq, fun z => absurd eh z⟩
    · have hm2 : x < s.1 66 61 := by omega
      obtain ⟨k1, k2, k3, k4⟩ := k.1 x h0 hm2
      have eaa := h.aa h0 hm2
      have e1 := e111 x.toNat (by omega)
      refine ⟨fun q hq => ?_, fun q hq => ?_, fun z q hq => ?_, fun z => ?_⟩
      · obtain ⟨T, hT⟩ := k1 q (by omega)
        exact ⟨T, h.pt h0 hm2 hT⟩
      · rw [g3 x hx] at hq
        have := k2 q hq
        omega
      · rw [g3 x hx]
        exact k3 (by rw [← e1]; exact z) q (by omega)
      · rw [e1] at z
        refine rf_SV_up h hn hi h0 hm2 z (fun r q r0 r1 hq => ?_) (by rw [g1]) (by rw [g2]) (fun v _ q hq _ => by rw [g3 x hx]; exact hq) (k4 z)
        rw [g3 r (by omega)] at hq
        exact ⟨hq, (k.1 r r0 r1).2.1 q hq⟩
  · obtain ⟨⟨z1, z2⟩, z3, z4⟩ := z
    have hne : a ≠ s.1 66 61 := fun e => by
      rw [e] at z3
      exact z3 eh
    refine ⟨⟨z1, by omega⟩, by rw [← e111 a.toNat (by omega)]; exact z3, by rw [← g1]; exact z4⟩
/-- an unknown is solved -/
theorem rf_MI_set {nb ib nb' ib' : Int} {s t : sx_S} {g g' : rf_Gh} {x : Int} (h : rf_EX nb ib s t) (hn : nb ≤ nb') (hi : ib ≤ ib') (hx0 : 0 ≤ x) (hxm : x < s.1 66 61) (e61 : t.1 66 61 = s.1 66 61) (hs0 : s.2.1 111 x.toNat = 0) (ht0 : t.2.1 111 x.toNat ≠ 0) (e111 : ∀ j : Nat, (j : Int) < s.1 66 61 → (j : Int) ≠ x → t.2.1 111 j = s.2.1 111 j) (g1 : ∀ z, z ≠ x → g'.1 z = g.1 z) (g2 : ∀ z, z ≠ x → g'.2.1 z = g.2.1 z) (g3 : ∀ z, z ≠ x → g'.2.2 z = g.2.2 z) (g4 : ∀ q : Nat, g'.2.2 x q → (q : Int) < rf_aa s x) (hSV : rf_SV nb' ib' t g' x) (hA : ∀ z, (rf_oc (g'.1 x)).1 z → z ≠ x ∧ ¬ rf_rc (rf_Ed s g) z x) (k : rf_MI nb ib s g) : rf_MI nb' ib' t g' ∧ rf_EG s g g' := by
  have hU : ∀ r q, 0 ≤ r → r < s.1 66 61 → g'.2.2 r q → g.2.2 r q ∧ (q : Int) < rf_aa s r := fun r q r0 r1 hq => by
    by_cases e : r = x
    · subst e
      exact ⟨(k.1 r r0 r1).2.2.1 hs0 q (g4 q hq), g4 q hq⟩
    · rw [g3 r e] at hq
      exact ⟨hq, (k.1 r r0 r1).2.1 q hq⟩
  have hEG : rf_EG s g g' := fun z z0 z1 => ⟨fun q => by
    have e : z ≠ x := fun e => by
      rw [e] at q
      exact q hs0
    exact ⟨g1 z e, g2 z e⟩, fun q hq => (hU z q z0 z1 hq).1⟩
  refine ⟨⟨fun y h0 hm => ?_, ?_⟩, hEG⟩
  · rw [e61] at hm
    obtain ⟨k1, k2, k3, k4⟩ := k.1 y h0 hm
    have eaa := h.aa h0 hm
    by_cases e : y = x
    · subst e
      refine ⟨fun q hq => ?_, fun q hq => by have := g4 q hq; omega, fun z => absurd z ht0, fun _ => hSV⟩
      obtain ⟨T, hT⟩ := k1 q (by omega)
      exact ⟨T, h.pt h0 hm hT⟩
    · have e1 := e111 y.toNat (by omega) (by omega)
      refine ⟨fun q hq => ?_, fun q hq => ?_, fun z q hq => ?_, fun z => ?_⟩
      · obtain ⟨T, hT⟩ := k1 q (by omega)
        exact ⟨T, h.pt h0 hm hT⟩
      · rw [g3 y e] at hq
        have := k2 q hq
        omega
      · rw [g3 y e]
        exact k3 (by rw [← e1]; exact z) q (by omega)
      · rw [e1] at z
        exact rf_SV_up h hn hi h0 hm z hU (g1 y e) (g2 y e) (fun v _ q hq _ => by rw [g3 y e]; exact hq) (k4 z)
  · refine rf_rc_acy (E := rf_Ed s g) (m := x) (S := fun z => (rf_oc (g'.1 x)).1 z) (fun a b z => ?_) hA k.2
    obtain ⟨⟨z1, z2⟩, z3, z4⟩ := z
    rw [e61] at z2
    by_cases e : a = x
    · subst e
      exact Or.inr ⟨rfl, z4⟩
    · refine Or.inl ⟨⟨z1, z2⟩, by rw [← e111 a.toNat (by omega) (by omega)]; exact z3, ?_⟩
      rw [← g1 a e]
      exact z4
/-- fewer variables are used than was thought -/
theorem rf_MI_shr {nb ib : Int} {s : sx_S} {g g' : rf_Gh} {x : Int} {p : Nat → Prop} (hs : s.2.1 111 x.toNat ≠ 0) (g1 : g'.1 = g.1) (g2 : g'.2.1 = g.2.1) (g3 : ∀ r q, g'.2.2 r q ↔ g.2.2 r q ∧ (r = x → p q)) (hp : ∀ v, (rf_fo (rf_Wd s g.2.2) (g.1 x)).1 v → ∀ q, g.2.2 x q → rf_look (g.2.1 x) v = rf_fm s x q → p q) (k : rf_MI nb ib s g) : rf_MI nb ib s g' ∧ rf_EG s g g' := by
  have hU : ∀ r q, 0 ≤ r → r < s.1 66 61 → g'.2.2 r q → g.2.2 r q ∧ (q : Int) < rf_aa s r := fun r q r0 r1 hq => ⟨((g3 r q).mp hq).1, (k.1 r r0 r1).2.1 q ((g3 r q).mp hq).1⟩
  refine ⟨⟨fun y h0 hm => ?_, fun y q => k.2 y (rf_rc_mono (fun a b z => ?_) q)⟩, fun z z0 z1 => ⟨fun _ => ⟨by rw [g1], by rw [g2]⟩, fun q hq => ((g3 z q).mp hq).1⟩⟩
  · obtain ⟨k1, k2, k3, k4⟩ := k.1 y h0 hm
    refine ⟨k1, fun q hq => (hU y q h0 hm hq).2, fun z q hq => (g3 y q).mpr ⟨k3 z q hq, fun e => ?_⟩, fun z => ?_⟩
    · rw [e] at z
      exact absurd z hs
    · have hfo := fun v => (rf_Wd_up (rf_EX_refl nb ib s) hU (n := g.1 y)).1 ((rf_bn_gn (k4 z).1.1).1 _ (k4 z).1.2.1) v
      refine rf_SV_up (rf_EX_refl nb ib s) (Int.le_refl _) (Int.le_refl _) h0 hm z hU (by rw [g1]) (by rw [g2]) (fun v hv q hq hl => (g3 y q).mpr ⟨hq, fun e => ?_⟩) (k4 z)
      subst e
      exact hp v (hfo v hv) q hq hl
  · obtain ⟨z1, z3, z4⟩ := z
    exact ⟨z1, z3, by rw [← g1]; exact z4⟩
end
section
/-! ===== the reference: sums over the unknowns, ways, names ===== -/
def rf_wt (s : sx_S) (g : rf_Gh) (x : Nat) : Nat := if s.2.1 111 x = 0 then 200 + 6 * (1 + (s.2.1 108 x).toNat) else (rf_wh (g.1 (x : Int))).1
def rf_ph (s : sx_S) (g : rf_Gh) : Nat := rf_sum (rf_wt s g) (s.1 66 61).toNat
def rf_q1 (s : sx_S) (x : Nat) : Nat := if s.2.1 111 x = 0 then 1 + (s.2.1 108 x).toNat else 0
def rf_qu (s : sx_S) : Nat := rf_sum (rf_q1 s) (s.1 66 61).toNat
/-- there is room for all that may still be solved -/
def rf_RM (e : Int) (s : sx_S) : Prop := s.1 66 50 + (rf_qu s : Int) ≤ 59900 ∧ s.1 66 56 + 12 * (rf_qu s : Int) ≤ 119000 + e ∧ s.1 66 61 + (rf_qu s : Int) ≤ 2900 ∧ s.1 66 64 + 4 * (rf_qu s : Int) ≤ 19000 ∧ s.1 66 70 + 2 * (rf_qu s : Int) ≤ 100 ∧ 0 ≤ s.1 66 70
theorem rf_qu_same {s t : sx_S} (e61 : t.1 66 61 = s.1 66 61) (e : ∀ j : Nat, (j : Int) < s.1 66 61 → t.2.1 111 j = s.2.1 111 j ∧ t.2.1 108 j = s.2.1 108 j) : rf_qu t = rf_qu s := by
  unfold rf_qu
  rw [e61]
  refine rf_sum_congr (fun j hj => ?_)
  obtain ⟨e1, e2⟩ := e j (by omega)
  unfold rf_q1
  rw [e1, e2]
theorem rf_ph_same {s t : sx_S} {g g' : rf_Gh} (e61 : t.1 66 61 = s.1 66 61) (e : ∀ j : Nat, (j : Int) < s.1 66 61 → t.2.1 111 j = s.2.1 111 j ∧ t.2.1 108 j = s.2.1 108 j) (hg : ∀ j : Nat, (j : Int) < s.1 66 61 → s.2.1 111 j ≠ 0 → g'.1 (j : Int) = g.1 (j : Int)) : rf_ph t g' = rf_ph s g := by
  unfold rf_ph
  rw [e61]
  refine rf_sum_congr (fun j hj => ?_)
  obtain ⟨e1, e2⟩ := e j (by omega)
  unfold rf_wt
  rw [e1, e2]
  by_cases c : s.2.1 111 j = 0
  · rw [if_pos c, if_pos c]
  · rw [if_neg c, if_neg c, hg j (by omega) c]
theorem rf_sum_s (f : Nat → Nat) (n : Nat) : rf_sum f (n + 1) = rf_sum f n + f n := rfl
theorem rf_qu_new {s t : sx_S} (r61 : 0 ≤ s.1 66 61) (e61 : t.1 66 61 = s.1 66 61 + 1) (e : ∀ j : Nat, (j : Int) < s.1 66 61 → t.2.1 111 j = s.2.1 111 j ∧ t.2.1 108 j = s.2.1 108 j) (eh : t.2.1 111 (s.1 66 61).toNat = 0) : rf_qu t = rf_qu s + (1 + (rf_aa t (s.1 66 61)).toNat) := by
  unfold rf_qu
  rw [show (t.1 66 61).toNat = (s.1 66 61).toNat + 1 by omega, rf_sum_s]
  have h1 : rf_sum (rf_q1 t) (s.1 66 61).toNat = rf_sum (rf_q1 s) (s.1 66 61).toNat := rf_sum_congr (fun j hj => by
    obtain ⟨e1, e2⟩ := e j (by omega)
    unfold rf_q1
    rw [e1, e2])
  have h2 : rf_q1 t (s.1 66 61).toNat = 1 + (rf_aa t (s.1 66 61)).toNat := by
    unfold rf_q1
    rw [if_pos eh]
    rfl
  rw [h1, h2]
theorem rf_ph_new {s t : sx_S} {g g' : rf_Gh} (r61 : 0 ≤ s.1 66 61) (e61 : t.1 66 61 = s.1 66 61 + 1) (e : ∀ j : Nat, (j : Int) < s.1 66 61 → t.2.1 111 j = s.2.1 111 j ∧ t.2.1 108 j = s.2.1 108 j) (eh : t.2.1 111 (s.1 66 61).toNat = 0) (hg : g'.1 = g.1) : rf_ph t g' = rf_ph s g + (200 + 6 * (1 + (rf_aa t (s.1 66 61)).toNat)) := by
  unfold rf_ph
  rw [show (t.1 66 61).toNat = (s.1 66 61).toNat + 1 by omega, rf_sum_s]
  have h1 : rf_sum (rf_wt t g') (s.1 66 61).toNat = rf_sum (rf_wt s g) (s.1 66 61).toNat := rf_sum_congr (fun j hj => by
    obtain ⟨e1, e2⟩ := e j (by omega)
    unfold rf_wt
    rw [e1, e2, hg])
  have h2 : rf_wt t g' (s.1 66 61).toNat = 200 + 6 * (1 + (rf_aa t (s.1 66 61)).toNat) := by
    unfold rf_wt
    rw [if_pos eh]
    rfl
  rw [h1, h2]
theorem rf_qu_set {s t : sx_S} {x : Int} (hx0 : 0 ≤ x) (hxm : x < s.1 66 61) (e61 : t.1 66 61 = s.1 66 61) (hs0 : s.2.1 111 x.toNat = 0) (ht0 : t.2.1 111 x.toNat ≠ 0) (e : ∀ j : Nat, (j : Int) < s.1 66 61 → (j : Int) ≠ x → t.2.1 111 j = s.2.1 111 j ∧ t.2.1 108 j = s.2.1 108 j) : rf_qu t + (1 + (rf_aa s x).toNat) = rf_qu s := by
  unfold rf_qu
  rw [e61]
  have h1 : ∀ j, j < (s.1 66 61).toNat → (if j = x.toNat then 0 else rf_q1 s j) = rf_q1 t j := fun j hj => by
    by_cases c : j = x.toNat
    · rw [if_pos c, c]
      unfold rf_q1
      rw [if_neg ht0]
    · rw [if_neg c]
      obtain ⟨e1, e2⟩ := e j (by omega) (by omega)
      unfold rf_q1
      rw [e1, e2]
  rw [← rf_sum_congr h1]
  have h2 := rf_sum_upd (f := fun j => if j = x.toNat then 0 else rf_q1 s j) (g := rf_q1 s) (x := x.toNat) (n := (s.1 66 61).toNat) (by omega) (fun j hj => if_neg hj)
  have h3 : rf_q1 s x.toNat = 1 + (rf_aa s x).toNat := by
    unfold rf_q1
    rw [if_pos hs0]
    rfl
  try dsimp only at h2
  rw [if_pos rfl] at h2
  omega
theorem rf_ph_set {s t : sx_S} {g g' : rf_Gh} {x : Int} (hx0 : 0 ≤ x) (hxm : x < s.1 66 61) (e61 : t.1 66 61 = s.1 66 61) (hs0 : s.2.1 111 x.toNat = 0) (ht0 : t.2.1 111 x.toNat ≠ 0) (e : ∀ j : Nat, (j : Int) < s.1 66 61 → (j : Int) ≠ x → t.2.1 111 j = s.2.1 111 j ∧ t.2.1 108 j = s.2.1 108 j) (hg : ∀ z, z ≠ x → g'.1 z = g.1 z) : rf_ph t g' + (200 + 6 * (1 + (rf_aa s x).toNat)) = rf_ph s g + (rf_wh (g'.1 x)).1 := by
  unfold rf_ph
  rw [e61]
  have h1 : ∀ j, j < (s.1 66 61).toNat → (if j = x.toNat then (rf_wh (g'.1 x)).1 else rf_wt s g j) = rf_wt t g' j := fun j hj => by
    by_cases c : j = x.toNat
    · rw [if_pos c, c]
      unfold rf_wt
      rw [if_neg ht0, Int.toNat_of_nonneg hx0]
    · rw [if_neg c]
      obtain ⟨e1, e2⟩ := e j (by omega) (by omega)
      unfold rf_wt
      rw [e1, e2, hg _ (by omega)]
  rw [← rf_sum_congr h1]
  have h2 := rf_sum_upd (f := fun j => if j = x.toNat then (rf_wh (g'.1 x)).1 else rf_wt s g j) (g := rf_wt s g) (x := x.toNat) (n := (s.1 66 61).toNat) (by omega) (fun j hj => if_neg hj)
  have h3 : rf_wt s g x.toNat = 200 + 6 * (1 + (rf_aa s x).toNat) := by
    unfold rf_wt
    rw [if_pos hs0]
    rfl
  try dsimp only at h2
  rw [if_pos rfl] at h2
  omega
theorem rf_lsum_mono {f g : Nat → Nat} : ∀ {l : List Nat}, (∀ x ∈ l, f x ≤ g x) → rf_lsum f l ≤ rf_lsum g l
  | [], _ => Nat.le_refl _
  | x :: l, h => by
    have h1 := h x List.mem_cons_self
    have h2 := rf_lsum_mono (l := l) (fun y hy => h y (List.mem_cons_of_mem _ hy))
    show f x + rf_lsum f l ≤ g x + rf_lsum g l
    omega
/-! ways: the unknowns that were entered; O: the unknowns of what is left, h: its height, p: what is left of the way -/
def rf_wy (s : sx_S) (g : rf_Gh) (W : List Nat) (O : Int → Prop) (h p : Nat) : Prop := W.Nodup ∧ (∀ x ∈ W, (x : Int) < s.1 66 61 ∧ s.2.1 111 x ≠ 0 ∧ ∀ z, O z → rf_rc (rf_Ed s g) (x : Int) z) ∧ 1150 + h ≤ p + rf_lsum (fun x => (rf_wh (g.1 (x : Int))).1) W
theorem rf_wy_le {s : sx_S} {g : rf_Gh} {W : List Nat} {O O' : Int → Prop} {h h' p p' : Nat} (hO : ∀ z, O' z → O z) (hh : h' + p ≤ h + p') (k : rf_wy s g W O h p) : rf_wy s g W O' h' p' := ⟨k.1, fun x hx => ⟨(k.2.1 x hx).1, (k.2.1 x hx).2.1, fun z hz => (k.2.1 x hx).2.2 z (hO z hz)⟩, by have := k.2.2; omega⟩
theorem rf_wy_up {nb ib : Int} {s t : sx_S} {g g' : rf_Gh} (h : rf_EX nb ib s t) (hg : rf_EG s g g') {W : List Nat} {O : Int → Prop} {a p : Nat} (k : rf_wy s g W O a p) : rf_wy t g' W O a p := by
  obtain ⟨k1, k2, k3⟩ := k
  have e8 := h.1.2.2.2.1
  refine ⟨k1, fun x hx => ?_, ?_⟩
  · obtain ⟨c1, c2, c3⟩ := k2 x hx
    have e := ((h.2 x).2.2.2.1 c1).2.2 c2
    exact ⟨by omega, by rw [e.1]; exact c2, fun z hz => rf_rc_up h hg (c3 z hz)⟩
  · have := rf_lsum_mono (f := fun x => (rf_wh (g.1 (x : Int))).1) (g := fun x => (rf_wh (g'.1 (x : Int))).1) (l := W) (fun x hx => by
      obtain ⟨c1, c2, _⟩ := k2 x hx
      try dsimp only
      rw [((hg (x : Int) (by omega) c1).1 (by rw [Int.toNat_natCast]; exact c2)).1]
      exact Nat.le_refl _)
    omega
theorem rf_wy_pos {s : sx_S} {g : rf_Gh} {W : List Nat} {O : Int → Prop} {a p : Nat} (k : rf_wy s g W O a p) (hp : rf_ph s g ≤ 1150) : a ≤ p := by
  obtain ⟨k1, k2, k3⟩ := k
  have h1 := rf_lsum_mono (f := fun x => (rf_wh (g.1 (x : Int))).1) (g := rf_wt s g) (l := W) (fun x hx => by
    obtain ⟨c1, c2, _⟩ := k2 x hx
    unfold rf_wt
    rw [if_neg c2]
    exact Nat.le_refl _)
  have h2 := rf_lsum_le (rf_wt s g) (s.1 66 61).toNat W k1 (fun x hx => by have := (k2 x hx).1; omega)
  unfold rf_ph at hp
  omega
theorem rf_wy_in {nb ib : Int} {s : sx_S} {g : rf_Gh} {W : List Nat} {O : Int → Prop} {a p : Nat} {x : Int} (k : rf_wy s g W O a p) (hM : rf_MI nb ib s g) (hp : rf_ph s g ≤ 1150) (hO : O x) (ha : 5 ≤ a) (h0 : 0 ≤ x) (hm : x < s.1 66 61) (hs : s.2.1 111 x.toNat ≠ 0) : rf_wy s g (x.toNat :: W) (rf_oc (g.1 x)).1 (rf_wh (g.1 x)).1 (p - 5) := by
  have hap := rf_wy_pos k hp
  obtain ⟨k1, k2, k3⟩ := k
  have ex : ((x.toNat : Nat) : Int) = x := Int.toNat_of_nonneg h0
  refine ⟨List.nodup_cons.mpr ⟨fun hx => ?_, k1⟩, fun y hy => ?_, ?_⟩
  · have := (k2 _ hx).2.2 x hO
    rw [ex] at this
    exact hM.2 x this
  · rcases List.mem_cons.mp hy with rfl | hy
    · refine ⟨by omega, hs, fun z hz => ?_⟩
      rw [ex]
      exact .single ⟨⟨h0, hm⟩, hs, hz⟩
    · obtain ⟨c1, c2, c3⟩ := k2 y hy
      exact ⟨c1, c2, fun z hz => .tail (c3 x hO) ⟨⟨h0, hm⟩, hs, hz⟩⟩
  · show 1150 + (rf_wh (g.1 x)).1 ≤ p - 5 + ((rf_wh (g.1 ((x.toNat : Nat) : Int))).1 + rf_lsum (fun x => (rf_wh (g.1 (x : Int))).1) W)
    rw [ex]
    omega
/-! names -/
def rf_NM (s : sx_S) (N : Int → rf_T → Prop) (y : rf_Y) (i : Int) : Prop := rf_bs s y i ∧ rf_bd (s.1 66 58) y ∧ rf_ok (rf_vb (s.1 66 58) s) N y ∧ (rf_dp y : Int) ≤ s.1 66 70
theorem rf_NM_up {s t : sx_S} (h : rf_EX (s.1 66 71) (s.1 66 58) s t) (hn : s.1 66 71 ≤ t.1 66 71) (hi : s.1 66 58 ≤ t.1 66 58) {N : Int → rf_T → Prop} {y : rf_Y} {i : Int} (k : rf_NM s N y i) : rf_NM t N y i := by
  obtain ⟨k1, k2, k3, k4⟩ := k
  have e8 := h.1.2.2.2.2.2
  exact ⟨rf_by_mono (fun j hj => (h.2 j).2.2.2.2.2 hj) hn k1, rf_bd_mono hi k2, rf_okV_up h hi k2 k3, by omega⟩
theorem rf_NM_nil {s : sx_S} (h : 0 ≤ s.1 66 70) : rf_NM s (fun _ _ => False) .leaf (-1) := ⟨rfl, trivial, rf_ok_nil, h⟩
/-- a variable is called by a new one -/
theorem rf_NM_one {t : sx_S} {N : Int → rf_T → Prop} (hN : ∀ v x, N v x → v < 0) {y : rf_Y} {i z f v : Int} {A : rf_T} (hz : 0 ≤ z ∧ z < t.1 66 71) (hm : rf_nm t z f v i) (hf : rf_vb (t.1 66 58) t f A) (hv : rf_vb (t.1 66 58) t v A) (k : rf_NM t N y i) : rf_NM t N (rf_one f v y) z := by
  obtain ⟨k1, k2, k3, k4⟩ := k
  have f0 := hf.1
  have v0 := hv.1
  refine ⟨rf_bs_one hz hm (by omega) k1, ⟨⟨f0.2, v0.1, v0.2⟩, k2⟩, rf_ok_one k3 (fun u q => ?_), k4⟩
  rcases q with q | q
  · rw [← rf_vb_inj hf q]
    exact hv
  · have := hN _ _ q
    omega
theorem rf_bh_bd {b : Int} {a c : rf_Y} (ha : rf_bd b a) (hc : rf_bd b c) : rf_bd b (rf_bh a c) := by
  cases a with
  | leaf => exact hc
  | inner n k u l r =>
    cases c with
    | leaf => exact ha
    | inner n' k' u' l' r' => exact ⟨ha, hc⟩
theorem rf_Nx_neg {s : sx_S} {x : Int} : ∀ v T, rf_Nx s x v T → v < 0 := fun _ _ h => h.1
/-- what is known of a node before an unknown that is entered -/
theorem rf_NM_enter {nb ib ib2 : Int} {s t : sx_S} {g : rf_Gh} {N : Int → rf_T → Prop} {y : rf_Y} {i n z : Int} {k x : Int} {u : rf_T} (hM : rf_SV nb ib s g x) (hi : ib ≤ s.1 66 58) (hib2 : ib2 ≤ s.1 66 58) (hH : rf_Hn ib2 s N n.toNat k x u) (hk : k = 3) (hy : rf_NM s N y i) (h : rf_EX (s.1 66 71) (s.1 66 58) s t) (hn : s.1 66 71 ≤ t.1 66 71) (hi2 : t.1 66 58 = s.1 66 58) (hz : rf_bs t (rf_bh (g.2.1 x) (rf_row (rf_fm s x) (rf_vo s y n) (rf_aa s x).toNat)) z) : rf_NM t (rf_Nx s x) (rf_bh (g.2.1 x) (rf_row (rf_fm s x) (rf_vo s y n) (rf_aa s x).toNat)) z := by
  obtain ⟨a, ⟨b1, b2, b3, b4⟩, ⟨⟨c1, c2⟩, c3, c4, c5⟩, d1, d2⟩ := hM
  obtain ⟨h1, h2, h3, h4⟩ := rf_Hn_3 hH hk
  obtain ⟨y1, y2, y3, y4⟩ := hy
  have e8 := h.1.2.2.2.2.2
  have hvo : ∀ q : Nat, (q : Int) < rf_aa s x → ∃ T, rf_py s x q T ∧ rf_vb (s.1 66 58) s (rf_vo s y n q) T := fun q hq => by
    obtain ⟨T, t1, t2⟩ := h4 q hq
    exact ⟨T, t1, y3 _ T (t2.elim (fun w => Or.inl (rf_vb_le hib2 w)) Or.inr)⟩
  have hrow : rf_ok (rf_vb (s.1 66 58) s) (fun _ _ => False) (rf_row (rf_fm s x) (rf_vo s y n) (rf_aa s x).toNat) := by
    refine rf_row_ok (fun q hq w hw => ?_) (fun _ _ q => q.elim)
    have hq2 : (q : Int) < rf_aa s x := by omega
    have hw2 := hw.elim id (fun q => q.elim)
    obtain ⟨T, t1, t2⟩ := hvo q hq2
    rcases c3 q hq2 with ⟨T', r1, r2⟩ | r
    · rw [rf_vb_inj hw2 r2, rf_py_inj r1 t1]
      exact t2
    · have := hw2.1.1
      omega
  have hYs : rf_ok (rf_vb (s.1 66 58) s) (fun _ _ => False) (g.2.1 x) := rf_okV_up (rf_EX_refl nb ib s) hi b2 b3
  have hbd : rf_bd (s.1 66 58) (rf_bh (g.2.1 x) (rf_row (rf_fm s x) (rf_vo s y n) (rf_aa s x).toNat)) := by
    refine rf_bh_bd (rf_bd_mono hi b2) (rf_row_bd (fun q hq => ?_))
    have hq2 : (q : Int) < rf_aa s x := by omega
    obtain ⟨T, _, t2⟩ := hvo q hq2
    refine ⟨?_, t2.1⟩
    rcases c3 q hq2 with ⟨T', _, r2⟩ | r
    · have := r2.1
      omega
    · have := t2.1
      omega
  have hok : rf_ok (rf_vb (s.1 66 58) s) (rf_Nx s x) (rf_bh (g.2.1 x) (rf_row (rf_fm s x) (rf_vo s y n) (rf_aa s x).toNat)) := by
    intro v T q
    rw [rf_bh_look]
    rcases q with q | ⟨q0, q, q1, q2, q3⟩
    · exact hrow _ T (Or.inl (hYs v T (Or.inl q)))
    · have hl : g.2.1 x = .leaf := c4.elim (fun z => z.1) (fun w => by
        have := w q q1
        omega)
      rw [hl]
      show rf_vb _ s (rf_look _ v) T
      rw [q2, rf_row_look (fun a b ha hb => c5 a b (by omega) (by omega)) (by omega)]
      obtain ⟨T', t1, t2⟩ := hvo q q1
      rw [rf_py_inj q3 t1]
      exact t2
  have hdp := rf_bh_dp (g.2.1 x) (rf_row (rf_fm s x) (rf_vo s y n) (rf_aa s x).toNat)
  rw [rf_row_dp] at hdp
  refine ⟨hz, by rw [hi2]; exact hbd, ?_, by omega⟩
  exact rf_okV_up h (by omega) hbd hok
/-- what a free variable of the body is called -/
theorem rf_en_look {nb ib : Int} {s : sx_S} {g : rf_Gh} {y : rf_Y} {n x : Int} (hM : rf_MX nb ib s g x) (hs : s.2.1 111 x.toNat ≠ 0) {v : Int} (hv : (rf_fo (rf_Wd s g.2.2) (g.1 x)).1 v) : ∃ q : Nat, g.2.2 x q ∧ rf_look (g.2.1 x) v = rf_fm s x q ∧ rf_look (rf_bh (g.2.1 x) (rf_row (rf_fm s x) (rf_vo s y n) (rf_aa s x).toNat)) v = rf_look y (rf_rv1 s n.toNat q) := by
  obtain ⟨k1, k2, k3, k4⟩ := hM
  obtain ⟨a, b, ⟨_, _, _, c5⟩, d1, d2⟩ := k4 hs
  obtain ⟨q, q1, q2⟩ := d1 v hv
  have q3 := k2 q q1
  refine ⟨q, q1, q2, ?_⟩
  rw [rf_bh_look, q2, rf_row_look (fun a b ha hb => c5 a b (by omega) (by omega)) (by omega)]
  rfl
def rf_ij (F : Int → Prop) (y : rf_Y) : Prop := ∀ v w, F v → F w → rf_look y v = rf_look y w → v = w
theorem rf_ij_le {F F' : Int → Prop} {y : rf_Y} (h : ∀ v, F' v → F v) (k : rf_ij F y) : rf_ij F' y := fun v w a b => k v w (h v a) (h w b)
theorem rf_ij_in {nb ib : Int} {s : sx_S} {g : rf_Gh} {y : rf_Y} {n x : Int} (hM : rf_MX nb ib s g x) (hs : s.2.1 111 x.toNat ≠ 0) (hd : rf_di s g.2.2 n.toNat x) (k : rf_ij (rf_Wd s g.2.2 n.toNat x) y) : rf_ij (rf_fo (rf_Wd s g.2.2) (g.1 x)).1 (rf_bh (g.2.1 x) (rf_row (rf_fm s x) (rf_vo s y n) (rf_aa s x).toNat)) := by
  intro v w hv hw e
  obtain ⟨p, p1, p2, p3⟩ := rf_en_look (y := y) (n := n) hM hs hv
  obtain ⟨q, q1, q2, q3⟩ := rf_en_look (y := y) (n := n) hM hs hw
  rw [p3, q3] at e
  have e2 := hd p q p1 q1 (k _ _ ⟨p, p1, rfl⟩ ⟨q, q1, rfl⟩ e)
  subst e2
  exact (hM.2.2.2 hs).2.2.2.2 v w hv hw (by rw [p2, q2])
theorem rf_ij_one {F F' : Int → Prop} {y : rf_Y} {f v : Int} (hF : ∀ w, F' w → w ≠ f → F w) (hv : ∀ w, F w → rf_look y w ≠ v) (k : rf_ij F y) : rf_ij F' (rf_one f v y) := by
  intro a b ha hb e
  have e2 : (if f = a then v else rf_look y a) = (if f = b then v else rf_look y b) := e
  by_cases ca : f = a
  · by_cases cb : f = b
    · omega
    · rw [if_pos ca, if_neg cb] at e2
      exact absurd e2.symm (hv b (hF b hb (fun q => cb q.symm)))
  · by_cases cb : f = b
    · rw [if_neg ca, if_pos cb] at e2
      exact absurd e2 (hv a (hF a ha (fun q => ca q.symm)))
    · rw [if_neg ca, if_neg cb] at e2
      exact k a b (hF a ha (fun q => ca q.symm)) (hF b hb (fun q => cb q.symm)) e2
end
section
/-! ===== the reference: an unknown that becomes another one ===== -/
theorem rf_MI_head {nb ib : Int} {u t : sx_S} {g : rf_Gh} {x h : Int} {J : Nat} (hE : rf_EX nb ib u t) (hx0 : 0 ≤ x) (hxm : x < u.1 66 61) (e61 : t.1 66 61 = u.1 66 61) (hs0 : u.2.1 111 x.toNat = 0) (ht0 : t.2.1 111 x.toNat ≠ 0) (e111 : ∀ j : Nat, (j : Int) < u.1 66 61 → (j : Int) ≠ x → t.2.1 111 j = u.2.1 111 j) (hh0 : 0 ≤ h) (hhm : h < u.1 66 61) (hhx : h ≠ x) (hho : u.2.1 111 h.toNat = 0) (hJ : (J : Int) < t.1 66 50) (hk : t.2.1 100 J = 3 ∧ t.2.1 101 J = h ∧ t.2.1 102 J = -1 ∧ t.2.1 103 J = -1) (hb : 0 ≤ t.2.1 104 J ∧ t.2.1 104 J + rf_aa t h ≤ t.1 66 56) (e113 : t.2.1 113 x.toNat = (J : Int)) (e114 : t.2.1 114 x.toNat = -1) (h70 : 1 ≤ t.1 66 70) (hf1 : 0 ≤ t.2.1 112 x.toNat ∧ t.2.1 112 x.toNat + rf_aa t x ≤ t.1 66 56) (hf2 : ∀ q : Nat, (q : Int) < rf_aa t x → (∃ T, rf_py t x q T ∧ rf_vb ib t (rf_fm t x q) T) ∨ rf_fm t x q = -2 - (q : Int)) (hf3 : ∀ p q : Nat, (p : Int) < rf_aa t x → (q : Int) < rf_aa t x → rf_fm t x p = rf_fm t x q → p = q) (hrow : ∀ i : Nat, (i : Int) < rf_aa t h → ∃ p : Nat, (p : Int) < rf_aa t x ∧ rf_rv1 t J i = rf_fm t x p ∧ ∀ T, rf_py t h i T → rf_py t x p T) (hinj : ∀ i i' : Nat, (i : Int) < rf_aa t h → (i' : Int) < rf_aa t h → rf_rv1 t J i = rf_rv1 t J i' → i = i') (k : rf_MI nb ib u g) : ∃ g' : rf_Gh, rf_MI nb ib t g' ∧ rf_EG u g g' ∧ g'.1 x = rf_n J 3 h .leaf .leaf ∧ (∀ z, z ≠ x → g'.1 z = g.1 z) ∧ (∀ z, z ≠ x → g'.2.2 z = g.2.2 z) ∧ (∀ q, g'.2.2 x q → ∃ i : Nat, (i : Int) < rf_aa t h ∧ (q : Int) < rf_aa t x ∧ rf_rv1 t J i = rf_fm t x q) := by
  have eaa := hE.aa hh0 hhm
  have eax := hE.aa hx0 hxm
  refine ⟨(fun z => if z = x then rf_n J 3 h .leaf .leaf else g.1 z, fun z => if z = x then .leaf else g.2.1 z, fun z q => if z = x then (∃ i : Nat, (i : Int) < rf_aa t h ∧ (q : Int) < rf_aa t x ∧ rf_rv1 t J i = rf_fm t x q) else g.2.2 z q), ?_⟩
  generalize hg : ((fun z => if z = x then rf_n J 3 h .leaf .leaf else g.1 z, fun z => if z = x then .leaf else g.2.1 z, fun z q => if z = x then (∃ i : Nat, (i : Int) < rf_aa t h ∧ (q : Int) < rf_aa t x ∧ rf_rv1 t J i = rf_fm t x q) else g.2.2 z q) : rf_Gh) = g'
  have a1 : g'.1 x = rf_n J 3 h .leaf .leaf := by rw [← hg]; exact if_pos rfl
  have a2 : g'.2.1 x = .leaf := by rw [← hg]; exact if_pos rfl
  have a3 : ∀ q, g'.2.2 x q ↔ ∃ i : Nat, (i : Int) < rf_aa t h ∧ (q : Int) < rf_aa t x ∧ rf_rv1 t J i = rf_fm t x q := fun q => by
    rw [← hg]
    dsimp only
    rw [if_pos rfl]
  have b1 : ∀ z, z ≠ x → g'.1 z = g.1 z := fun z e => by rw [← hg]; exact if_neg e
  have b2 : ∀ z, z ≠ x → g'.2.1 z = g.2.1 z := fun z e => by rw [← hg]; exact if_neg e
  have b3 : ∀ z, z ≠ x → g'.2.2 z = g.2.2 z := fun z e => by
    rw [← hg]
    funext q
    exact if_neg e
  have hU : ∀ q, g'.2.2 h q → (q : Int) < rf_aa t h := fun q hq => by
    rw [b3 h hhx] at hq
    have := (k.1 h hh0 hhm).2.1 q hq
    omega
  have hfo : ∀ v, (rf_fo (rf_Wd t g'.2.2) (g'.1 x)).1 v → ∃ i : Nat, (i : Int) < rf_aa t h ∧ v = rf_rv1 t J i := fun v hv => by
    rw [a1] at hv
    rcases hv with ⟨_, q, q1, q2⟩ | ⟨c, _⟩ | ⟨c, _⟩
    · exact ⟨q, hU q q1, q2⟩
    · exact absurd c (show ¬ (3 : Int) = 0 by decide)
    · exact absurd c (show ¬ ((3 : Int) = 1 ∨ (3 : Int) = 2) by decide)
  have hSV : rf_SV nb ib t g' x := by
    refine ⟨⟨?_, ?_, ?_, ?_⟩, ⟨?_, ?_, ?_, ?_⟩, ⟨hf1, hf2, Or.inl ⟨a2, by rw [a1]; rfl⟩, hf3⟩, fun v hv => ?_, fun v w hv hw e => ?_⟩
    · rw [a1, e113]
      refine ⟨⟨rfl, hJ⟩, ⟨hk.1, hk.2.1⟩, hk.2.2.1, hk.2.2.2⟩
    · rw [a1]
      refine Or.inr ⟨(show (3 : Int) ≠ 0 by decide), .leaf, Or.inr (Or.inr (Or.inr ⟨rfl, rfl, ⟨hh0, by omega⟩, hb, fun i hi => ?_⟩)), rfl, rfl⟩
      have hi : (i : Int) < rf_aa t h := hi
      obtain ⟨p, p1, p2, p3⟩ := hrow i hi
      obtain ⟨T, hT⟩ := (k.1 h hh0 hhm).1 i (by omega)
      have hT2 := hE.pt hh0 hhm hT
      refine ⟨T, hT2, ?_⟩
      rw [p2]
      rcases hf2 p p1 with ⟨T', t1, t2⟩ | z
      · rw [rf_py_inj (p3 T hT2) t1]
        exact Or.inl t2
      · exact Or.inr ⟨by omega, p, p1, rfl, p3 T hT2⟩
    · rw [a1]
      show (5 : Nat) ≤ 200
      decide
    · rw [a1]
      exact ⟨fun _ p q hp hq e => hinj p q (hU p hp) (hU q hq) e, fun c => absurd c (show ¬ (3 : Int) = 0 by decide), fun c => absurd c (show ¬ ((3 : Int) = 1 ∨ (3 : Int) = 2) by decide)⟩
    · rw [a2]
      exact e114
    · rw [a2]
      trivial
    · rw [a2]
      exact rf_ok_nil
    · rw [a2]
      show ((0 : Nat) : Int) + 1 ≤ _
      omega
    · obtain ⟨i, i1, i2⟩ := hfo v hv
      obtain ⟨p, p1, p2, _⟩ := hrow i i1
      refine ⟨p, (a3 p).mpr ⟨i, i1, p1, p2⟩, ?_⟩
      rw [a2, i2]
      exact p2
    · rw [a2] at e
      exact e
  have := rf_MI_set hE (Int.le_refl _) (Int.le_refl _) hx0 hxm e61 hs0 ht0 e111 b1 b2 b3 (fun q hq => by
    obtain ⟨_, _, q2, _⟩ := (a3 q).mp hq
    omega) hSV (fun z hz => by
      rw [a1] at hz
      rcases hz with ⟨_, rfl⟩ | ⟨c, _⟩ | ⟨c, _⟩
      · refine ⟨hhx, fun q => rf_rc_out (fun b z => ?_) q⟩
        exact z.2.1 hho
      · exact absurd c (show ¬ (3 : Int) = 0 by decide)
      · exact absurd c (show ¬ ((3 : Int) = 1 ∨ (3 : Int) = 2) by decide)) k
  exact ⟨this.1, this.2, a1, b1, b3, fun q hq => (a3 q).mp hq⟩
/-! bits -/
/-- a bit is set -/
def rf_bt (b k : Int) : Prop := sx_b (fun x y => x &&& y) (sx_b (fun x y => x >>> (y &&& 31)) b k) 1 = 1
theorem rf_bits1 : ∀ b : Fin 16, ∀ k j : Fin 4, (0 ≤ sx_b (fun x y => x ||| y) (b.val : Int) (sx_b (fun x y => x <<< (y &&& 31)) 1 (k.val : Int)) ∧ sx_b (fun x y => x ||| y) (b.val : Int) (sx_b (fun x y => x <<< (y &&& 31)) 1 (k.val : Int)) ≤ 15) ∧ ((sx_b (fun x y => x &&& y) (sx_b (fun x y => x >>> (y &&& 31)) (sx_b (fun x y => x ||| y) (b.val : Int) (sx_b (fun x y => x <<< (y &&& 31)) 1 (k.val : Int))) (j.val : Int)) 1 = 1) ↔ (sx_b (fun x y => x &&& y) (sx_b (fun x y => x >>> (y &&& 31)) (b.val : Int) (j.val : Int)) 1 = 1 ∨ j.val = k.val)) := by decide +kernel
theorem rf_bits0 : ∀ b : Fin 16, sx_b (fun x y => x ||| y) (b.val : Int) 0 = (b.val : Int) := by decide +kernel
theorem rf_bitsM : ∀ b : Fin 16, ∀ a : Fin 5, (∀ j : Fin 4, a.val ≤ j.val → ¬ (sx_b (fun x y => x &&& y) (sx_b (fun x y => x >>> (y &&& 31)) (b.val : Int) (j.val : Int)) 1 = 1)) → ((b.val : Int) = sx_w true (sx_b (fun x y => x <<< (y &&& 31)) 1 (a.val : Int) - 1) ↔ ∀ j : Fin 4, j.val < a.val → sx_b (fun x y => x &&& y) (sx_b (fun x y => x >>> (y &&& 31)) (b.val : Int) (j.val : Int)) 1 = 1) := by decide +kernel
theorem rf_bitsZ : ∀ j : Fin 4, ¬ (sx_b (fun x y => x &&& y) (sx_b (fun x y => x >>> (y &&& 31)) 0 (j.val : Int)) 1 = 1) := by decide +kernel
/-- the bits so far: below k as G says, none from k on -/
def rf_bg (b k : Int) (G : Nat → Prop) : Prop := (0 ≤ b ∧ b ≤ 15) ∧ ∀ j : Nat, j < 4 → (rf_bt b (j : Int) → (j : Int) < k ∧ G j)
theorem rf_bg_m {b a : Int} {G : Nat → Prop} (ha : 0 ≤ a ∧ a ≤ 4) (h : rf_bg b a G) : b = sx_w true (sx_b (fun x y => x <<< (y &&& 31)) 1 a - 1) ↔ ∀ j : Nat, (j : Int) < a → rf_bt b (j : Int) := by
  obtain ⟨⟨h1, h2⟩, h3⟩ := h
  have eb : ((b.toNat : Nat) : Int) = b := by omega
  have ea : ((a.toNat : Nat) : Int) = a := by omega
  have e := rf_bitsM ⟨b.toNat, by omega⟩ ⟨a.toNat, by omega⟩
  dsimp only at e
  rw [eb, ea] at e
  have e2 := e (fun j hj q => by
    have := (h3 j.val j.isLt q).1
    omega)
  rw [e2]
  constructor
  · intro q j hj
    exact q ⟨j, by omega⟩ (by show j < a.toNat; omega)
  · intro q j hj
    exact q j.val (by omega)
end
